/-! looks whose answers are near at hand (wip/sim/g99c.py) -/
theorem Pc.eqA {x : Option (Int32 × St)} {A : Int32} {t : St} (h : x = some (A, t)) : Pc x (fun r _ => r = A) := by
  intro r u e
  rw [h] at e
  obtain ⟨rfl, rfl⟩ := some_pair e
  rfl
theorem q_in1 {n : Nat} {c : Int32} {t : St} (h1 : 1 ≤ n) (hn : n < 1000) {hi : Int64} (e : hi.toInt = (n : Int) - 1) (h : IsR n c) : FX12_in c.toInt64 (0 : Int64) hi t = some (1, t) := Ok.eq (e_inN h1 hn (fun _ _ _ => ⟨rfl, rfl⟩) (fun q => absurd h q) in0 e)
theorem q_in0 {n : Nat} {c : Int32} {t : St} (h1 : 1 ≤ n) (hn : n < 1000) {hi : Int64} (e : hi.toInt = (n : Int) - 1) (h : ¬ IsR n c) : FX12_in c.toInt64 (0 : Int64) hi t = some (0, t) := Ok.eq (e_inN h1 hn (fun j hj e => absurd ⟨j, hj, e⟩ h) (fun _ => ⟨rfl, rfl⟩) in0 e)
theorem q_placeOf {x n p : Nat} {o : Nat → Nat} {t : St} (g : netAt x = true) (hn : n < 10) (h : t x 0 = nI n) (ho : CO x n o t) (hP : PFX n n o) (hp : p < n) : FX5_placeOf x (nI p) t = some (nI (plc n o p), t) := by
  obtain ⟨p1, p2, p3⟩ := plc_in hn hP hp
  refine Ok.eq ?_
  unfold FX5_placeOf
  refine Ok.ckT g (Ok.bd (fun r u => t = u ∧ r = .inl (nI (plc n o p))) ?_ ?_)
  · refine Ok.count n (fun j c s => t = s ∧ c = nI j ∧ ∀ i, i < j → o i ≠ p) ?_ ?_ (Nat.zero_le _) ⟨rfl, rfl, fun i hi => by omega⟩
    · rintro j c s hj ⟨rfl, rfl, hI⟩
      unfold SX5_placeOf_2
      have o9 := hP.1 j hj
      refine Ok.rdE h (Ok.ifF (by rw [nI_leP (by omega) (by omega)]; omega) (Ok.ckT (inb_n (by omega) (by omega)) ?_))
      rw [nI_cl (by omega)]
      refine Ok.rdE (ho j hj) (Ok.cv (nI_eqP (by omega) (by omega)) (Ok.ite (fun c => Ok.ret ⟨rfl, ?_⟩) (fun c => Ok.ret ⟨rfl, nI_1 j, fun i hi => ?_⟩)))
      · rw [(p3 j hj).mp c]
      · by_cases e : i = j
        · rw [e]; exact c
        · exact hI i (by omega)
    · rintro c s ⟨rfl, rfl, hI⟩
      exact absurd p2 (hI _ p1)
  · rintro _ _ ⟨rfl, rfl⟩
    exact Ok.ret ⟨rfl, rfl⟩
theorem q_placeOfM {s n p : Nat} {o : Nat → Nat} {t : St} (hs : s < 3) (hn : n < 10) (ho : RO s n o t) (hP : PFX n n o) (hp : p < n) : FX12_placeOf (nI s) (nI p) t = some (nI (plc n o p), t) := by
  obtain ⟨p1, p2, p3⟩ := plc_in hn hP hp
  refine Ok.eq ?_
  unfold FX12_placeOf
  refine Ok.bd (fun r u => t = u ∧ r = nI (plc n o p)) ?_ (fun _ _ hu => Ok.ret hu)
  refine Ok.count n (fun j c s' => t = s' ∧ c = nI j ∧ ∀ i, i < j → o i ≠ p) ?_ ?_ (Nat.zero_le _) ⟨rfl, rfl, fun i hi => by omega⟩
  · rintro j c s' hj ⟨rfl, rfl, hI⟩
    unfold SX12_placeOf_2
    have o9 := hP.1 j hj
    refine Ok.bq (q_at ho hs hn hj) (Ok.cv (nI_eqP (by omega) (by omega)) (Ok.ite (fun c => Ok.ret ⟨rfl, ?_⟩) (fun c => Ok.ret ⟨rfl, nI_1 j, fun i hi => ?_⟩)))
    · rw [(p3 j hj).mp c]
    · by_cases e : i = j
      · rw [e]; exact c
      · exact hI i (by omega)
  · rintro c s' ⟨rfl, rfl, hI⟩
    exact absurd p2 (hI _ p1)
theorem z3_near {σ : St} (hI : INV3 σ) (a b : Int32) : BOTH (FX11_near a b σ) (fun u => FX12_near a b u) := by
  rcases r3 (a := a) with ⟨s, hs, rfl⟩ | ha
  · obtain ⟨v, h⟩ := hI.sl hs
    have hn : v.1 < 10 := h.1.1.1
    have hw := h.1.1.2.1
    have h0 := h.2.1.1.1
    have hr := h.2.2.1
    have gx := n_sl hs
    by_cases hb : IsR v.1 b
    · obtain ⟨i, hi, rfl⟩ := hb
      refine BOTH.no (v := nI (nr v.2.2.1 i)) hI ?_ ?_
      · unfold FX11_near
        refine Ok.eq (netI hs hn h0 (fun q => absurd hi (by omega)) (fun h1 g => Ok.bq (g_has g hn h0 hi) (Ok.ifF (by decide) ?_)))
        refine Ok.ckT (inb_n (by omega) (by omega)) ?_
        rw [nI_cl (by omega)]
        exact Ok.rdE (h.2.1.1.2.2.1 i (by omega)) (Ok.ret ⟨rfl, rfl⟩)
      · refine Ok.eq ?_
        unfold FX12_near
        exact Ok.bq (g_isPt hs hn hr hi) (Ok.ifF (by decide) (Ok.bq (q_nearOf hr hs hn hw (by omega)) (Ok.ret ⟨rfl, rfl⟩)))
    · refine BOTH.no (v := -2) hI ?_ ?_
      · unfold FX11_near
        exact Ok.eq (netI hs hn h0 (fun _ => ⟨rfl, rfl⟩) (fun h1 g => Ok.bq (g_has0 g hn h0 hb) (Ok.ifT rfl (Ok.ret ⟨rfl, rfl⟩))))
      · refine Ok.eq ?_
        unfold FX12_near
        exact Ok.bq (g_isPt0 hs hn hr hb) (Ok.ifT rfl (Ok.ret ⟨rfl, rfl⟩))
  · refine BOTH.no (v := -2) hI ?_ ?_
    · unfold FX11_near
      exact net0 ha
    · refine Ok.eq ?_
      unfold FX12_near
      exact Ok.bq (g_isPtN ha) (Ok.ifT rfl (Ok.ret ⟨rfl, rfl⟩))
theorem z3_row {σ : St} (hI : INV3 σ) (a b : Int32) : BOTH (FX11_row a b σ) (fun u => FX12_row a b u) := by
  rcases r3 (a := a) with ⟨s, hs, rfl⟩ | ha
  · obtain ⟨v, h⟩ := hI.sl hs
    have hn : v.1 < 10 := h.1.1.1
    have hw := h.1.1.2.1
    have h0 := h.2.1.1.1
    have hr := h.2.2.1
    have gx := n_sl hs
    by_cases hb : IsR v.1 b
    · obtain ⟨i, hi, rfl⟩ := hb
      refine BOTH.no (v := nI (v.2.2.2 i)) hI ?_ ?_
      · unfold FX11_row
        refine Ok.eq (netI hs hn h0 (fun q => absurd hi (by omega)) (fun h1 g => Ok.bq (g_has g hn h0 hi) (Ok.ifF (by decide) ?_)))
        refine Ok.ckT (inb_n (by omega) (by omega)) ?_
        rw [nI_cl (by omega)]
        exact Ok.rdE (h.2.1.2 i hi) (Ok.ret ⟨rfl, rfl⟩)
      · refine Ok.eq ?_
        unfold FX12_row
        exact Ok.bq (g_isPt hs hn hr hi) (Ok.ifF (by decide) (Ok.bq (q_at h.2.2.2 hs hn hi) (Ok.ret ⟨rfl, rfl⟩)))
    · refine BOTH.no (v := -2) hI ?_ ?_
      · unfold FX11_row
        exact Ok.eq (netI hs hn h0 (fun _ => ⟨rfl, rfl⟩) (fun h1 g => Ok.bq (g_has0 g hn h0 hb) (Ok.ifT rfl (Ok.ret ⟨rfl, rfl⟩))))
      · refine Ok.eq ?_
        unfold FX12_row
        exact Ok.bq (g_isPt0 hs hn hr hb) (Ok.ifT rfl (Ok.ret ⟨rfl, rfl⟩))
  · refine BOTH.no (v := -2) hI ?_ ?_
    · unfold FX11_row
      exact net0 ha
    · refine Ok.eq ?_
      unfold FX12_row
      exact Ok.bq (g_isPtN ha) (Ok.ifT rfl (Ok.ret ⟨rfl, rfl⟩))
theorem z3_place {σ : St} (hI : INV3 σ) (a b : Int32) : BOTH (FX11_place a b σ) (fun u => FX12_place a b u) := by
  rcases r3 (a := a) with ⟨s, hs, rfl⟩ | ha
  · obtain ⟨v, h⟩ := hI.sl hs
    have hn : v.1 < 10 := h.1.1.1
    have hw := h.1.1.2.1
    have h0 := h.2.1.1.1
    have hr := h.2.2.1
    have gx := n_sl hs
    by_cases hb : IsR v.1 b
    · obtain ⟨i, hi, rfl⟩ := hb
      refine BOTH.no (v := nI (plc v.1 v.2.2.2 i)) hI ?_ ?_
      · unfold FX11_place
        refine Ok.eq (netI hs hn h0 (fun q => absurd hi (by omega)) (fun h1 g => Ok.bq (g_has g hn h0 hi) (Ok.ifF (by decide) ?_)))
        exact Ok.bq (q_placeOf gx hn h0 h.2.1.2 h.1.2.2.1 hi) (Ok.ret ⟨rfl, rfl⟩)
      · refine Ok.eq ?_
        unfold FX12_place
        exact Ok.bq (g_isPt hs hn hr hi) (Ok.ifF (by decide) (Ok.bq (q_placeOfM hs hn h.2.2.2 h.1.2.2.1 hi) (Ok.ret ⟨rfl, rfl⟩)))
    · refine BOTH.no (v := -2) hI ?_ ?_
      · unfold FX11_place
        exact Ok.eq (netI hs hn h0 (fun _ => ⟨rfl, rfl⟩) (fun h1 g => Ok.bq (g_has0 g hn h0 hb) (Ok.ifT rfl (Ok.ret ⟨rfl, rfl⟩))))
      · refine Ok.eq ?_
        unfold FX12_place
        exact Ok.bq (g_isPt0 hs hn hr hb) (Ok.ifT rfl (Ok.ret ⟨rfl, rfl⟩))
  · refine BOTH.no (v := -2) hI ?_ ?_
    · unfold FX11_place
      exact net0 ha
    · refine Ok.eq ?_
      unfold FX12_place
      exact Ok.bq (g_isPtN ha) (Ok.ifT rfl (Ok.ret ⟨rfl, rfl⟩))
theorem z3_line {σ : St} (hI : INV3 σ) (a b c : Int32) : BOTH (FX11_line a b c σ) (fun u => FX12_line a b c u) := by
  rcases r3 (a := a) with ⟨s, hs, rfl⟩ | ha
  · obtain ⟨v, h⟩ := hI.sl hs
    have hn : v.1 < 10 := h.1.1.1
    have hw := h.1.1.2.1
    have h0 := h.2.1.1.1
    have hr := h.2.2.1
    have gx := n_sl hs
    by_cases hb : IsR v.1 b
    · obtain ⟨i, hi, rfl⟩ := hb
      by_cases hc : IsR v.1 c
      · obtain ⟨j, hj, rfl⟩ := hc
        refine BOTH.no (v := nI (v.2.2.1 i j)) hI ?_ ?_
        · unfold FX11_line
          exact Ok.eq (netI hs hn h0 (fun q => absurd hi (by omega)) (fun h1 g => Ok.bq (g_has g hn h0 hi) (Ok.ifF (by decide) (Ok.bq (g_has g hn h0 hj) (Ok.ifF (by decide) (Ok.bq (q_weightOf h.2.1.1 gx (by omega) (by omega)) (Ok.ret ⟨rfl, rfl⟩)))))))
        · refine Ok.eq ?_
          unfold FX12_line
          exact Ok.bq (g_isPt hs hn hr hi) (Ok.ifF (by decide) (Ok.bq (g_isPt hs hn hr hj) (Ok.ifF (by decide) (Ok.bq (q_weight hr hs (by omega) (by omega)) (Ok.ret ⟨rfl, rfl⟩)))))
      · refine BOTH.no (v := -2) hI ?_ ?_
        · unfold FX11_line
          exact Ok.eq (netI hs hn h0 (fun _ => ⟨rfl, rfl⟩) (fun h1 g => Ok.bq (g_has g hn h0 hi) (Ok.ifF (by decide) (Ok.bq (g_has0 g hn h0 hc) (Ok.ifT rfl (Ok.ret ⟨rfl, rfl⟩))))))
        · refine Ok.eq ?_
          unfold FX12_line
          exact Ok.bq (g_isPt hs hn hr hi) (Ok.ifF (by decide) (Ok.bq (g_isPt0 hs hn hr hc) (Ok.ifT rfl (Ok.ret ⟨rfl, rfl⟩))))
    · refine BOTH.no (v := -2) hI ?_ ?_
      · unfold FX11_line
        exact Ok.eq (netI hs hn h0 (fun _ => ⟨rfl, rfl⟩) (fun h1 g => Ok.bq (g_has0 g hn h0 hb) (Ok.ifT rfl (Ok.ret ⟨rfl, rfl⟩))))
      · refine Ok.eq ?_
        unfold FX12_line
        exact Ok.bq (g_isPt0 hs hn hr hb) (Ok.ifT rfl (Ok.ret ⟨rfl, rfl⟩))
  · refine BOTH.no (v := -2) hI ?_ ?_
    · unfold FX11_line
      exact net0 ha
    · refine Ok.eq ?_
      unfold FX12_line
      exact Ok.bq (g_isPtN ha) (Ok.ifT rfl (Ok.ret ⟨rfl, rfl⟩))
theorem z3_far {σ : St} (hI : INV3 σ) (a b c : Int32) : BOTH (FX11_far a b c σ) (fun u => FX12_far a b c u) := by
  rcases r3 (a := a) with ⟨s, hs, rfl⟩ | ha
  · obtain ⟨v, h⟩ := hI.sl hs
    have hn : v.1 < 10 := h.1.1.1
    have hw := h.1.1.2.1
    have h0 := h.2.1.1.1
    have hr := h.2.2.1
    have gx := n_sl hs
    by_cases hb : IsR v.1 b
    · obtain ⟨i, hi, rfl⟩ := hb
      by_cases hc : IsR v.1 c
      · obtain ⟨j, hj, rfl⟩ := hc
        refine BOTH.no (v := dI (dst v.1 v.2.2.1 i j)) hI ?_ ?_
        · unfold FX11_far
          exact Ok.eq (netI hs hn h0 (fun q => absurd hi (by omega)) (fun h1 g => Ok.bq (g_has g hn h0 hi) (Ok.ifF (by decide) (Ok.bq (g_has g hn h0 hj) (Ok.ifF (by decide) (Ok.bq (q_distance h.2.1.1 gx hw hn hi hj) (Ok.ret ⟨rfl, rfl⟩)))))))
        · refine Ok.eq ?_
          unfold FX12_far
          exact Ok.bq (g_isPt hs hn hr hi) (Ok.ifF (by decide) (Ok.bq (g_isPt hs hn hr hj) (Ok.ifF (by decide) (Ok.bq (q_farOf hr hs hw hn hi hj) (Ok.ret ⟨rfl, rfl⟩)))))
      · refine BOTH.no (v := -2) hI ?_ ?_
        · unfold FX11_far
          exact Ok.eq (netI hs hn h0 (fun _ => ⟨rfl, rfl⟩) (fun h1 g => Ok.bq (g_has g hn h0 hi) (Ok.ifF (by decide) (Ok.bq (g_has0 g hn h0 hc) (Ok.ifT rfl (Ok.ret ⟨rfl, rfl⟩))))))
        · refine Ok.eq ?_
          unfold FX12_far
          exact Ok.bq (g_isPt hs hn hr hi) (Ok.ifF (by decide) (Ok.bq (g_isPt0 hs hn hr hc) (Ok.ifT rfl (Ok.ret ⟨rfl, rfl⟩))))
    · refine BOTH.no (v := -2) hI ?_ ?_
      · unfold FX11_far
        exact Ok.eq (netI hs hn h0 (fun _ => ⟨rfl, rfl⟩) (fun h1 g => Ok.bq (g_has0 g hn h0 hb) (Ok.ifT rfl (Ok.ret ⟨rfl, rfl⟩))))
      · refine Ok.eq ?_
        unfold FX12_far
        exact Ok.bq (g_isPt0 hs hn hr hb) (Ok.ifT rfl (Ok.ret ⟨rfl, rfl⟩))
  · refine BOTH.no (v := -2) hI ?_ ?_
    · unfold FX11_far
      exact net0 ha
    · refine Ok.eq ?_
      unfold FX12_far
      exact Ok.bq (g_isPtN ha) (Ok.ifT rfl (Ok.ret ⟨rfl, rfl⟩))
theorem z3_value {σ : St} (hI : INV3 σ) (a b : Int32) : BOTH (FX11_value a b σ) (fun u => FX12_value a b u) := by
  rcases r3 (a := a) with ⟨s, hs, rfl⟩ | ha
  · obtain ⟨v, h⟩ := hI.sl hs
    have hn : v.1 < 10 := h.1.1.1
    have hw := h.1.1.2.1
    have h0 := h.2.1.1.1
    have hr := h.2.2.1
    have gx := n_sl hs
    by_cases h1 : 1 ≤ v.1
    · by_cases hb : IsR 7 b
      · obtain ⟨q, hq, rfl⟩ := hb
        refine rdA (zw_value hI _ _) (fo_FX11_value (P := P3) _ _) (nI (val v.1 v.2.2.1 q v.2.2.2)) ?_ (fun u hu => ?_)
        · unfold FX11_value
          exact (netI hs hn h0 (fun q => absurd h1 (by omega)) (fun _ g => Ok.bq (g_ms hq) (Ok.ifF (by decide) (Ok.bq (q_measured h.2.1.1 gx hw hn h.2.1.2 (fun i _ => h.1.o9 i) hq) (Ok.ret (by rfl)))))).pc
        · have k := h.fr hs hu
          unfold FX12_value
          refine Pc.bq (g_isN1 hs hn k.2.2.1 h1) (Pc.ifF (by decide) (Pc.bq (g_msM hq) (Pc.ifF (by decide) (Pc.bd _ (m_laysRow hs hn k.2.2.1 k.2.2.2).pc ?_))))
          rintro _ t1 ⟨f1, o1⟩
          exact Pc.bq (q_valueOf (k.2.2.1.fr (f1 150 (by decide))) hs hw hn o1 (fun i _ => h.1.o9 i) hq) (Pc.ret (by rfl))
      · refine BOTH.no (v := -2) hI ?_ ?_
        · unfold FX11_value
          exact Ok.eq (netI hs hn h0 (fun _ => ⟨rfl, rfl⟩) (fun h1 g => Ok.bq (g_ms0 hb) (Ok.ifT rfl (Ok.ret ⟨rfl, rfl⟩))))
        · refine Ok.eq ?_
          unfold FX12_value
          exact Ok.bq (g_isN1 hs hn hr h1) (Ok.ifF (by decide) (Ok.bq (g_msM0 hb) (Ok.ifT rfl (Ok.ret ⟨rfl, rfl⟩))))
    · refine BOTH.no (v := -2) hI ?_ ?_
      · unfold FX11_value
        exact Ok.eq (netI hs hn h0 (fun _ => ⟨rfl, rfl⟩) (fun h g => absurd h h1))
      · refine Ok.eq ?_
        unfold FX12_value
        exact Ok.bq (g_isN0 hs hn hr (by omega)) (Ok.ifT rfl (Ok.ret ⟨rfl, rfl⟩))
  · refine BOTH.no (v := -2) hI ?_ ?_
    · unfold FX11_value
      exact net0 ha
    · refine Ok.eq ?_
      unfold FX12_value
      exact Ok.bq (g_isNet0 ha) (Ok.ifT rfl (Ok.ret ⟨rfl, rfl⟩))
theorem z3_polished {σ : St} (hI : INV3 σ) (a b : Int32) : BOTH (FX11_polished a b σ) (fun u => FX12_polished a b u) := by
  rcases r3 (a := a) with ⟨s, hs, rfl⟩ | ha
  · obtain ⟨v, h⟩ := hI.sl hs
    have hn : v.1 < 10 := h.1.1.1
    have hw := h.1.1.2.1
    have h0 := h.2.1.1.1
    have hr := h.2.2.1
    have gx := n_sl hs
    by_cases h1 : 1 ≤ v.1
    · by_cases hb : IsR 7 b
      · obtain ⟨q, hq, rfl⟩ := hb
        obtain ⟨r, u, e1, r2, w, e2, hw3⟩ := zw_polished hI (nI s) (nI q)
        refine ⟨r, u, e1, r2, w, e2, hw3, ?_⟩
        have hu := (fo_FX11_polished (P := P3) _ _ (fun c i h => by unfold P3 at h; omega)) r u e1
        have k := h.fr hs hu
        have c1 : Pc (FX11_polished (nI s) (nI q) σ) (fun r _ => ∃ kk vv, r = nI (val v.1 v.2.2.1 q vv) ∧ PLR v.1 v.2.2.1 q kk v.2.2.2 vv) := by
          unfold FX11_polished
          refine (netI hs hn h0 (fun q => absurd h1 (by omega)) (fun _ g => Ok.bq (g_ms hq) (Ok.ifF (by decide) (Ok.bd _ (e_copyFrom n_145 gx (by omega)) ?_)))).pc
          rintro _ t1 ⟨f1, a0, a1, a2, a4, a3⟩
          have x1 : CS 145 v t1 := h.2.1.cp hn a0 a1 a2 a4 a3
          refine Ok.bd _ (e_polishRow x1.1 n_145 hw hn hq h.1.go x1.2) ?_
          rintro _ t2 ⟨kk, vv, rfl, p1, p2, p3, f2⟩
          exact Ok.bq (q_measured (x1.1.fr (f2 _ (by decide)) (f2 _ (by decide)) (f2 _ (by decide))) n_145 hw hn p3 (fun i _ => p2.lt hn i) hq) (Ok.ret ⟨kk, vv, rfl, p1⟩)
        have c2 : Pc (FX12_polished (nI s) (nI q) u) (fun r _ => ∃ kk vv, r = nI (val v.1 v.2.2.1 q vv) ∧ PLR v.1 v.2.2.1 q kk v.2.2.2 vv) := by
          unfold FX12_polished
          refine Pc.bq (g_isN1 hs hn k.2.2.1 h1) (Pc.ifF (by decide) (Pc.bq (g_msM hq) (Pc.ifF (by decide) (Pc.bd _ (m_polishes k.2.2.1 hs hw hn hq h.1.go k.2.2.2) ?_))))
          rintro _ t2 ⟨kk, vv, rfl, p1, p2, p3, f2⟩
          exact Pc.bq (q_valueOf (k.2.2.1.fr (f2 150 (by decide))) hs hw hn p3 (fun i _ => p2.lt hn i) hq) (Pc.ret ⟨kk, vv, rfl, p1⟩)
        obtain ⟨k1, v1, rfl, p1⟩ := c1 r u e1
        obtain ⟨k2, v2, rfl, p2⟩ := c2 r2 w e2
        rw [(p1.uq p2).2]
      · refine BOTH.no (v := -2) hI ?_ ?_
        · unfold FX11_polished
          exact Ok.eq (netI hs hn h0 (fun _ => ⟨rfl, rfl⟩) (fun h1 g => Ok.bq (g_ms0 hb) (Ok.ifT rfl (Ok.ret ⟨rfl, rfl⟩))))
        · refine Ok.eq ?_
          unfold FX12_polished
          exact Ok.bq (g_isN1 hs hn hr h1) (Ok.ifF (by decide) (Ok.bq (g_msM0 hb) (Ok.ifT rfl (Ok.ret ⟨rfl, rfl⟩))))
    · refine BOTH.no (v := -2) hI ?_ ?_
      · unfold FX11_polished
        exact Ok.eq (netI hs hn h0 (fun _ => ⟨rfl, rfl⟩) (fun h g => absurd h h1))
      · refine Ok.eq ?_
        unfold FX12_polished
        exact Ok.bq (g_isN0 hs hn hr (by omega)) (Ok.ifT rfl (Ok.ret ⟨rfl, rfl⟩))
  · refine BOTH.no (v := -2) hI ?_ ?_
    · unfold FX11_polished
      exact net0 ha
    · refine Ok.eq ?_
      unfold FX12_polished
      exact Ok.bq (g_isNet0 ha) (Ok.ifT rfl (Ok.ret ⟨rfl, rfl⟩))
theorem z3_gain {σ : St} (hI : INV3 σ) (a b c d : Int32) : BOTH (FX11_gain a b c d σ) (fun u => FX12_gain a b c d u) := by
  rcases r3 (a := a) with ⟨s, hs, rfl⟩ | ha
  · obtain ⟨v, h⟩ := hI.sl hs
    have hn : v.1 < 10 := h.1.1.1
    have hw := h.1.1.2.1
    have h0 := h.2.1.1.1
    have hr := h.2.2.1
    have gx := n_sl hs
    by_cases hc : IsR v.1 c
    · obtain ⟨i, hi, rfl⟩ := hc
      have h1 : 1 ≤ v.1 := by omega
      by_cases hd : IsR v.1 d
      · obtain ⟨j, hj, rfl⟩ := hd
        by_cases hb : IsR 7 b
        · obtain ⟨q, hq, rfl⟩ := hb
          have go : GO v.1 (swp v.2.2.2 i j) := h.1.go.swp hi hj
          refine rdA (zw_gain hI _ _ _ _) (fo_FX11_gain (P := P3) _ _ _ _ (fun c i h => by unfold P3 at h; omega)) (nI (val v.1 v.2.2.1 q (swp v.2.2.2 i j)) - nI (val v.1 v.2.2.1 q v.2.2.2)) ?_ (fun u hu => ?_)
          · unfold FX11_gain
            refine (netI hs hn h0 (fun q => absurd h1 (by omega)) (fun _ g => Ok.bq (g_ms hq) (Ok.ifF (by decide) (Ok.bq (g_has g hn h0 hi) (Ok.ifF (by decide) (Ok.bq (g_has g hn h0 hj) (Ok.ifF (by decide) (Ok.bd _ (e_copyFrom n_145 gx (by omega)) ?_)))))))).pc
            rintro _ t1 ⟨f1, a0, a1, a2, a4, a3⟩
            have x1 : CS 145 v t1 := h.2.1.cp hn a0 a1 a2 a4 a3
            refine Ok.bd _ (e_changeOver n_145 hn x1.2 hi hj) ?_
            rintro _ t2 ⟨f2, o2⟩
            have y : CS (12 + 24 * s) v t2 := h.2.1.fr4 (fun c c1 c2 => by rw [f2 c (by omega), f1 c (by omega)])
            exact Ok.bq (q_measured (x1.1.fr (f2 _ (by decide)) (f2 _ (by decide)) (f2 _ (by decide))) n_145 hw hn o2 (fun i _ => go.lt hn i) hq) (Ok.bq (q_measured y.1 gx hw hn y.2 (fun i _ => h.1.o9 i) hq) (Ok.ret (by rfl)))
          · have k := h.fr hs hu
            unfold FX12_gain
            refine Pc.bq (g_isPt hs hn k.2.2.1 hi) (Pc.ifF (by decide) (Pc.bq (g_isPt hs hn k.2.2.1 hj) (Pc.ifF (by decide) (Pc.bq (g_msM hq) (Pc.ifF (by decide) (Pc.bd _ (m_laysRow hs hn k.2.2.1 k.2.2.2).pc ?_))))))
            rintro _ t1 ⟨f1, o1⟩
            have k1 := k.2.2.1.fr (f1 150 (by decide))
            refine Pc.bq (q_valueOf k1 hs hw hn o1 (fun i _ => h.1.o9 i) hq) (Pc.bd _ (m_exch hn o1 hi hj).pc ?_)
            rintro _ t2 ⟨f2, o2⟩
            exact Pc.bq (q_valueOf (k1.fr (f2 150 (by decide))) hs hw hn o2 (fun i _ => go.lt hn i) hq) (Pc.ret (by rfl))
        · refine BOTH.no (v := -1000) hI ?_ ?_
          · unfold FX11_gain
            exact Ok.eq (netI hs hn h0 (fun _ => ⟨rfl, rfl⟩) (fun h1 g => Ok.bq (g_ms0 hb) (Ok.ifT rfl (Ok.ret ⟨rfl, rfl⟩))))
          · refine Ok.eq ?_
            unfold FX12_gain
            exact Ok.bq (g_isPt hs hn hr hi) (Ok.ifF (by decide) (Ok.bq (g_isPt hs hn hr hj) (Ok.ifF (by decide) (Ok.bq (g_msM0 hb) (Ok.ifT rfl (Ok.ret ⟨rfl, rfl⟩))))))
      · refine BOTH.no (v := -1000) hI ?_ ?_
        · unfold FX11_gain
          refine Ok.eq (netI hs hn h0 (fun _ => ⟨rfl, rfl⟩) (fun h1 g => ?_))
          by_cases hb : IsR 7 b
          · obtain ⟨q, hq, rfl⟩ := hb
            exact Ok.bq (g_ms hq) (Ok.ifF (by decide) (Ok.bq (g_has g hn h0 hi) (Ok.ifF (by decide) (Ok.bq (g_has0 g hn h0 hd) (Ok.ifT rfl (Ok.ret ⟨rfl, rfl⟩))))))
          · exact Ok.bq (g_ms0 hb) (Ok.ifT rfl (Ok.ret ⟨rfl, rfl⟩))
        · refine Ok.eq ?_
          unfold FX12_gain
          exact Ok.bq (g_isPt hs hn hr hi) (Ok.ifF (by decide) (Ok.bq (g_isPt0 hs hn hr hd) (Ok.ifT rfl (Ok.ret ⟨rfl, rfl⟩))))
    · refine BOTH.no (v := -1000) hI ?_ ?_
      · unfold FX11_gain
        refine Ok.eq (netI hs hn h0 (fun _ => ⟨rfl, rfl⟩) (fun h1 g => ?_))
        by_cases hb : IsR 7 b
        · obtain ⟨q, hq, rfl⟩ := hb
          exact Ok.bq (g_ms hq) (Ok.ifF (by decide) (Ok.bq (g_has0 g hn h0 hc) (Ok.ifT rfl (Ok.ret ⟨rfl, rfl⟩))))
        · exact Ok.bq (g_ms0 hb) (Ok.ifT rfl (Ok.ret ⟨rfl, rfl⟩))
      · refine Ok.eq ?_
        unfold FX12_gain
        exact Ok.bq (g_isPt0 hs hn hr hc) (Ok.ifT rfl (Ok.ret ⟨rfl, rfl⟩))
  · refine BOTH.no (v := -1000) hI ?_ ?_
    · unfold FX11_gain
      exact net0 ha
    · refine Ok.eq ?_
      unfold FX12_gain
      exact Ok.bq (g_isPtN ha) (Ok.ifT rfl (Ok.ret ⟨rfl, rfl⟩))
def fst1 (q : Nat) : Nat := if q = 5 ∨ q = 6 then 0 else 1
theorem q_firstStep {q : Nat} {t : St} (hq : q < 7) : FX6_firstStep (nI q) t = some (nI (fst1 q), t) := by
  refine Ok.eq ?_
  unfold FX6_firstStep fst1
  refine Ok.bq (q_taken hq) ?_
  by_cases c : q = 5 ∨ q = 6
  · rw [if_pos c, if_pos c]
    exact Ok.ifF (by decide) (Ok.ret ⟨rfl, rfl⟩)
  · rw [if_neg c, if_neg c]
    exact Ok.ifT rfl (Ok.ret ⟨rfl, rfl⟩)
theorem q_in11 {n i : Nat} {t : St} (hn : n < 10) (hi : i < n) (h1 : 1 ≤ i) : FX12_in (nI i).toInt64 (1 : Int64) (nI n - 1).toInt64 t = some (1, t) := by
  refine Ok.eq (e_in (fun _ _ => ⟨rfl, rfl⟩) (fun q => absurd ?_ q))
  rw [n64 (by omega), show (1 : Int64).toInt = 1 by decide, inn (by omega) hn]
  omega
theorem q_in10 {n : Nat} {c : Int32} {t : St} (hn : n < 10) (h1 : 1 ≤ n) (h : ¬ ∃ i, 1 ≤ i ∧ i < n ∧ c = nI i) : FX12_in c.toInt64 (1 : Int64) (nI n - 1).toInt64 t = some (0, t) := by
  refine Ok.eq (e_in (fun g1 g2 => absurd ?_ h) (fun _ => ⟨rfl, rfl⟩))
  rw [inn h1 hn] at g2
  rw [show (1 : Int64).toInt = 1 by decide] at g1
  obtain ⟨i, hi, rfl⟩ := in_R (a := c) (b := 0) (c := (nI n - 1).toInt64) (m := n) ⟨by rw [in0]; omega, by rw [inn h1 hn]; exact g2⟩ (by rw [in0]; omega) (by rw [inn h1 hn]; omega)
  rw [n64 (by omega)] at g1
  exact ⟨i, by omega, hi, rfl⟩
theorem z3_price {σ : St} (hI : INV3 σ) (a b c : Int32) : BOTH (FX11_price a b c σ) (fun u => FX12_price a b c u) := by
  rcases r3 (a := a) with ⟨s, hs, rfl⟩ | ha
  · obtain ⟨v, h⟩ := hI.sl hs
    have hn : v.1 < 10 := h.1.1.1
    have hw := h.1.1.2.1
    have h0 := h.2.1.1.1
    have hr := h.2.2.1
    have gx := n_sl hs
    by_cases h1 : 1 ≤ v.1
    · by_cases hb : IsR 7 b
      · obtain ⟨q, hq, rfl⟩ := hb
        by_cases q2 : q = 2
        · subst q2
          refine BOTH.no (v := -2) hI ?_ ?_
          · unfold FX11_price
            exact Ok.eq (netI hs hn h0 (fun _ => ⟨rfl, rfl⟩) (fun h1 g => Ok.bq (g_pr hq) (Ok.ifT rfl (Ok.ret ⟨rfl, rfl⟩))))
          · refine Ok.eq ?_
            unfold FX12_price
            exact Ok.bq (g_isN1 hs hn hr h1) (Ok.ifF (by decide) (Ok.bq (g_msM hq) (Ok.ifF (by decide) (Ok.ifT rfl (Ok.ret ⟨rfl, rfl⟩)))))
        · have cc : ∀ Q : Int32 → St → Prop, (¬ IsR v.1 c → Q (-2) σ) → (∀ i, i < v.1 → c = nI i → ¬ fst1 q ≤ i → Q (-2) σ) → (∀ i, i < v.1 → c = nI i → fst1 q ≤ i → Q (nI (pri v.1 v.2.2.1 q v.2.2.2 i)) σ) → Ok (FX11_price (nI s) (nI q) c σ) Q := fun Q k0 k1 k2 => by
            unfold FX11_price
            refine netI hs hn h0 (fun q => absurd h1 (by omega)) (fun _ g => Ok.bq (g_pr hq) ?_)
            rw [if_neg q2]
            refine Ok.ifF (by decide) ?_
            by_cases hc : IsR v.1 c
            · obtain ⟨i, hi, rfl⟩ := hc
              refine Ok.bq (g_has g hn h0 hi) (Ok.ifF (by decide) (Ok.bq (q_firstStep hq) (Ok.cv (nI_leP (by unfold fst1; split <;> omega) (by omega)) (Ok.ite (fun c => ?_) (fun c => Ok.ret (k1 i hi rfl c))))))
              exact Ok.bq (q_atPlace h.2.1.1 gx hw hn h.2.1.2 (fun i _ => h.1.o9 i) hq hi) (Ok.ret (k2 i hi rfl c))
            · exact Ok.bq (g_has0 g hn h0 hc) (Ok.ifT rfl (Ok.ret (k0 hc)))
          have mm : ∀ Q : Int32 → St → Prop, (¬ IsR v.1 c → Q (-2) σ) → (∀ i, i < v.1 → c = nI i → ¬ fst1 q ≤ i → Q (-2) σ) → (∀ i, i < v.1 → c = nI i → fst1 q ≤ i → Q (nI (pri v.1 v.2.2.1 q v.2.2.2 i)) σ) → Ok (FX12_price (nI s) (nI q) c σ) Q := fun Q k0 k1 k2 => by
            unfold FX12_price
            refine Ok.bq (g_isN1 hs hn hr h1) (Ok.ifF (by decide) (Ok.bq (g_msM hq) (Ok.ifF (by decide) (Ok.ifF (by rw [li_2, nI_lit hq (by omega)]; exact q2) (Ok.bq (q_takenM hq) ?_)))))
            by_cases tk : q = 5 ∨ q = 6
            · have f0 : fst1 q = 0 := if_pos tk
              rw [if_pos tk]
              refine Ok.ifF (by decide) (Ok.bq (q_points hr hs) ?_)
              by_cases hc : IsR v.1 c
              · obtain ⟨i, hi, rfl⟩ := hc
                exact Ok.bq (q_in1 h1 (by omega) (inn h1 hn) ⟨i, hi, rfl⟩) (Ok.ifF (by decide) (Ok.bq (q_priceOf hr hs hw hn h.2.2.2 (fun i _ => h.1.o9 i) hq hi (Or.inl tk)) (Ok.ret (k2 i hi rfl (by omega)))))
              · exact Ok.bq (q_in0 h1 (by omega) (inn h1 hn) hc) (Ok.ifT rfl (Ok.ret (k0 hc)))
            · have f1 : fst1 q = 1 := if_neg tk
              rw [if_neg tk]
              refine Ok.ifT rfl (Ok.bq (q_points hr hs) ?_)
              by_cases hc : IsR v.1 c
              · obtain ⟨i, hi, rfl⟩ := hc
                by_cases i0 : 1 ≤ i
                · exact Ok.bq (q_in11 hn hi i0) (Ok.ifF (by decide) (Ok.bq (q_priceOf hr hs hw hn h.2.2.2 (fun i _ => h.1.o9 i) hq hi (Or.inr i0)) (Ok.ret (k2 i hi rfl (by omega)))))
                · refine Ok.bq (q_in10 hn h1 (fun ⟨j, j1, j2, e⟩ => ?_)) (Ok.ifT rfl (Ok.ret (k1 i hi rfl (by omega))))
                  have := nI_inj e (by omega) (by omega)
                  omega
              · exact Ok.bq (q_in10 hn h1 (fun ⟨j, j1, j2, e⟩ => hc ⟨j, j2, e⟩)) (Ok.ifT rfl (Ok.ret (k0 hc)))
          by_cases hc : IsR v.1 c
          · obtain ⟨i, hi, rfl⟩ := hc
            have u : ∀ j, j < v.1 → nI i = nI j → i = j := fun j hj e => nI_inj e (by omega) (by omega)
            by_cases fi : fst1 q ≤ i
            · refine BOTH.no (v := nI (pri v.1 v.2.2.1 q v.2.2.2 i)) hI (Ok.eq (cc _ (fun k => absurd ⟨i, hi, rfl⟩ k) (fun j hj e k => ?_) (fun j hj e _ => ?_))) (Ok.eq (mm _ (fun k => absurd ⟨i, hi, rfl⟩ k) (fun j hj e k => ?_) (fun j hj e _ => ?_)))
              · rw [u j hj e] at fi; exact absurd fi k
              · rw [u j hj e]; exact ⟨rfl, rfl⟩
              · rw [u j hj e] at fi; exact absurd fi k
              · rw [u j hj e]; exact ⟨rfl, rfl⟩
            · refine BOTH.no (v := -2) hI (Ok.eq (cc _ (fun _ => ⟨rfl, rfl⟩) (fun _ _ _ _ => ⟨rfl, rfl⟩) (fun j hj e k => ?_))) (Ok.eq (mm _ (fun _ => ⟨rfl, rfl⟩) (fun _ _ _ _ => ⟨rfl, rfl⟩) (fun j hj e k => ?_)))
              · rw [u j hj e] at fi; exact absurd k fi
              · rw [u j hj e] at fi; exact absurd k fi
          · exact BOTH.no (v := -2) hI (Ok.eq (cc _ (fun _ => ⟨rfl, rfl⟩) (fun _ _ _ _ => ⟨rfl, rfl⟩) (fun j hj e k => absurd ⟨j, hj, e⟩ hc))) (Ok.eq (mm _ (fun _ => ⟨rfl, rfl⟩) (fun _ _ _ _ => ⟨rfl, rfl⟩) (fun j hj e k => absurd ⟨j, hj, e⟩ hc)))
      · refine BOTH.no (v := -2) hI ?_ ?_
        · unfold FX11_price
          exact Ok.eq (netI hs hn h0 (fun _ => ⟨rfl, rfl⟩) (fun h1 g => Ok.bq (g_pr0 hb) (Ok.ifT rfl (Ok.ret ⟨rfl, rfl⟩))))
        · refine Ok.eq ?_
          unfold FX12_price
          exact Ok.bq (g_isN1 hs hn hr h1) (Ok.ifF (by decide) (Ok.bq (g_msM0 hb) (Ok.ifT rfl (Ok.ret ⟨rfl, rfl⟩))))
    · refine BOTH.no (v := -2) hI ?_ ?_
      · unfold FX11_price
        exact Ok.eq (netI hs hn h0 (fun _ => ⟨rfl, rfl⟩) (fun h g => absurd h h1))
      · refine Ok.eq ?_
        unfold FX12_price
        exact Ok.bq (g_isN0 hs hn hr (by omega)) (Ok.ifT rfl (Ok.ret ⟨rfl, rfl⟩))
  · refine BOTH.no (v := -2) hI ?_ ?_
    · unfold FX11_price
      exact net0 ha
    · refine Ok.eq ?_
      unfold FX12_price
      exact Ok.bq (g_isNet0 ha) (Ok.ifT rfl (Ok.ret ⟨rfl, rfl⟩))
/-- the first place from f on at which g is greatest -/
def wsf (g : Nat → Nat) (f : Nat) : Nat → Nat
  | 0 => f
  | k + 1 => if g (f + 1 + k) ≤ g (wsf g f k) then wsf g f k else f + 1 + k
theorem wsf_in {g : Nat → Nat} {f : Nat} : ∀ {k : Nat}, f ≤ wsf g f k ∧ wsf g f k ≤ f + k
  | 0 => ⟨Nat.le_refl _, Nat.le_refl _⟩
  | k + 1 => by
    have ih := wsf_in (g := g) (f := f) (k := k)
    rw [wsf]
    split <;> omega
theorem q_worstStep {x n l q : Nat} {w : Nat → Nat → Nat} {o : Nat → Nat} {t : St} (h : CN x n l w t) (g : netAt x = true) (hw : WF n w) (hn : n < 10) (ho : CO x n o t) (h9 : ∀ i, i < n → o i < 9) (hq : q < 7) (hf : fst1 q < n) : FX8_worstStep x (nI q) t = some (nI (wsf (pri n w q o) (fst1 q) (n - 1 - fst1 q)), t) := by
  refine Ok.eq ?_
  unfold FX8_worstStep
  have pl : ∀ i, pri n w q o i ≤ 729 := fun i => pri_le hw hn
  refine Ok.ckT g (Ok.bq (q_firstStep hq) ?_)
  generalize fst1 q = f at hf ⊢
  refine Ok.bq (a := nI (wsf (pri n w q o) f (n - 1 - f))) (t := t) (wq0 (n - f) (fun j => match j with | 0 => ((-1 : Int32), (-1 : Int32), nI f) | k + 1 => (nI (wsf (pri n w q o) f k), nI (pri n w q o (wsf (pri n w q o) f k)), nI (f + 1 + k))) rfl (fun j hj => ?_) ?_) (Ok.ret ⟨rfl, rfl⟩)
  · unfold SX8_worstStep_10
    cases j with
    | zero =>
      dsimp only
      have := pl f
      refine Ok.rdE h.1 (Ok.ifF (by rw [nI_leP (by omega) (by omega)]; omega) (Ok.bq (q_atPlace h g hw hn ho h9 hq (i := f) (by omega)) ?_))
      refine Ok.bq (a := (nI f, nI (pri n w q o f))) (t := t) (Ok.eq (Ok.ifF (fun q => ?_) (Ok.ret ⟨rfl, rfl⟩))) (Ok.ret ⟨rfl, by rw [nI_1]; rfl⟩)
      rw [Int32.le_iff_toInt_le, nI_toInt (by omega), show (-1 : Int32).toInt = -1 by decide] at q
      omega
    | succ k =>
      dsimp only
      have w1 := wsf_in (g := pri n w q o) (f := f) (k := k)
      have p1 := pl (f + 1 + k)
      have p2 := pl (wsf (pri n w q o) f k)
      refine Ok.rdE h.1 (Ok.ifF (by rw [nI_leP (by omega) (by omega)]; omega) (Ok.bq (q_atPlace h g hw hn ho h9 hq (i := f + 1 + k) (by omega)) ?_))
      refine Ok.bq (a := (nI (wsf (pri n w q o) f (k + 1)), nI (pri n w q o (wsf (pri n w q o) f (k + 1))))) (t := t) (Ok.eq ?_) (Ok.ret ⟨rfl, by rw [nI_1]; rfl⟩)
      rw [wsf]
      refine Ok.cv (nI_leP (by omega) (by omega)) (Ok.ite (fun c => Ok.ret ⟨rfl, by rw [if_pos c]⟩) (fun c => Ok.ret ⟨rfl, by rw [if_neg c]⟩))
  · unfold SX8_worstStep_10
    obtain ⟨k, hk⟩ : ∃ k, n - f = k + 1 := ⟨n - f - 1, by omega⟩
    rw [hk]
    dsimp only
    refine Ok.rdE h.1 (Ok.ifT (by rw [nI_leP (by omega) (by omega)]; omega) (Ok.ret ⟨rfl, ?_⟩))
    rw [show n - 1 - f = k by omega]
theorem q_worstM {s n q : Nat} {w : Nat → Nat → Nat} {o : Nat → Nat} {t : St} (h : RN s n w t) (hs : s < 3) (hw : WF n w) (hn : n < 10) (ho : RO s n o t) (h9 : ∀ i, i < n → o i < 9) (hq : q < 7) (hf : fst1 q < n) : wh (SX12_worst_57 (nI s) (nI q)) (nI (fst1 q), nI (fst1 q) + 1) t = some (nI (wsf (pri n w q o) (fst1 q) (n - 1 - fst1 q)), t) := by
  have pl : ∀ i, pri n w q o i ≤ 729 := fun i => pri_le hw hn
  have tk : (q = 5 ∨ q = 6) ∨ 1 ≤ fst1 q := by
    unfold fst1
    by_cases c : q = 5 ∨ q = 6
    · exact Or.inl c
    · rw [if_neg c]; exact Or.inr (Nat.le_refl _)
  generalize fst1 q = f at hf tk ⊢
  refine wq0 (n - 1 - f) (fun k => (nI (wsf (pri n w q o) f k), nI (f + 1 + k))) (by rw [nI_1]; rfl) (fun k hk => ?_) ?_
  · unfold SX12_worst_57
    dsimp only
    have w1 := wsf_in (g := pri n w q o) (f := f) (k := k)
    have p1 := pl (f + 1 + k)
    have p2 := pl (wsf (pri n w q o) f k)
    refine Ok.bq (q_points h hs) (Ok.ifF (by rw [nI_leP (by omega) (by omega)]; omega) (Ok.bq (q_priceOf h hs hw hn ho h9 hq (i := f + 1 + k) (by omega) (Or.inr (by omega))) (Ok.bq (q_priceOf h hs hw hn ho h9 hq (i := wsf (pri n w q o) f k) (by omega) (by omega)) ?_)))
    refine Ok.bq (a := nI (wsf (pri n w q o) f (k + 1))) (t := t) (Ok.eq ?_) (Ok.ret ⟨rfl, by rw [nI_1]; rfl⟩)
    rw [wsf]
    refine Ok.cv (nI_leP (by omega) (by omega)) (Ok.ite (fun c => Ok.ret ⟨rfl, by rw [if_pos c]⟩) (fun c => Ok.ret ⟨rfl, by rw [if_neg c]⟩))
  · unfold SX12_worst_57
    dsimp only
    exact Ok.bq (q_points h hs) (Ok.ifT (by rw [nI_leP (by omega) (by omega)]; omega) (Ok.ret ⟨rfl, rfl⟩))
theorem z3_worst {σ : St} (hI : INV3 σ) (a b : Int32) : BOTH (FX11_worst a b σ) (fun u => FX12_worst a b u) := by
  rcases r3 (a := a) with ⟨s, hs, rfl⟩ | ha
  · obtain ⟨v, h⟩ := hI.sl hs
    have hn : v.1 < 10 := h.1.1.1
    have hw := h.1.1.2.1
    have h0 := h.2.1.1.1
    have hr := h.2.2.1
    have gx := n_sl hs
    by_cases h1 : 1 ≤ v.1
    · by_cases hb : IsR 7 b
      · obtain ⟨q, hq, rfl⟩ := hb
        by_cases q2 : q = 2
        · subst q2
          refine BOTH.no (v := -2) hI ?_ ?_
          · unfold FX11_worst
            exact Ok.eq (netI hs hn h0 (fun _ => ⟨rfl, rfl⟩) (fun h1 g => Ok.bq (g_pr hq) (Ok.ifT rfl (Ok.ret ⟨rfl, rfl⟩))))
          · refine Ok.eq ?_
            unfold FX12_worst
            exact Ok.bq (g_isN1 hs hn hr h1) (Ok.ifF (by decide) (Ok.bq (g_msM hq) (Ok.ifF (by decide) (Ok.ifT rfl (Ok.ret ⟨rfl, rfl⟩)))))
        · have f1 : fst1 q ≤ 1 := by unfold fst1; split <;> omega
          by_cases hf : fst1 q < v.1
          · refine BOTH.no (v := nI (wsf (pri v.1 v.2.2.1 q v.2.2.2) (fst1 q) (v.1 - 1 - fst1 q))) hI ?_ ?_
            · unfold FX11_worst
              refine Ok.eq (netI hs hn h0 (fun q => absurd h1 (by omega)) (fun _ g => Ok.bq (g_pr hq) ?_))
              rw [if_neg q2]
              exact Ok.ifF (by decide) (Ok.bq (q_firstStep hq) (Ok.bq (g_has g hn h0 hf) (Ok.ifF (by decide) (Ok.bq (q_worstStep h.2.1.1 gx hw hn h.2.1.2 (fun i _ => h.1.o9 i) hq hf) (Ok.ret ⟨rfl, rfl⟩)))))
            · refine Ok.eq ?_
              unfold FX12_worst
              have wm := q_worstM hr hs hw hn h.2.2.2 (fun i _ => h.1.o9 i) hq hf
              refine Ok.bq (g_isN1 hs hn hr h1) (Ok.ifF (by decide) (Ok.bq (g_msM hq) (Ok.ifF (by decide) (Ok.ifF (by rw [li_2, nI_lit hq (by omega)]; exact q2) (Ok.bq (q_points hr hs) (Ok.ite (fun c => ?_) (fun c => ?_)))))))
              · have n1 : v.1 = 1 := nI_inj (b := 1) c (by omega) (by omega)
                have f0 : fst1 q = 0 := by omega
                have tk : q = 5 ∨ q = 6 := Classical.byContradiction (fun k => by unfold fst1 at f0; rw [if_neg k] at f0; omega)
                refine Ok.bq (q_takenM hq) ?_
                rw [if_pos tk]
                refine Ok.ifF (by decide) (Ok.bq (q_takenM hq) ?_)
                rw [if_pos tk]
                refine Ok.bq (a := nI (fst1 q)) (t := σ) (by rw [if_neg (by decide), f0]; rfl) (Ok.bq wm (Ok.ret ⟨rfl, rfl⟩))
              · refine Ok.bq (q_takenM hq) ?_
                refine Ok.bq (a := nI (fst1 q)) (t := σ) ?_ (Ok.bq wm (Ok.ret ⟨rfl, rfl⟩))
                unfold fst1
                by_cases tk : q = 5 ∨ q = 6
                · rw [if_pos tk, if_pos tk, if_neg (by decide)]; rfl
                · rw [if_neg tk, if_neg tk, if_pos rfl]; rfl
          · have n1 : v.1 = 1 := by omega
            have nt : ¬ (q = 5 ∨ q = 6) := fun k => by unfold fst1 at hf; rw [if_pos k] at hf; omega
            refine BOTH.no (v := -2) hI ?_ ?_
            · unfold FX11_worst
              refine Ok.eq (netI hs hn h0 (fun _ => ⟨rfl, rfl⟩) (fun _ g => Ok.bq (g_pr hq) ?_))
              rw [if_neg q2]
              exact Ok.ifF (by decide) (Ok.bq (q_firstStep hq) (Ok.bq (g_has0 g hn h0 (fun ⟨j, hj, e⟩ => by have := nI_inj e (by omega) (by omega); omega)) (Ok.ifT rfl (Ok.ret ⟨rfl, rfl⟩))))
            · refine Ok.eq ?_
              unfold FX12_worst
              refine Ok.bq (g_isN1 hs hn hr h1) (Ok.ifF (by decide) (Ok.bq (g_msM hq) (Ok.ifF (by decide) (Ok.ifF (by rw [li_2, nI_lit hq (by omega)]; exact q2) (Ok.bq (q_points hr hs) (Ok.ifT (by rw [n1]; rfl) (Ok.bq (q_takenM hq) ?_)))))))
              rw [if_neg nt]
              exact Ok.ifT rfl (Ok.ret ⟨rfl, rfl⟩)
      · refine BOTH.no (v := -2) hI ?_ ?_
        · unfold FX11_worst
          exact Ok.eq (netI hs hn h0 (fun _ => ⟨rfl, rfl⟩) (fun h1 g => Ok.bq (g_pr0 hb) (Ok.ifT rfl (Ok.ret ⟨rfl, rfl⟩))))
        · refine Ok.eq ?_
          unfold FX12_worst
          exact Ok.bq (g_isN1 hs hn hr h1) (Ok.ifF (by decide) (Ok.bq (g_msM0 hb) (Ok.ifT rfl (Ok.ret ⟨rfl, rfl⟩))))
    · refine BOTH.no (v := -2) hI ?_ ?_
      · unfold FX11_worst
        exact Ok.eq (netI hs hn h0 (fun _ => ⟨rfl, rfl⟩) (fun h g => absurd h h1))
      · refine Ok.eq ?_
        unfold FX12_worst
        exact Ok.bq (g_isN0 hs hn hr (by omega)) (Ok.ifT rfl (Ok.ret ⟨rfl, rfl⟩))
  · refine BOTH.no (v := -2) hI ?_ ?_
    · unfold FX11_worst
      exact net0 ha
    · refine Ok.eq ?_
      unfold FX12_worst
      exact Ok.bq (g_isNet0 ha) (Ok.ifT rfl (Ok.ret ⟨rfl, rfl⟩))
def apt (n : Nat) (o : Nat → Nat) (a b : Nat) : Nat := Nat.max (plc n o a) (plc n o b) - Nat.min (plc n o a) (plc n o b)
abbrev LNS := Int32 × Nat
def lgi (n : Nat) (w : Nat → Nat → Nat) (o : Nat → Nat) (a : Nat) (B : LNS) : Nat → LNS
  | 0 => B
  | k + 1 => if w a (a + 1 + k) = 0 then lgi n w o a B k else if apt n o a (a + 1 + k) ≤ (lgi n w o a B k).2 then lgi n w o a B k else (nI (10 * a + (a + 1 + k)), apt n o a (a + 1 + k))
def lgo (n : Nat) (w : Nat → Nat → Nat) (o : Nat → Nat) : Nat → LNS
  | 0 => (-1, 0)
  | i + 1 => lgi n w o i (lgo n w o i) (n - (i + 1))
theorem ab_all : ∀ p, p < 9 → ∀ q, q < 9 → abI (nI p - nI q) = nI (Nat.max p q - Nat.min p q) := by decide +kernel
theorem apt_le {n a b : Nat} {o : Nat → Nat} (ha : plc n o a < 9) (hb : plc n o b < 9) : apt n o a b ≤ 9 := by
  have : Nat.max (plc n o a) (plc n o b) < 9 := Nat.max_lt.mpr ⟨ha, hb⟩
  unfold apt
  omega
theorem lgi_le {n a : Nat} {w : Nat → Nat → Nat} {o : Nat → Nat} {B : LNS} (hp : ∀ q, q < n → plc n o q < 9) (ha : a < n) (hB : B.2 ≤ 9) : ∀ {k : Nat}, a + k < n → (lgi n w o a B k).2 ≤ 9
  | 0, _ => hB
  | k + 1, hk => by
    have ih := lgi_le (w := w) hp ha hB (k := k) (by omega)
    rw [lgi]
    split
    · exact ih
    · split
      · exact ih
      · exact apt_le (hp a ha) (hp _ (by omega))
theorem lgo_le {n : Nat} {w : Nat → Nat → Nat} {o : Nat → Nat} (hp : ∀ q, q < n → plc n o q < 9) : ∀ {i : Nat}, i ≤ n → (lgo n w o i).2 ≤ 9
  | 0, _ => Nat.zero_le _
  | i + 1, hi => lgi_le hp (by omega) (lgo_le hp (by omega)) (by omega)
theorem lg_step {n a k : Nat} {w : Nat → Nat → Nat} {o : Nat → Nat} {B : LNS} {t : St} (hw : WF n w) (hp : ∀ q, q < n → plc n o q < 9) (ha : a + 1 + k < n) (hB : B.2 ≤ 9) : (if nI (w a (a + 1 + k)) ≤ 0 then some (((lgi n w o a B k).1, nI (lgi n w o a B k).2), t) else (if abI (nI (plc n o a) - nI (plc n o (a + 1 + k))) ≤ nI (lgi n w o a B k).2 then some (((lgi n w o a B k).1, nI (lgi n w o a B k).2), t) else some ((((10 : Int32) * nI a + nI (a + 1 + k)), abI (nI (plc n o a) - nI (plc n o (a + 1 + k)))), t))) = some (((lgi n w o a B (k + 1)).1, nI (lgi n w o a B (k + 1)).2), t) := by
  have hl := lgi_le (w := w) hp (a := a) (by omega) hB (k := k) (by omega)
  have p1 := hp a (by omega)
  have p2 := hp (a + 1 + k) (by omega)
  have hap := apt_le p1 p2
  have w9 := hw.1 a (a + 1 + k)
  have ea : abI (nI (plc n o a) - nI (plc n o (a + 1 + k))) = nI (apt n o a (a + 1 + k)) := ab_all _ p1 _ p2
  rw [ea, lgi, li_10, nI_mul, nI_add]
  by_cases c : w a (a + 1 + k) = 0
  · rw [if_pos (by rw [c]; decide), if_pos c]
  · rw [if_neg (by rw [li_0, nI_leP (by omega) (by omega)]; omega), if_neg c]
    by_cases c2 : apt n o a (a + 1 + k) ≤ (lgi n w o a B k).2
    · rw [if_pos (by rw [nI_leP (by omega) (by omega)]; exact c2), if_pos c2]
    · rw [if_neg (by rw [nI_leP (by omega) (by omega)]; exact c2), if_neg c2]
theorem q_longestLine {x n l : Nat} {w : Nat → Nat → Nat} {o : Nat → Nat} {t : St} (h : CN x n l w t) (g : netAt x = true) (hw : WF n w) (hn : n < 10) (ho : CO x n o t) (hP : PFX n n o) : FX8_longestLine x t = some ((lgo n w o n).1, t) := by
  have hp : ∀ q, q < n → plc n o q < 9 := fun q hq => by have := (plc_in hn hP hq).1; omega
  refine Ok.eq ?_
  unfold FX8_longestLine
  refine Ok.ckT g (Ok.bq (a := (lgo n w o n).1) (t := t) (wq0 n (fun i => ((lgo n w o i).1, nI (lgo n w o i).2, nI i)) rfl (fun i hi => ?_) ?_) (Ok.ret ⟨rfl, rfl⟩))
  · unfold SX8_longestLine_6
    dsimp only
    have hB := lgo_le (w := w) hp (i := i) (by omega)
    refine Ok.rdE h.1 (Ok.ifF (by rw [nI_leP (by omega) (by omega)]; omega) ?_)
    rw [nI_1]
    refine Ok.bq (a := ((lgo n w o (i + 1)).1, nI (lgo n w o (i + 1)).2)) (t := t) (wq0 (n - (i + 1)) (fun k => ((lgi n w o i (lgo n w o i) k).1, nI (lgi n w o i (lgo n w o i) k).2, nI (i + 1 + k))) rfl (fun k hk => ?_) ?_) (Ok.ret ⟨rfl, rfl⟩)
    · unfold SX8_longestLine_19
      dsimp only
      refine Ok.rdE h.1 (Ok.ifF (by rw [nI_leP (by omega) (by omega)]; omega) (Ok.bq (q_placeOf g hn h.1 ho hP hi) (Ok.bq (q_placeOf g hn h.1 ho hP (p := i + 1 + k) (by omega)) (Ok.bq (q_weightOf h g (by omega) (by omega)) (Ok.bq (lg_step hw hp (by omega) hB) (Ok.ret ⟨rfl, ?_⟩))))))
      rw [nI_1]
      rfl
    · unfold SX8_longestLine_19
      dsimp only
      exact Ok.rdE h.1 (Ok.ifT (by rw [nI_leP (by omega) (by omega)]; omega) (Ok.ret ⟨rfl, rfl⟩))
  · unfold SX8_longestLine_6
    dsimp only
    exact Ok.rdE h.1 (Ok.ifT (by rw [nI_leP (by omega) (by omega)]; omega) (Ok.ret ⟨rfl, rfl⟩))
theorem q_longestM {s n : Nat} {w : Nat → Nat → Nat} {o : Nat → Nat} {t : St} (h : RN s n w t) (hs : s < 3) (hw : WF n w) (hn : n < 10) (ho : RO s n o t) (hP : PFX n n o) : wh (SX12_longest_18 (nI s)) ((-1 : Int32), (0 : Int32), (0 : Int32)) t = some ((lgo n w o n).1, t) := by
  have hp : ∀ q, q < n → plc n o q < 9 := fun q hq => by have := (plc_in hn hP hq).1; omega
  refine wq0 n (fun i => ((lgo n w o i).1, nI (lgo n w o i).2, nI i)) rfl (fun i hi => ?_) ?_
  · unfold SX12_longest_18
    dsimp only
    have hB := lgo_le (w := w) hp (i := i) (by omega)
    refine Ok.bq (q_points h hs) (Ok.ifF (by rw [nI_leP (by omega) (by omega)]; omega) ?_)
    rw [nI_1]
    refine Ok.bq (a := ((lgo n w o (i + 1)).1, nI (lgo n w o (i + 1)).2)) (t := t) (wq0 (n - (i + 1)) (fun k => ((lgi n w o i (lgo n w o i) k).1, nI (lgi n w o i (lgo n w o i) k).2, nI (i + 1 + k))) rfl (fun k hk => ?_) ?_) (Ok.ret ⟨rfl, rfl⟩)
    · unfold SX12_longest_34
      dsimp only
      refine Ok.bq (q_points h hs) (Ok.ifF (by rw [nI_leP (by omega) (by omega)]; omega) (Ok.bq (q_placeOfM hs hn ho hP hi) (Ok.bq (q_placeOfM hs hn ho hP (p := i + 1 + k) (by omega)) (Ok.bq (q_weight h hs (by omega) (by omega)) (Ok.bq (lg_step hw hp (by omega) hB) (Ok.ret ⟨rfl, ?_⟩))))))
      rw [nI_1]
      rfl
    · unfold SX12_longest_34
      dsimp only
      exact Ok.bq (q_points h hs) (Ok.ifT (by rw [nI_leP (by omega) (by omega)]; omega) (Ok.ret ⟨rfl, rfl⟩))
  · unfold SX12_longest_18
    dsimp only
    exact Ok.bq (q_points h hs) (Ok.ifT (by rw [nI_leP (by omega) (by omega)]; omega) (Ok.ret ⟨rfl, rfl⟩))
theorem z3_longest {σ : St} (hI : INV3 σ) (a : Int32) : BOTH (FX11_longest a σ) (fun u => FX12_longest a u) := by
  rcases r3 (a := a) with ⟨s, hs, rfl⟩ | ha
  · obtain ⟨v, h⟩ := hI.sl hs
    have hn : v.1 < 10 := h.1.1.1
    have hw := h.1.1.2.1
    have h0 := h.2.1.1.1
    have hr := h.2.2.1
    have gx := n_sl hs
    by_cases h1 : 1 ≤ v.1
    · refine BOTH.no (v := (lgo v.1 v.2.2.1 v.2.2.2 v.1).1) hI ?_ ?_
      · unfold FX11_longest
        exact Ok.eq (netI hs hn h0 (fun q => absurd h1 (by omega)) (fun _ g => Ok.bq (q_longestLine h.2.1.1 gx hw hn h.2.1.2 h.1.2.2.1) (Ok.ret ⟨rfl, rfl⟩)))
      · refine Ok.eq ?_
        unfold FX12_longest
        exact Ok.bq (g_isN1 hs hn hr h1) (Ok.ifF (by decide) (Ok.bq (q_longestM hr hs hw hn h.2.2.2 h.1.2.2.1) (Ok.ret ⟨rfl, rfl⟩)))
    · refine BOTH.no (v := -2) hI ?_ ?_
      · unfold FX11_longest
        exact Ok.eq (netI hs hn h0 (fun _ => ⟨rfl, rfl⟩) (fun h g => absurd h h1))
      · refine Ok.eq ?_
        unfold FX12_longest
        exact Ok.bq (g_isN0 hs hn hr (by omega)) (Ok.ifT rfl (Ok.ret ⟨rfl, rfl⟩))
  · refine BOTH.no (v := -2) hI ?_ ?_
    · unfold FX11_longest
      exact net0 ha
    · refine Ok.eq ?_
      unfold FX12_longest
      exact Ok.bq (g_isNet0 ha) (Ok.ifT rfl (Ok.ret ⟨rfl, rfl⟩))
/-- the sets that don't hold half -/
def hvm (n : Nat) : Nat := mkm (2 ^ n) (fun S => decide (cnt S 9 ≠ n / 2))
theorem hvm_b {n S : Nat} (hS : S < 2 ^ n) : (hvm n).testBit S = decide (cnt S 9 ≠ n / 2) := by
  unfold hvm
  rw [mkm_bit, decide_eq_true hS, Bool.true_and]
def hvv (n : Nat) (w : Nat → Nat → Nat) : Nat := (gch (cutW n w) (hvm n) (2 ^ n)).getD 0
theorem hv_all : ∀ n, n < 10 → 2 ^ (n / 2) - 1 < 2 ^ n ∧ cnt (2 ^ (n / 2) - 1) 9 = n / 2 := by decide +kernel
theorem hv_ex {n : Nat} {w : Nat → Nat → Nat} (hn : n < 10) : gch (cutW n w) (hvm n) (2 ^ n) = some (hvv n w) := by
  have a := hv_all n hn
  obtain ⟨b, hb⟩ := gch_ex (c := cutW n w) (S := hvm n) (n := 2 ^ n) ⟨2 ^ (n / 2) - 1, a.1, by rw [hvm_b a.1, a.2]; exact decide_eq_false (fun q => q rfl)⟩
  unfold hvv
  rw [hb]
  rfl
theorem nI_half {n : Nat} (hn : n < 10) : nI n / (2 : Int32) = nI (n / 2) := by
  rw [li_2, nI_divN (by omega) (by omega) (by omega)]
def oZ (o : Option Nat) : Int32 := Option.elim o 0 nI
theorem q_thinnest {x n l : Nat} {w : Nat → Nat → Nat} {t : St} (h : CN x n l w t) (g : netAt x = true) (hw : WF n w) (hn : n < 10) : FX10_thinnestHalf x t = some (nI (hvv n w), t) := by
  refine Ok.eq ?_
  unfold FX10_thinnestHalf
  have p9 := pow9 (k := n) (by omega)
  refine Ok.ckT g (Ok.bq (a := nI (hvv n w)) (t := t) (wq0 (2 ^ n) (fun j => (oZ (gch (cutW n w) (hvm n) j), oV (cutW n w) (gch (cutW n w) (hvm n) j), nI j)) rfl (fun j hj => ?_) ?_) (Ok.ret ⟨rfl, rfl⟩))
  · unfold SX10_thinnestHalf_7
    dsimp only
    refine Ok.bd (fun r u => t = u ∧ r = nI (2 ^ n - 1)) (e_allBits h hn g ⟨rfl, rfl⟩) ?_
    rintro _ _ ⟨rfl, rfl⟩
    have c9 : cnt j 9 ≤ 9 := cnt_le
    refine Ok.ifF (by rw [nI_ltP (by omega) (by omega)]; omega) (Ok.bq (q_bitCount (S := j) (by omega)) (Ok.rdE h.1 ?_))
    rw [nI_half hn]
    refine Ok.bq (a := (oZ (gch (cutW n w) (hvm n) (j + 1)), oV (cutW n w) (gch (cutW n w) (hvm n) (j + 1)))) (t := t) (Ok.eq ?_) (Ok.ret ⟨rfl, by rw [nI_1]⟩)
    rw [gch, hvm_b hj]
    have cw : cutW n w j ≤ 729 := cutW_le hw hn
    refine Ok.cv (nI_eqP (by omega) (by omega)) (Ok.ite (fun c => ?_) (fun c => Ok.ret ⟨rfl, ?_⟩))
    · rw [if_neg (c := decide (cnt j 9 ≠ n / 2) = true) (fun q => of_decide_eq_true q c)]
      refine Ok.bq (q_cutWeight h g hw hn (A := j) (by omega)) ?_
      cases e : gch (cutW n w) (hvm n) j with
      | none =>
        refine Ok.ifF ?_ (Ok.ret ⟨rfl, rfl⟩)
        show ¬ nI 1048576 ≤ _
        rw [nI_leP (by omega) (by omega)]
        omega
      | some b =>
        have hb : cutW n w b ≤ 729 := cutW_le hw hn
        show Ok (if nI (cutW n w b) ≤ nI (cutW n w j) then _ else _) (fun r u => t = u ∧ r = (oZ (if cutW n w j < cutW n w b then some j else some b), oV (cutW n w) (if cutW n w j < cutW n w b then some j else some b)))
        refine Ok.cv (nI_leP (by omega) (by omega)) (Ok.ite (fun c => Ok.ret ⟨rfl, ?_⟩) (fun c => Ok.ret ⟨rfl, ?_⟩))
        · rw [if_neg (by omega)]
        · rw [if_pos (by omega)]; rfl
    · rw [if_pos (decide_eq_true c)]
  · unfold SX10_thinnestHalf_7
    dsimp only
    refine Ok.bd (fun r u => t = u ∧ r = nI (2 ^ n - 1)) (e_allBits h hn g ⟨rfl, rfl⟩) ?_
    rintro _ _ ⟨rfl, rfl⟩
    have := Nat.two_pow_pos n
    refine Ok.ifT (by rw [nI_ltP (by omega) (by omega)]; omega) (Ok.ret ⟨rfl, ?_⟩)
    rw [hv_ex hn]
    rfl
theorem q_halveM {s n : Nat} {w : Nat → Nat → Nat} {t : St} (h : RN s n w t) (hs : s < 3) (hw : WF n w) (hn : n < 10) : wh (SX12_halve_15 (nI s)) ((-1 : Int32), (0 : Int32)) t = some (nI (hvv n w), t) := by
  have p9 := pow9 (k := n) (by omega)
  refine wq0 (2 ^ n) (fun j => (oI (gch (cutW n w) (hvm n) j), nI j)) rfl (fun j hj => ?_) ?_
  · unfold SX12_halve_15
    dsimp only
    have c9 : cnt j 9 ≤ 9 := cnt_le
    refine Ok.bq (q_points h hs) ?_
    rw [li_1, shl_1b (by omega)]
    refine Ok.ifF (by rw [nI_leP (by omega) (by omega)]; omega) (Ok.bq (q_ones (S := j) (by omega)) (Ok.bq (q_points h hs) ?_))
    rw [nI_half hn]
    refine Ok.bq (a := oI (gch (cutW n w) (hvm n) (j + 1))) (t := t) (Ok.eq ?_) (Ok.ret ⟨rfl, by rw [← li_1, nI_1]⟩)
    rw [gch, hvm_b hj]
    have cw : cutW n w j ≤ 729 := cutW_le hw hn
    refine Ok.cv (nI_eqP (by omega) (by omega)) (Ok.ite (fun c => ?_) (fun c => Ok.ret ⟨rfl, ?_⟩))
    · rw [if_neg (c := decide (cnt j 9 ≠ n / 2) = true) (fun q => of_decide_eq_true q c)]
      cases e : gch (cutW n w) (hvm n) j with
      | none => exact Ok.ifT rfl (Ok.ret ⟨rfl, rfl⟩)
      | some b =>
        have hb : cutW n w b ≤ 729 := cutW_le hw hn
        have hbn := (gch_in e).1
        show Ok (if nI b = -1 then _ else _) (fun r u => t = u ∧ r = oI (if cutW n w j < cutW n w b then some j else some b))
        refine Ok.ifF (n1n (by omega)) (Ok.bq (q_splitOf h hs hw hn (A := j) (k := 0) (by omega) (by omega)) (Ok.bq (q_splitOf h hs hw hn (A := b) (k := 0) (by omega) (by omega)) ?_))
        show Ok (if nI (cutW n w b) ≤ nI (cutW n w j) then _ else _) _
        refine Ok.cv (nI_leP (by omega) (by omega)) (Ok.ite (fun c => Ok.ret ⟨rfl, ?_⟩) (fun c => Ok.ret ⟨rfl, ?_⟩))
        · rw [if_neg (by omega)]
        · rw [if_pos (by omega)]; rfl
    · rw [if_pos (decide_eq_true c)]
  · unfold SX12_halve_15
    dsimp only
    refine Ok.bq (q_points h hs) ?_
    rw [li_1, shl_1b (by omega)]
    refine Ok.ifT (by rw [nI_leP (by omega) (by omega)]; omega) (Ok.ret ⟨rfl, ?_⟩)
    rw [hv_ex hn]
    rfl
theorem z3_halve {σ : St} (hI : INV3 σ) (a : Int32) : BOTH (FX11_halve a σ) (fun u => FX12_halve a u) := by
  rcases r3 (a := a) with ⟨s, hs, rfl⟩ | ha
  · obtain ⟨v, h⟩ := hI.sl hs
    have hn : v.1 < 10 := h.1.1.1
    have hw := h.1.1.2.1
    have h0 := h.2.1.1.1
    have hr := h.2.2.1
    have gx := n_sl hs
    by_cases h1 : 1 ≤ v.1
    · refine BOTH.no (v := nI (hvv v.1 v.2.2.1)) hI ?_ ?_
      · unfold FX11_halve
        exact Ok.eq (netI hs hn h0 (fun q => absurd h1 (by omega)) (fun _ g => Ok.bq (q_thinnest h.2.1.1 gx hw hn) (Ok.ret ⟨rfl, rfl⟩)))
      · refine Ok.eq ?_
        unfold FX12_halve
        exact Ok.bq (g_isN1 hs hn hr h1) (Ok.ifF (by decide) (Ok.bq (q_halveM hr hs hw hn) (Ok.ret ⟨rfl, rfl⟩)))
    · refine BOTH.no (v := -2) hI ?_ ?_
      · unfold FX11_halve
        exact Ok.eq (netI hs hn h0 (fun _ => ⟨rfl, rfl⟩) (fun h g => absurd h h1))
      · refine Ok.eq ?_
        unfold FX12_halve
        exact Ok.bq (g_isN0 hs hn hr (by omega)) (Ok.ifT rfl (Ok.ret ⟨rfl, rfl⟩))
  · refine BOTH.no (v := -2) hI ?_ ?_
    · unfold FX11_halve
      exact net0 ha
    · refine Ok.eq ?_
      unfold FX12_halve
      exact Ok.bq (g_isNet0 ha) (Ok.ifT rfl (Ok.ret ⟨rfl, rfl⟩))
theorem z3_split {σ : St} (hI : INV3 σ) (a b c : Int32) : BOTH (FX11_split a b c σ) (fun u => FX12_split a b c u) := by
  rcases r3 (a := a) with ⟨s, hs, rfl⟩ | ha
  · obtain ⟨v, h⟩ := hI.sl hs
    have hn : v.1 < 10 := h.1.1.1
    have hw := h.1.1.2.1
    have h0 := h.2.1.1.1
    have hr := h.2.2.1
    have gx := n_sl hs
    by_cases h1 : 1 ≤ v.1
    · have p9 := pow9 (k := v.1) (by omega)
      have p0 := Nat.two_pow_pos v.1
      have e9 : (shl (1 : Int32) (nI v.1) - 1).toInt64.toInt = ((2 ^ v.1 : Nat) : Int) - 1 := by
        rw [li_1, shl_1b (by omega), nI_sub (by omega), Int32.toInt_toInt64, nI_toInt (by omega)]
        omega
      by_cases hb : IsR (2 ^ v.1) b
      · obtain ⟨S, hS, rfl⟩ := hb
        by_cases hc : IsR 3 c
        · obtain ⟨k, hk, rfl⟩ := hc
          refine BOTH.no (v := nI (spl v.1 v.2.2.1 S k)) hI ?_ ?_
          · unfold FX11_split
            refine Ok.eq (netI hs hn h0 (fun q => absurd h1 (by omega)) (fun _ g => Ok.ifF (by rw [li_0, nI_ltP (by omega) (by omega)]; omega) (Ok.bd (fun r u => σ = u ∧ r = nI (2 ^ v.1 - 1)) (e_allBits h.2.1.1 hn gx ⟨rfl, rfl⟩) ?_)))
            rintro _ _ ⟨rfl, rfl⟩
            refine Ok.ifT (by rw [nI_leP (by omega) (by omega)]; omega) ?_
            rcases (show k = 0 ∨ k = 1 ∨ k = 2 by omega) with rfl | rfl | rfl
            · exact Ok.ifT rfl (Ok.bq (q_cutWeight h.2.1.1 gx hw hn (by omega)) (Ok.ret ⟨rfl, rfl⟩))
            · exact Ok.ifF (by decide) (Ok.ifT rfl (Ok.bq (q_gateSize h.2.1.1 gx hn (by omega)) (Ok.ret ⟨rfl, rfl⟩)))
            · exact Ok.ifF (by decide) (Ok.ifF (by decide) (Ok.ifT rfl (Ok.bq (q_fringeSize h.2.1.1 gx hn (by omega)) (Ok.ret ⟨rfl, rfl⟩))))
          · refine Ok.eq ?_
            unfold FX12_split
            exact Ok.bq (g_isN1 hs hn hr h1) (Ok.ifF (by decide) (Ok.bq (q_points hr hs) (Ok.bq (q_in1 (by omega) (by omega) e9 ⟨S, hS, rfl⟩) (Ok.ifF (by decide) (Ok.bq (q_in1 (n := 3) (by omega) (by omega) (by decide) ⟨k, hk, rfl⟩) (Ok.ifF (by decide) (Ok.bq (q_splitOf hr hs hw hn (by omega) hk) (Ok.ret ⟨rfl, rfl⟩))))))))
        · refine BOTH.no (v := -2) hI ?_ ?_
          · unfold FX11_split
            refine Ok.eq (netI hs hn h0 (fun q => absurd h1 (by omega)) (fun _ g => Ok.ifF (by rw [li_0, nI_ltP (by omega) (by omega)]; omega) (Ok.bd (fun r u => σ = u ∧ r = nI (2 ^ v.1 - 1)) (e_allBits h.2.1.1 hn gx ⟨rfl, rfl⟩) ?_)))
            rintro _ _ ⟨rfl, rfl⟩
            exact Ok.ifT (by rw [nI_leP (by omega) (by omega)]; omega) (Ok.ifF (fun q => hc ⟨0, by omega, q⟩) (Ok.ifF (fun q => hc ⟨1, by omega, q⟩) (Ok.ifF (fun q => hc ⟨2, by omega, q⟩) (Ok.ret ⟨rfl, rfl⟩))))
          · refine Ok.eq ?_
            unfold FX12_split
            exact Ok.bq (g_isN1 hs hn hr h1) (Ok.ifF (by decide) (Ok.bq (q_points hr hs) (Ok.bq (q_in1 (by omega) (by omega) e9 ⟨S, hS, rfl⟩) (Ok.ifF (by decide) (Ok.bq (q_in0 (n := 3) (by omega) (by omega) (by decide) hc) (Ok.ifT rfl (Ok.ret ⟨rfl, rfl⟩)))))))
      · refine BOTH.no (v := -2) hI ?_ ?_
        · unfold FX11_split
          refine Ok.eq (netI hs hn h0 (fun q => absurd h1 (by omega)) (fun _ g => Ok.ite (fun _ => Ok.ret ⟨rfl, rfl⟩) (fun b0 => Ok.bd (fun r u => σ = u ∧ r = nI (2 ^ v.1 - 1)) (e_allBits h.2.1.1 hn gx ⟨rfl, rfl⟩) ?_)))
          rintro _ _ ⟨rfl, rfl⟩
          obtain ⟨k, hk, rfl⟩ := nI_of b0
          refine Ok.ifF ?_ (Ok.ret ⟨rfl, rfl⟩)
          rw [nI_leP (by omega) (by omega)]
          exact fun q => hb ⟨k, by omega, rfl⟩
        · refine Ok.eq ?_
          unfold FX12_split
          exact Ok.bq (g_isN1 hs hn hr h1) (Ok.ifF (by decide) (Ok.bq (q_points hr hs) (Ok.bq (q_in0 (by omega) (by omega) e9 hb) (Ok.ifT rfl (Ok.ret ⟨rfl, rfl⟩)))))
    · refine BOTH.no (v := -2) hI ?_ ?_
      · unfold FX11_split
        exact Ok.eq (netI hs hn h0 (fun _ => ⟨rfl, rfl⟩) (fun h g => absurd h h1))
      · refine Ok.eq ?_
        unfold FX12_split
        exact Ok.bq (g_isN0 hs hn hr (by omega)) (Ok.ifT rfl (Ok.ret ⟨rfl, rfl⟩))
  · refine BOTH.no (v := -2) hI ?_ ?_
    · unfold FX11_split
      exact net0 ha
    · refine Ok.eq ?_
      unfold FX12_split
      exact Ok.bq (g_isNet0 ha) (Ok.ifT rfl (Ok.ret ⟨rfl, rfl⟩))
theorem q_bagM {s n p A : Nat} {w : Nat → Nat → Nat} {t : St} (h : RN s n w t) (hs : s < 3) (hw : WF n w) (hn : n < 10) (hA : A < 512) (hp : p < 9) : wh (SX12_bag_67 (nI s) (nI A)) (shl (1 : Int32) (nI p), (0 : Int32)) t = some (nI (2 ^ p ||| mkm n (fun q => A.testBit q && decide (dif (nr w q) A ≠ 0))), t) := by
  refine wq0 n (fun j => (nI (2 ^ p ||| mkm j (fun q => A.testBit q && decide (dif (nr w q) A ≠ 0))), nI j)) (by rw [li_1, shl_1b (by omega)]; show _ = (nI (2 ^ p ||| 0), nI 0); rw [Nat.or_zero]; rfl) (fun j hj => ?_) ?_
  · unfold SX12_bag_67
    dsimp only
    refine Ok.bq (q_points h hs) (Ok.ifF (by rw [nI_leP (by omega) (by omega)]; omega) (Ok.bq (q_has (by omega) (by omega)) ?_))
    have hd : dif (nr w j) A < 512 := dif_lt nr_lt
    refine Ok.bq (a := nI (if (A.testBit j && decide (dif (nr w j) A ≠ 0)) = true then 2 ^ j else 0)) (t := t) (Ok.eq (Ok.cv b01 (Ok.ite (fun c => Ok.ret ⟨rfl, ?_⟩) (fun c => Ok.bq (q_nearOf h hs hn hw (by omega)) ?_)))) (Ok.ret ⟨rfl, ?_⟩)
    · rw [c, if_neg (by simp)]; rfl
    · rw [nI_dif nr_lt hA]
      refine Ok.cv (nI_q0 (by omega)) (Ok.ite (fun c0 => Ok.ret ⟨rfl, ?_⟩) (fun c0 => Ok.ret ⟨rfl, ?_⟩))
      · rw [if_neg (by simp [c0])]; rfl
      · rw [if_pos (by rw [bT c]; simp [c0]), li_1, shl_1b (by omega)]
    · rw [nI_or, nI_1, Nat.or_assoc]
      rfl
  · unfold SX12_bag_67
    dsimp only
    exact Ok.bq (q_points h hs) (Ok.ifT (by rw [nI_leP (by omega) (by omega)]; omega) (Ok.ret ⟨rfl, rfl⟩))
theorem z3_bag {σ : St} (hI : INV3 σ) (a b c : Int32) : BOTH (FX11_bag a b c σ) (fun u => FX12_bag a b c u) := by
  rcases r3 (a := a) with ⟨s, hs, rfl⟩ | ha
  · obtain ⟨v, h⟩ := hI.sl hs
    have hn : v.1 < 10 := h.1.1.1
    have hw := h.1.1.2.1
    have h0 := h.2.1.1.1
    have hr := h.2.2.1
    have gx := n_sl hs
    by_cases hc : IsR v.1 c
    · obtain ⟨i, hi, rfl⟩ := hc
      have ho9 := h.1.o9 i
      have hA : amk v.2.2.2 i < 512 := amk_lt (fun j _ => h.1.o9 j)
      have ea : FX5_aheadOf (12 + 24 * s) (nI i) σ = some (nI (amk v.2.2.2 i), σ) := q_aheadOf h.2.1.1 gx hn h.2.1.2 (fun i _ => h.1.o9 i) (by omega)
      have em : FX12_aheadOf (nI s) (nI i) σ = some (nI (amk v.2.2.2 i), σ) := q_aheadOfM hs hn h.2.2.2 (fun i _ => h.1.o9 i) (by omega)
      by_cases hb : IsR 2 b
      · obtain ⟨q, hq, rfl⟩ := hb
        rcases (show q = 0 ∨ q = 1 by omega) with rfl | rfl
        · refine BOTH.no (v := nI (2 ^ v.2.2.2 i ||| mkm v.1 (fun p => (amk v.2.2.2 i).testBit p && decide (dif (nr v.2.2.1 p) (amk v.2.2.2 i) ≠ 0)))) hI ?_ ?_
          · unfold FX11_bag
            refine Ok.eq (netI hs hn h0 (fun q => absurd hi (by omega)) (fun _ g => Ok.bq (g_has g hn h0 hi) (Ok.ifF (by decide) (Ok.ifT rfl ?_))))
            unfold FX8_bagGoing
            refine Ok.bq (a := nI (2 ^ v.2.2.2 i ||| mkm v.1 (fun p => (amk v.2.2.2 i).testBit p && decide (dif (nr v.2.2.1 p) (amk v.2.2.2 i) ≠ 0)))) (t := σ) (Ok.eq (Ok.ckT gx (Ok.bq ea (Ok.ckT (inb_n (by omega) (by omega)) ?_)))) (Ok.ret ⟨rfl, rfl⟩)
            rw [nI_cl (by omega)]
            refine Ok.rdE (h.2.1.2 i hi) (Ok.bq (q_withLine h.2.1.1 gx hn (P := fun p => (amk v.2.2.2 i).testBit p) (B := fun p => dif (nr v.2.2.1 p) (amk v.2.2.2 i)) (fun p hp => bitn (by omega) (by omega)) (fun p hp => ⟨nI_dif nr_lt hA, dif_lt nr_lt⟩)) (Ok.ret ⟨rfl, ?_⟩))
            rw [li_1, shl_1b (by omega), nI_or]
          · refine Ok.eq ?_
            unfold FX12_bag
            exact Ok.bq (g_isPt hs hn hr hi) (Ok.ifF (by decide) (Ok.bq (q_in1 (n := 2) (by omega) (by omega) (by decide) ⟨0, by omega, rfl⟩) (Ok.ifF (by decide) (Ok.bq (q_at h.2.2.2 hs hn hi) (Ok.bq em (Ok.ifF (by decide) (Ok.bq (q_bagM hr hs hw hn hA ho9) (Ok.ret ⟨rfl, rfl⟩))))))))
        · refine BOTH.no (v := nI (2 ^ v.2.2.2 i ||| nbm v.2.2.1 (amk v.2.2.2 i) (v.2.2.2 i))) hI ?_ ?_
          · unfold FX11_bag
            refine Ok.eq (netI hs hn h0 (fun q => absurd hi (by omega)) (fun _ g => Ok.bq (g_has g hn h0 hi) (Ok.ifF (by decide) (Ok.ifF (by decide) (Ok.ifT rfl ?_)))))
            unfold FX8_bagTaken
            refine Ok.bq (a := nI (2 ^ v.2.2.2 i ||| nbm v.2.2.1 (amk v.2.2.2 i) (v.2.2.2 i))) (t := σ) (Ok.eq (Ok.ckT gx (Ok.ckT (inb_n (by omega) (by omega)) ?_))) (Ok.ret ⟨rfl, rfl⟩)
            rw [nI_cl (by omega)]
            refine Ok.rdE (h.2.1.2 i hi) (Ok.bq ea (Ok.bq (q_neighbours h.2.1.1 gx hw hn hA ho9) (Ok.ret ⟨rfl, ?_⟩)))
            rw [li_1, shl_1b (by omega), nI_or]
          · refine Ok.eq ?_
            unfold FX12_bag
            refine Ok.bq (g_isPt hs hn hr hi) (Ok.ifF (by decide) (Ok.bq (q_in1 (n := 2) (by omega) (by omega) (by decide) ⟨1, by omega, rfl⟩) (Ok.ifF (by decide) (Ok.bq (q_at h.2.2.2 hs hn hi) (Ok.bq em (Ok.ifT rfl (Ok.bq (q_neighboursM hr hs hw hn hA ho9) (Ok.ret ⟨rfl, ?_⟩))))))))
            rw [li_1, shl_1b (by omega), nI_or, Nat.or_comm]
      · refine BOTH.no (v := -2) hI ?_ ?_
        · unfold FX11_bag
          exact Ok.eq (netI hs hn h0 (fun q => absurd hi (by omega)) (fun _ g => Ok.bq (g_has g hn h0 hi) (Ok.ifF (by decide) (Ok.ifF (fun q => hb ⟨0, by omega, q⟩) (Ok.ifF (fun q => hb ⟨1, by omega, q⟩) (Ok.ret ⟨rfl, rfl⟩))))))
        · refine Ok.eq ?_
          unfold FX12_bag
          exact Ok.bq (g_isPt hs hn hr hi) (Ok.ifF (by decide) (Ok.bq (q_in0 (n := 2) (by omega) (by omega) (by decide) hb) (Ok.ifT rfl (Ok.ret ⟨rfl, rfl⟩))))
    · refine BOTH.no (v := -2) hI ?_ ?_
      · unfold FX11_bag
        exact Ok.eq (netI hs hn h0 (fun _ => ⟨rfl, rfl⟩) (fun _ g => Ok.bq (g_has0 g hn h0 hc) (Ok.ifT rfl (Ok.ret ⟨rfl, rfl⟩))))
      · refine Ok.eq ?_
        unfold FX12_bag
        exact Ok.bq (g_isPt0 hs hn hr hc) (Ok.ifT rfl (Ok.ret ⟨rfl, rfl⟩))
  · refine BOTH.no (v := -2) hI ?_ ?_
    · unfold FX11_bag
      exact net0 ha
    · refine Ok.eq ?_
      unfold FX12_bag
      exact Ok.bq (g_isPtN ha) (Ok.ifT rfl (Ok.ret ⟨rfl, rfl⟩))
