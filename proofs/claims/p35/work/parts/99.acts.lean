section
/-! between two calls: slots, what can be undone, what is found and what is told are right (wip/sim/g99.py) -/
def P3 (c i : Nat) : Prop := c = 3 ∨ c = 4 ∨ (12 ≤ c ∧ c ≤ 83) ∨ (91 ≤ c ∧ c ≤ 140) ∨ c = 150 ∨ c = 152 ∨ c = 162 ∨ (c = 149 ∧ (i = 3 ∨ i = 25))
/-- what an act of the class leaves -/
def PA1 (c i : Nat) : Prop := c = 3 ∨ c = 4 ∨ c = 150 ∨ c = 152 ∨ c = 162 ∨ (c = 149 ∧ (i = 3 ∨ i = 25))
/-- what an act of the reference leaves -/
def PA2 (c i : Nat) : Prop := c = 3 ∨ c = 4 ∨ (12 ≤ c ∧ c ≤ 140) ∨ c = 162 ∨ (c = 149 ∧ i = 25)
def OUTI (t : St) : Prop := ∃ l : List Nat, l.length ≤ 256 ∧ OC l t ∧ OMm l t
theorem OUTI.fr {t u : St} (h : OUTI t) (e3 : u 3 = t 3) (e4 : u 4 = t 4) (e1 : u 162 = t 162) (e2 : u 149 25 = t 149 25) : OUTI u := by
  obtain ⟨l, h0, h1, h2⟩ := h
  exact ⟨l, h0, ⟨by rw [e3]; exact h1.1, fun i hi => by rw [e4]; exact h1.2 i hi⟩, ⟨by rw [e2]; exact h2.1, fun i hi => by rw [e1]; exact h2.2 i hi⟩⟩
def FA (t : St) : Prop := (∀ s, s < 3 → FI (16 + 24 * s) t) ∧ BI t
theorem FA.fr {t u : St} (h : FA t) (f : ∀ c, ((12 ≤ c ∧ c ≤ 83) ∨ (91 ≤ c ∧ c ≤ 97)) → u c = t c) : FA u := ⟨fun s hs => (h.1 s hs).fr (fun c c1 c2 => f c (by omega)), h.2.fr (fun c c1 c2 => f c (by omega))⟩
theorem FA.af {t u : St} {s : Nat} (h : FA t) (f : AF s t u) (hs : s < 3) : FA u := ⟨fun r hr => (h.1 r hr).fr (fun c c1 c2 => f c (by omega) (by omega)), h.2.fr (fun c c1 c2 => f c (by omega) (by omega))⟩
def INV3 (t : St) : Prop := INV2 t ∧ (∃ K m, GK K m ∧ CST K m t ∧ MST K m t) ∧ FA t ∧ OUTI t
theorem cel {P : Nat → Nat → Prop} {t u : St} (f : ∀ c i, P c i → u c i = t c i) {c : Nat} (h : ∀ i, P c i) : u c = t c := funext (fun i => f c i (h i))
theorem INV3.fr {σ w : St} (h : INV3 σ) (hw : INV2 w) (f : ∀ c i, P3 c i → w c i = σ c i) : INV3 w := by
  obtain ⟨-, ⟨K, m, hG, hC, hM⟩, hF, hO⟩ := h
  refine ⟨hw, ⟨K, m, hG, hC.fr hG.1 (fun s hs c c1 c2 => cel f (fun i => by unfold P3; omega)) (fun c c1 c2 => cel f (fun i => by unfold P3; omega)), hM.fr (f 149 3 (by unfold P3; omega)) (cel f (fun i => by unfold P3; omega)) (cel f (fun i => by unfold P3; omega))⟩, hF.fr (fun c hc => cel f (fun i => by unfold P3; omega)), hO.fr (cel f (fun i => by unfold P3; omega)) (cel f (fun i => by unfold P3; omega)) (cel f (fun i => by unfold P3; omega)) (f 149 25 (by unfold P3; omega))⟩
/-- both hold v in slot s -/
def SL (t : St) (s : Nat) (v : V4) : Prop := GV v ∧ CS (12 + 24 * s) v t ∧ RN s v.1 v.2.2.1 t ∧ RO s v.1 v.2.2.2 t
theorem INV3.sl {t : St} (h : INV3 t) {s : Nat} (hs : s < 3) : ∃ v, SL t s v := by
  obtain ⟨-, ⟨K, m, hG, hC, hM⟩, -⟩ := h
  have hv := hG.2 m (Nat.le_refl _) s hs
  exact ⟨K m s, hv, hC.1 s hs, hM.2.1.rn hs, hM.2.1.ro hs hv⟩
theorem SL.fr {t u : St} {s : Nat} {v : V4} (h : SL t s v) (hs : s < 3) (f : ∀ c i, P3 c i → u c i = t c i) : SL u s v := by
  obtain ⟨h1, h2, h3, h4⟩ := h
  have e : u 150 = t 150 := cel f (fun i => by unfold P3; omega)
  exact ⟨h1, h2.fr4 (fun c c1 c2 => cel f (fun i => by unfold P3; omega)), h3.fr e, fun i hi => by rw [e]; exact h4 i hi⟩
def BOTH (x : Option (Int32 × St)) (y : St → Option (Int32 × St)) : Prop := Ok x (fun r u => Ok (y u) (fun r2 w => INV3 w ∧ r = r2))
theorem BOTH.no {σ : St} {x : Option (Int32 × St)} {y : St → Option (Int32 × St)} {v : Int32} (hI : INV3 σ) (h1 : x = some (v, σ)) (h2 : y σ = some (v, σ)) : BOTH x y := ⟨v, σ, h1, v, σ, h2, hI, rfl⟩
theorem act3 {σ : St} {K : Nat → Nat → V4} {m : Nat} {x : Option (Int32 × St)} {y : St → Option (Int32 × St)} (hI : INV3 σ) (hM : MST K m σ) (hz : Ok x (fun r u => Ok (y u) (fun r2 w => INV2 w))) (f1 : Fo PA1 σ x) (f2 : ∀ u, Fo PA2 u (y u)) (hx : Pc x (fun r u => ∃ K' m', GK K' m' ∧ CST K' m' u ∧ FA u ∧ ∀ t, MST K m t → Pc (y t) (fun r2 w => r2 = r ∧ MST K' m' w))) : BOTH x y := by
  obtain ⟨r, u, e1, r2, w, e2, hw⟩ := hz
  refine ⟨r, u, e1, r2, w, e2, ?_⟩
  have g1 := f1 r u e1
  have g2 := f2 u r2 w e2
  obtain ⟨K', m', hG, hC, hF, hy⟩ := hx r u e1
  have Mu : MST K m u := hM.fr (g1 149 3 (by unfold PA1; omega)) (cel g1 (fun i => by unfold PA1; omega)) (cel g1 (fun i => by unfold PA1; omega))
  obtain ⟨ha, hM'⟩ := hy u Mu r2 w e2
  refine ⟨⟨hw, ⟨K', m', hG, hC.fr hG.1 (fun s hs c c1 c2 => cel g2 (fun i => by unfold PA2; omega)) (fun c c1 c2 => cel g2 (fun i => by unfold PA2; omega)), hM'⟩, hF.fr (fun c hc => cel g2 (fun i => by unfold PA2; omega)), ?_⟩, ha.symm⟩
  refine hI.2.2.2.fr ?_ ?_ ?_ ?_
  · exact (cel g2 (fun i => by unfold PA2; omega)).trans (cel g1 (fun i => by unfold PA1; omega))
  · exact (cel g2 (fun i => by unfold PA2; omega)).trans (cel g1 (fun i => by unfold PA1; omega))
  · exact (cel g2 (fun i => by unfold PA2; omega)).trans (cel g1 (fun i => by unfold PA1; omega))
  · exact (g2 149 25 (by unfold PA2; omega)).trans (g1 149 25 (by unfold PA1; omega))
theorem CNX.go {K : Nat → Nat → V4} {m s : Nat} {v : V4} {σ u : St} {r : Int32} {y : St → Option (Int32 × St)} (hG : GK K m) (hv : GV v) (h : CNX K m s v u) (hF : FA u) (hy : ∀ K' m', NXT K m s v K' m' → ∀ t, MST K m t → Pc (y t) (fun r2 w => r2 = r ∧ MST K' m' w)) : ∃ K' m', GK K' m' ∧ CST K' m' u ∧ FA u ∧ ∀ t, MST K m t → Pc (y t) (fun r2 w => r2 = r ∧ MST K' m' w) := by
  obtain ⟨K', m', hN, hC⟩ := h
  exact ⟨K', m', hG.nx hv hN, hC, hF, hy K' m' hN⟩
/-! guards -/
theorem netI {s n : Nat} {v0 : Int32} {t : St} {f : Nat → St → Option (Int32 × St)} {Q : Int32 → St → Prop} (hs : s < 3) (hn : n < 10) (h : t (12 + 24 * s) 0 = nI n) (k0 : n = 0 → Q v0 t) (k1 : 1 ≤ n → netAt (12 + 24 * s) = true → Ok (f (12 + 24 * s) t) Q) : Ok (bnd (FX11_netIn (nI s) t) (fun v1 t2 => (Option.elim v1 (some (v0, t2)) (fun x4 => chk (netAt x4) (f x4 t2))))) Q := by
  refine Ok.bq (g_netIn hs hn h) ?_
  by_cases c : n = 0
  · rw [if_pos c]
    exact Ok.ret (k0 c)
  · rw [if_neg c]
    exact Ok.ckT (n_sl hs) (k1 (by omega) (n_sl hs))
theorem net0 {a : Int32} {v0 : Int32} {t : St} {f : Nat → St → Option (Int32 × St)} (h : ¬ IsR 3 a) : bnd (FX11_netIn a t) (fun v1 t2 => (Option.elim v1 (some (v0, t2)) (fun x4 => f x4 t2))) = some (v0, t) := Ok.eq (Ok.bq (g_netIn0 h) (Ok.ret ⟨rfl, rfl⟩))
theorem g_isN1 {s n : Nat} {w : Nat → Nat → Nat} {t : St} (hs : s < 3) (hn : n < 10) (h : RN s n w t) (h1 : 1 ≤ n) : FX12_isNet (nI s) t = some (1, t) := by
  rw [g_isNet hs hn h, if_neg (by omega)]
theorem g_isN0 {s n : Nat} {w : Nat → Nat → Nat} {t : St} (hs : s < 3) (hn : n < 10) (h : RN s n w t) (h1 : n = 0) : FX12_isNet (nI s) t = some (0, t) := by
  rw [g_isNet hs hn h, if_pos h1]
theorem two0 {x n : Nat} {b c : Int32} {t : St} (g : netAt x = true) (hn : n < 10) (h : t x 0 = nI n) (hbc : ¬ (IsR n b ∧ IsR n c ∧ b ≠ c)) : FX5_hasTwo x b c t = some (0, t) := by
  refine Ok.eq ?_
  unfold FX5_hasTwo
  refine Ok.ckT g ?_
  by_cases hb : IsR n b
  · obtain ⟨i, hi, rfl⟩ := hb
    refine Ok.bq (g_has g hn h hi) (Ok.ifF (by decide) ?_)
    by_cases hc : IsR n c
    · obtain ⟨j, hj, rfl⟩ := hc
      have e : nI i = nI j := Classical.byContradiction (fun q => hbc ⟨⟨i, hi, rfl⟩, ⟨j, hj, rfl⟩, q⟩)
      exact Ok.bq (g_has g hn h hj) (Ok.ifF (by decide) (Ok.ifT e (Ok.ret ⟨rfl, rfl⟩)))
    · exact Ok.bq (g_has0 g hn h hc) (Ok.ifT rfl (Ok.ret ⟨rfl, rfl⟩))
  · exact Ok.bq (g_has0 g hn h hb) (Ok.ifT rfl (Ok.ret ⟨rfl, rfl⟩))
theorem twoM0 {s n : Nat} {b c : Int32} {w : Nat → Nat → Nat} {t : St} (hs : s < 3) (hn : n < 10) (h : RN s n w t) (hbc : ¬ (IsR n b ∧ IsR n c ∧ b ≠ c)) : FX12_areTwo (nI s) b c t = some (0, t) := by
  refine Ok.eq ?_
  unfold FX12_areTwo
  by_cases hb : IsR n b
  · obtain ⟨i, hi, rfl⟩ := hb
    refine Ok.bq (g_isPt hs hn h hi) (Ok.ifF (by decide) ?_)
    by_cases hc : IsR n c
    · obtain ⟨j, hj, rfl⟩ := hc
      have e : nI i = nI j := Classical.byContradiction (fun q => hbc ⟨⟨i, hi, rfl⟩, ⟨j, hj, rfl⟩, q⟩)
      exact Ok.bq (g_isPt hs hn h hj) (Ok.ifF (by decide) (Ok.ifT e (Ok.ret ⟨rfl, rfl⟩)))
    · exact Ok.bq (g_isPt0 hs hn h hc) (Ok.ifT rfl (Ok.ret ⟨rfl, rfl⟩))
  · exact Ok.bq (g_isPt0 hs hn h hb) (Ok.ifT rfl (Ok.ret ⟨rfl, rfl⟩))
theorem twoMN {a b c : Int32} {t : St} (h : ¬ IsR 3 a) : FX12_areTwo a b c t = some (0, t) := by
  refine Ok.eq ?_
  unfold FX12_areTwo
  exact Ok.bq (g_isPtN h) (Ok.ifT rfl (Ok.ret ⟨rfl, rfl⟩))
theorem one9 {d : Int32} (h : 1 ≤ d.toInt ∧ d.toInt ≤ 9) : ∃ k, 1 ≤ k ∧ k < 10 ∧ d = nI k := by
  have c : ¬ d < 0 := by
    rw [Int32.lt_iff_toInt_lt, show (0 : Int32).toInt = 0 by decide]
    omega
  obtain ⟨j, hj, rfl⟩ := nI_of c
  rw [nI_toInt hj] at h
  exact ⟨j, by omega, by omega, rfl⟩
theorem z3_swaps {σ : St} (hI : INV3 σ) (a b c : Int32) : BOTH (FX11_swaps a b c σ) (fun u => FX12_swaps a b c u) := by
  obtain ⟨h2, ⟨K, m, hG, hC, hM⟩, hF, hO⟩ := id hI
  rcases r3 (a := a) with ⟨s, hs, rfl⟩ | ha
  · have hv := hG.2 m (Nat.le_refl _) s hs
    have hn : (K m s).1 < 10 := hv.1.1
    have h0 := (hC.1 s hs).1.1
    have hr := hM.2.1.rn hs
    by_cases hb : IsR (K m s).1 b
    · by_cases hc : IsR (K m s).1 c
      · obtain ⟨i, hi, rfl⟩ := hb
        obtain ⟨j, hj, rfl⟩ := hc
        refine act3 hI hM (z_swaps hI.1 _ _ _) (fo_FX11_swaps (P := PA1) _ _ _ (fun c i h => by unfold PA1 at h; omega)) (fun u => fo_FX12_swaps (P := PA2) _ _ _ (fun c i h => by unfold PA2 at h; omega)) ((c_swaps hG hs hC hi hj).pc.mono ?_)
        rintro _ u ⟨rfl, u1, u2⟩
        exact CNX.go (σ := u) hG (hv.vwo (hv.go.swp hi hj)) u1 (hF.af u2 hs) (fun K' m' hN t hMt => (m_swaps hG hs hMt hi hj hN).pc)
      · obtain ⟨i, hi, rfl⟩ := hb
        refine BOTH.no (v := -2) hI ?_ ?_
        · unfold FX11_swaps
          exact Ok.eq (netI hs hn h0 (fun _ => ⟨rfl, rfl⟩) (fun h1 g => Ok.bq (g_has g hn h0 hi) (Ok.ifF (by decide) (Ok.bq (g_has0 g hn h0 hc) (Ok.ifT rfl (Ok.ret ⟨rfl, rfl⟩))))))
        · refine Ok.eq ?_
          unfold FX12_swaps
          exact Ok.bq (g_isPt hs hn hr hi) (Ok.ifF (by decide) (Ok.bq (g_isPt0 hs hn hr hc) (Ok.ifT rfl (Ok.ret ⟨rfl, rfl⟩))))
    · refine BOTH.no (v := -2) hI ?_ ?_
      · unfold FX11_swaps
        exact Ok.eq (netI hs hn h0 (fun _ => ⟨rfl, rfl⟩) (fun h1 g => Ok.bq (g_has0 g hn h0 hb) (Ok.ifT rfl (Ok.ret ⟨rfl, rfl⟩))))
      · refine Ok.eq ?_
        unfold FX12_swaps
        exact Ok.bq (g_isPt0 hs hn hr hb) (Ok.ifT rfl (Ok.ret ⟨rfl, rfl⟩))
  · refine BOTH.no (v := -2) hI ?_ ?_
    · unfold FX11_swaps
      exact net0 ha
    · refine Ok.eq ?_
      unfold FX12_swaps
      exact Ok.bq (g_isPtN ha) (Ok.ifT rfl (Ok.ret ⟨rfl, rfl⟩))
theorem z3_moves {σ : St} (hI : INV3 σ) (a b c : Int32) : BOTH (FX11_moves a b c σ) (fun u => FX12_moves a b c u) := by
  obtain ⟨h2, ⟨K, m, hG, hC, hM⟩, hF, hO⟩ := id hI
  rcases r3 (a := a) with ⟨s, hs, rfl⟩ | ha
  · have hv := hG.2 m (Nat.le_refl _) s hs
    have hn : (K m s).1 < 10 := hv.1.1
    have h0 := (hC.1 s hs).1.1
    have hr := hM.2.1.rn hs
    by_cases hb : IsR (K m s).1 b
    · by_cases hc : IsR (K m s).1 c
      · obtain ⟨i, hi, rfl⟩ := hb
        obtain ⟨j, hj, rfl⟩ := hc
        refine act3 hI hM (z_moves hI.1 _ _ _) (fo_FX11_moves (P := PA1) _ _ _ (fun c i h => by unfold PA1 at h; omega)) (fun u => fo_FX12_moves (P := PA2) _ _ _ (fun c i h => by unfold PA2 at h; omega)) ((c_moves hG hs hC hi hj).pc.mono ?_)
        rintro _ u ⟨rfl, u1, u2⟩
        exact CNX.go (σ := u) hG (hv.vwo (mvo_go hv.go hi hj)) u1 (hF.af u2 hs) (fun K' m' hN t hMt => (m_moves hG hs hMt hi hj hN).pc)
      · obtain ⟨i, hi, rfl⟩ := hb
        refine BOTH.no (v := -2) hI ?_ ?_
        · unfold FX11_moves
          exact Ok.eq (netI hs hn h0 (fun _ => ⟨rfl, rfl⟩) (fun h1 g => Ok.bq (g_has g hn h0 hi) (Ok.ifF (by decide) (Ok.bq (g_has0 g hn h0 hc) (Ok.ifT rfl (Ok.ret ⟨rfl, rfl⟩))))))
        · refine Ok.eq ?_
          unfold FX12_moves
          exact Ok.bq (g_isPt hs hn hr hi) (Ok.ifF (by decide) (Ok.bq (g_isPt0 hs hn hr hc) (Ok.ifT rfl (Ok.ret ⟨rfl, rfl⟩))))
    · refine BOTH.no (v := -2) hI ?_ ?_
      · unfold FX11_moves
        exact Ok.eq (netI hs hn h0 (fun _ => ⟨rfl, rfl⟩) (fun h1 g => Ok.bq (g_has0 g hn h0 hb) (Ok.ifT rfl (Ok.ret ⟨rfl, rfl⟩))))
      · refine Ok.eq ?_
        unfold FX12_moves
        exact Ok.bq (g_isPt0 hs hn hr hb) (Ok.ifT rfl (Ok.ret ⟨rfl, rfl⟩))
  · refine BOTH.no (v := -2) hI ?_ ?_
    · unfold FX11_moves
      exact net0 ha
    · refine Ok.eq ?_
      unfold FX12_moves
      exact Ok.bq (g_isPtN ha) (Ok.ifT rfl (Ok.ret ⟨rfl, rfl⟩))
theorem z3_reverse {σ : St} (hI : INV3 σ) (a : Int32) : BOTH (FX11_reverse a σ) (fun u => FX12_reverse a u) := by
  obtain ⟨h2, ⟨K, m, hG, hC, hM⟩, hF, hO⟩ := id hI
  rcases r3 (a := a) with ⟨s, hs, rfl⟩ | ha
  · have hv := hG.2 m (Nat.le_refl _) s hs
    have hn : (K m s).1 < 10 := hv.1.1
    have h0 := (hC.1 s hs).1.1
    have hr := hM.2.1.rn hs
    by_cases h1 : 1 ≤ (K m s).1
    · refine act3 hI hM (z_reverse hI.1 _) (fo_FX11_reverse (P := PA1) _ (fun c i h => by unfold PA1 at h; omega)) (fun u => fo_FX12_reverse (P := PA2) _ (fun c i h => by unfold PA2 at h; omega)) ((c_reverse hG hs hC h1).pc.mono ?_)
      rintro _ u ⟨rfl, u1, u2⟩
      exact CNX.go (σ := u) hG (hv.vwo (rvo_go hv.go (by omega))) u1 (hF.af u2 hs) (fun K' m' hN t hMt => (m_reverse hG hs hMt h1 hN).pc)
    · refine BOTH.no (v := -2) hI ?_ ?_
      · unfold FX11_reverse
        exact Ok.eq (netI hs hn h0 (fun _ => ⟨rfl, rfl⟩) (fun h g => absurd h h1))
      · refine Ok.eq ?_
        unfold FX12_reverse
        exact Ok.bq (g_isN0 hs hn hr (by omega)) (Ok.ifT rfl (Ok.ret ⟨rfl, rfl⟩))
  · refine BOTH.no (v := -2) hI ?_ ?_
    · unfold FX11_reverse
      exact net0 ha
    · refine Ok.eq ?_
      unfold FX12_reverse
      exact Ok.bq (g_isNet0 ha) (Ok.ifT rfl (Ok.ret ⟨rfl, rfl⟩))
theorem z3_takes {σ : St} (hI : INV3 σ) (a b : Int32) : BOTH (FX11_takes a b σ) (fun u => FX12_takes a b u) := by
  obtain ⟨h2, ⟨K, m, hG, hC, hM⟩, hF, hO⟩ := id hI
  rcases r3 (a := a) with ⟨s, hs, rfl⟩ | ha
  · have hv := hG.2 m (Nat.le_refl _) s hs
    have hn : (K m s).1 < 10 := hv.1.1
    have h0 := (hC.1 s hs).1.1
    have hr := hM.2.1.rn hs
    by_cases h1 : 1 ≤ (K m s).1
    · by_cases hb : IsR 7 b
      · obtain ⟨q, hq, rfl⟩ := hb
        refine act3 hI hM (z_takes hI.1 _ _) (fo_FX11_takes (P := PA1) _ _ (fun c i h => by unfold PA1 at h; omega)) (fun u => fo_FX12_takes (P := PA2) _ _ (fun c i h => by unfold PA2 at h; omega)) ((c_takes hG hs hC hq h1 (hF.1 s hs) hF.2).mono ?_)
        rintro _ u ⟨rfl, u1, uF, uB, u2⟩
        refine CNX.go (σ := u) hG (hv.vwo (trm_go (frw_pfx hv.1.2.1 hn h1))) u1 ⟨fun r hr => ?_, uB⟩ (fun K' m' hN t hMt => m_takes hG hs hMt hq h1 hN)
        by_cases e : r = s
        · rw [e]; exact uF
        · exact (hF.1 r hr).fr (fun c c1 c2 => u2 c (by omega) (by omega))
      · refine BOTH.no (v := -2) hI ?_ ?_
        · unfold FX11_takes
          exact Ok.eq (Ok.bq (g_findingOfM hs hn h0 hb) (Ok.ret ⟨rfl, rfl⟩))
        · refine Ok.eq ?_
          unfold FX12_takes
          exact Ok.bq (g_isN1 hs hn hr h1) (Ok.ifF (by decide) (Ok.bq (g_msM0 hb) (Ok.ifT rfl (Ok.ret ⟨rfl, rfl⟩))))
    · refine BOTH.no (v := -2) hI ?_ ?_
      · unfold FX11_takes
        exact Ok.eq (Ok.bq (g_findingOfN hs (by rw [h0, show (K m s).1 = 0 by omega])) (Ok.ret ⟨rfl, rfl⟩))
      · refine Ok.eq ?_
        unfold FX12_takes
        exact Ok.bq (g_isN0 hs hn hr (by omega)) (Ok.ifT rfl (Ok.ret ⟨rfl, rfl⟩))
  · refine BOTH.no (v := -2) hI ?_ ?_
    · unfold FX11_takes
      exact Ok.eq (Ok.bq (g_findingOf0 ha) (Ok.ret ⟨rfl, rfl⟩))
    · refine Ok.eq ?_
      unfold FX12_takes
      exact Ok.bq (g_isNet0 ha) (Ok.ifT rfl (Ok.ret ⟨rfl, rfl⟩))
theorem z3_polish {σ : St} (hI : INV3 σ) (a b : Int32) : BOTH (FX11_polish a b σ) (fun u => FX12_polish a b u) := by
  obtain ⟨h2, ⟨K, m, hG, hC, hM⟩, hF, hO⟩ := id hI
  rcases r3 (a := a) with ⟨s, hs, rfl⟩ | ha
  · have hv := hG.2 m (Nat.le_refl _) s hs
    have hn : (K m s).1 < 10 := hv.1.1
    have h0 := (hC.1 s hs).1.1
    have hr := hM.2.1.rn hs
    by_cases h1 : 1 ≤ (K m s).1
    · by_cases hb : IsR 7 b
      · obtain ⟨q, hq, rfl⟩ := hb
        refine act3 hI hM (z_polish hI.1 _ _) (fo_FX11_polish (P := PA1) _ _ (fun c i h => by unfold PA1 at h; omega)) (fun u => fo_FX12_polish (P := PA2) _ _ (fun c i h => by unfold PA2 at h; omega)) ((c_polish hG hs hC hq h1).pc.mono ?_)
        rintro _ u ⟨k, v, rfl, p1, p2, u1, u2⟩
        exact CNX.go (σ := u) hG (hv.vwo p2) u1 (hF.af u2 hs) (fun K' m' hN t hMt => m_polish hG hs hMt hq h1 p1 hN)
      · refine BOTH.no (v := -2) hI ?_ ?_
        · unfold FX11_polish
          exact Ok.eq (netI hs hn h0 (fun _ => ⟨rfl, rfl⟩) (fun h1 g => Ok.bq (g_ms0 hb) (Ok.ifT rfl (Ok.ret ⟨rfl, rfl⟩))))
        · refine Ok.eq ?_
          unfold FX12_polish
          exact Ok.bq (g_isN1 hs hn hr h1) (Ok.ifF (by decide) (Ok.bq (g_msM0 hb) (Ok.ifT rfl (Ok.ret ⟨rfl, rfl⟩))))
    · refine BOTH.no (v := -2) hI ?_ ?_
      · unfold FX11_polish
        exact Ok.eq (netI hs hn h0 (fun _ => ⟨rfl, rfl⟩) (fun h g => absurd h h1))
      · refine Ok.eq ?_
        unfold FX12_polish
        exact Ok.bq (g_isN0 hs hn hr (by omega)) (Ok.ifT rfl (Ok.ret ⟨rfl, rfl⟩))
  · refine BOTH.no (v := -2) hI ?_ ?_
    · unfold FX11_polish
      exact net0 ha
    · refine Ok.eq ?_
      unfold FX12_polish
      exact Ok.bq (g_isNet0 ha) (Ok.ifT rfl (Ok.ret ⟨rfl, rfl⟩))
theorem z3_greedy {σ : St} (hI : INV3 σ) (a b : Int32) : BOTH (FX11_greedy a b σ) (fun u => FX12_greedy a b u) := by
  obtain ⟨h2, ⟨K, m, hG, hC, hM⟩, hF, hO⟩ := id hI
  rcases r3 (a := a) with ⟨s, hs, rfl⟩ | ha
  · have hv := hG.2 m (Nat.le_refl _) s hs
    have hn : (K m s).1 < 10 := hv.1.1
    have h0 := (hC.1 s hs).1.1
    have hr := hM.2.1.rn hs
    by_cases h1 : 1 ≤ (K m s).1
    · by_cases hb : IsR 7 b
      · obtain ⟨q, hq, rfl⟩ := hb
        by_cases q2 : q = 2
        · subst q2
          refine BOTH.no (v := -2) hI ?_ ?_
          · unfold FX11_greedy
            exact Ok.eq (netI hs hn h0 (fun _ => ⟨rfl, rfl⟩) (fun h1 g => Ok.bq (g_pr hq) (Ok.ifT rfl (Ok.ret ⟨rfl, rfl⟩))))
          · refine Ok.eq ?_
            unfold FX12_greedy
            exact Ok.bq (g_isN1 hs hn hr h1) (Ok.ifF (by decide) (Ok.bq (g_msM hq) (Ok.ifF (by decide) (Ok.ifT rfl (Ok.ret ⟨rfl, rfl⟩)))))
        · refine act3 hI hM (z_greedy hI.1 _ _) (fo_FX11_greedy (P := PA1) _ _ (fun c i h => by unfold PA1 at h; omega)) (fun u => fo_FX12_greedy (P := PA2) _ _ (fun c i h => by unfold PA2 at h; omega)) ((c_greedy hG hs hC hq q2 h1).pc.mono ?_)
          rintro _ u ⟨rfl, u1, u2⟩
          exact CNX.go (σ := u) hG (hv.vwo (trm_go (gro_pfx (Nat.le_refl _)))) u1 (hF.af u2 hs) (fun K' m' hN t hMt => (m_greedy hG hs hMt hq q2 h1 hN).pc)
      · refine BOTH.no (v := -2) hI ?_ ?_
        · unfold FX11_greedy
          exact Ok.eq (netI hs hn h0 (fun _ => ⟨rfl, rfl⟩) (fun h1 g => Ok.bq (g_pr0 hb) (Ok.ifT rfl (Ok.ret ⟨rfl, rfl⟩))))
        · refine Ok.eq ?_
          unfold FX12_greedy
          exact Ok.bq (g_isN1 hs hn hr h1) (Ok.ifF (by decide) (Ok.bq (g_msM0 hb) (Ok.ifT rfl (Ok.ret ⟨rfl, rfl⟩))))
    · refine BOTH.no (v := -2) hI ?_ ?_
      · unfold FX11_greedy
        exact Ok.eq (netI hs hn h0 (fun _ => ⟨rfl, rfl⟩) (fun h g => absurd h h1))
      · refine Ok.eq ?_
        unfold FX12_greedy
        exact Ok.bq (g_isN0 hs hn hr (by omega)) (Ok.ifT rfl (Ok.ret ⟨rfl, rfl⟩))
  · refine BOTH.no (v := -2) hI ?_ ?_
    · unfold FX11_greedy
      exact net0 ha
    · refine Ok.eq ?_
      unfold FX12_greedy
      exact Ok.bq (g_isNet0 ha) (Ok.ifT rfl (Ok.ret ⟨rfl, rfl⟩))
theorem z3_layers {σ : St} (hI : INV3 σ) (a b : Int32) : BOTH (FX11_layers a b σ) (fun u => FX12_layers a b u) := by
  obtain ⟨h2, ⟨K, m, hG, hC, hM⟩, hF, hO⟩ := id hI
  rcases r3 (a := a) with ⟨s, hs, rfl⟩ | ha
  · have hv := hG.2 m (Nat.le_refl _) s hs
    have hn : (K m s).1 < 10 := hv.1.1
    have h0 := (hC.1 s hs).1.1
    have hr := hM.2.1.rn hs
    by_cases hb : IsR (K m s).1 b
    · obtain ⟨p, hp, rfl⟩ := hb
      refine act3 hI hM (z_layers hI.1 _ _) (fo_FX11_layers (P := PA1) _ _ (fun c i h => by unfold PA1 at h; omega)) (fun u => fo_FX12_layers (P := PA2) _ _ (fun c i h => by unfold PA2 at h; omega)) ((c_layers hG hs hC hp).pc.mono ?_)
      rintro _ u ⟨rfl, u1, u2⟩
      exact CNX.go (σ := u) hG (hv.vwo (trm_go (lyr_pfx hn))) u1 (hF.af u2 hs) (fun K' m' hN t hMt => (m_layers hG hs hMt hp hN).pc)
    · refine BOTH.no (v := -2) hI ?_ ?_
      · unfold FX11_layers
        exact Ok.eq (netI hs hn h0 (fun _ => ⟨rfl, rfl⟩) (fun h1 g => Ok.bq (g_has0 g hn h0 hb) (Ok.ifT rfl (Ok.ret ⟨rfl, rfl⟩))))
      · refine Ok.eq ?_
        unfold FX12_layers
        exact Ok.bq (g_isPt0 hs hn hr hb) (Ok.ifT rfl (Ok.ret ⟨rfl, rfl⟩))
  · refine BOTH.no (v := -2) hI ?_ ?_
    · unfold FX11_layers
      exact net0 ha
    · refine Ok.eq ?_
      unfold FX12_layers
      exact Ok.bq (g_isPtN ha) (Ok.ifT rfl (Ok.ret ⟨rfl, rfl⟩))
theorem z3_cuts {σ : St} (hI : INV3 σ) (a b c : Int32) : BOTH (FX11_cuts a b c σ) (fun u => FX12_cuts a b c u) := by
  obtain ⟨h2, ⟨K, m, hG, hC, hM⟩, hF, hO⟩ := id hI
  rcases r3 (a := a) with ⟨s, hs, rfl⟩ | ha
  · have hv := hG.2 m (Nat.le_refl _) s hs
    have hn : (K m s).1 < 10 := hv.1.1
    have h0 := (hC.1 s hs).1.1
    have hr := hM.2.1.rn hs
    by_cases hbc : IsR (K m s).1 b ∧ IsR (K m s).1 c ∧ b ≠ c
    · obtain ⟨⟨i, hi, rfl⟩, ⟨j, hj, rfl⟩, ne⟩ := hbc
      have hij : i ≠ j := fun q => ne (by rw [q])
      by_cases z : (K m s).2.2.1 i j = 0
      · exact BOTH.no (v := -6) hI (c_cuts0 hG hs hC hi hj hij z) (m_cuts0 hG hs hM hi hj hij z)
      · refine act3 hI hM (z_cuts hI.1 _ _ _) (fo_FX11_cuts (P := PA1) _ _ _ (fun c i h => by unfold PA1 at h; omega)) (fun u => fo_FX12_cuts (P := PA2) _ _ _ (fun c i h => by unfold PA2 at h; omega)) ((c_cuts hG hs hC hi hj hij z).pc.mono ?_)
        rintro _ u ⟨rfl, u1, u2⟩
        exact CNX.go (σ := u) hG (hv.vws hi hj hij (by omega) (by rw [if_neg (c := 0 < 0) (by omega)]; have := hv.2.1; omega)) u1 (hF.af u2 hs) (fun K' m' hN t hMt => (m_cuts hG hs hMt hi hj hij z hN).pc)
    · refine BOTH.no (v := -2) hI ?_ ?_
      · unfold FX11_cuts
        exact Ok.eq (netI hs hn h0 (fun _ => ⟨rfl, rfl⟩) (fun h1 g => Ok.bq (two0 g hn h0 hbc) (Ok.ifT rfl (Ok.ret ⟨rfl, rfl⟩))))
      · refine Ok.eq ?_
        unfold FX12_cuts
        exact Ok.bq (twoM0 hs hn hr hbc) (Ok.ifT rfl (Ok.ret ⟨rfl, rfl⟩))
  · refine BOTH.no (v := -2) hI ?_ ?_
    · unfold FX11_cuts
      exact net0 ha
    · refine Ok.eq ?_
      unfold FX12_cuts
      exact Ok.bq (twoMN ha) (Ok.ifT rfl (Ok.ret ⟨rfl, rfl⟩))
theorem z3_merges {σ : St} (hI : INV3 σ) (a b c : Int32) : BOTH (FX11_merges a b c σ) (fun u => FX12_merges a b c u) := by
  obtain ⟨h2, ⟨K, m, hG, hC, hM⟩, hF, hO⟩ := id hI
  rcases r3 (a := a) with ⟨s, hs, rfl⟩ | ha
  · have hv := hG.2 m (Nat.le_refl _) s hs
    have hn : (K m s).1 < 10 := hv.1.1
    have h0 := (hC.1 s hs).1.1
    have hr := hM.2.1.rn hs
    by_cases hbc : IsR (K m s).1 b ∧ IsR (K m s).1 c ∧ b ≠ c
    · obtain ⟨⟨i, hi, rfl⟩, ⟨j, hj, rfl⟩, ne⟩ := hbc
      have hij : i ≠ j := fun q => ne (by rw [q])
      by_cases z : (K m s).2.2.1 i j = 0
      · exact BOTH.no (v := -6) hI (c_merges0 hG hs hC hi hj hij z) (m_merges0 hG hs hM hi hj hij z)
      · refine act3 hI hM (z_merges hI.1 _ _ _) (fo_FX11_merges (P := PA1) _ _ _ (fun c i h => by unfold PA1 at h; omega)) (fun u => fo_FX12_merges (P := PA2) _ _ _ (fun c i h => by unfold PA2 at h; omega)) ((c_merges hG hs hC hi hj hij z).pc.mono ?_)
        rintro _ u ⟨rfl, gm, u1, u2⟩
        exact CNX.go (σ := u) hG gm u1 (hF.af u2 hs) (fun K' m' hN t hMt => (m_merges hG hs hMt hi hj hij z gm hN).pc)
    · refine BOTH.no (v := -2) hI ?_ ?_
      · unfold FX11_merges
        exact Ok.eq (netI hs hn h0 (fun _ => ⟨rfl, rfl⟩) (fun h1 g => Ok.bq (two0 g hn h0 hbc) (Ok.ifT rfl (Ok.ret ⟨rfl, rfl⟩))))
      · refine Ok.eq ?_
        unfold FX12_merges
        exact Ok.bq (twoM0 hs hn hr hbc) (Ok.ifT rfl (Ok.ret ⟨rfl, rfl⟩))
  · refine BOTH.no (v := -2) hI ?_ ?_
    · unfold FX11_merges
      exact net0 ha
    · refine Ok.eq ?_
      unfold FX12_merges
      exact Ok.bq (twoMN ha) (Ok.ifT rfl (Ok.ret ⟨rfl, rfl⟩))
theorem z3_adds {σ : St} (hI : INV3 σ) (a b c d : Int32) : BOTH (FX11_adds a b c d σ) (fun u => FX12_adds a b c d u) := by
  obtain ⟨h2, ⟨K, m, hG, hC, hM⟩, hF, hO⟩ := id hI
  rcases r3 (a := a) with ⟨s, hs, rfl⟩ | ha
  · have hv := hG.2 m (Nat.le_refl _) s hs
    have hn : (K m s).1 < 10 := hv.1.1
    have h0 := (hC.1 s hs).1.1
    have hr := hM.2.1.rn hs
    by_cases hbc : IsR (K m s).1 b ∧ IsR (K m s).1 c ∧ b ≠ c
    · obtain ⟨⟨i, hi, rfl⟩, ⟨j, hj, rfl⟩, ne⟩ := hbc
      have hij : i ≠ j := fun q => ne (by rw [q])
      by_cases hd : 1 ≤ d.toInt ∧ d.toInt ≤ 9
      · obtain ⟨k, k1, k9, rfl⟩ := one9 hd
        by_cases z : (K m s).2.2.1 i j = 0 ∧ (K m s).2.1 = 30
        · exact BOTH.no (v := -5) hI (c_adds0 hG hs hC hi hj hij k1 k9 z) (m_adds0 hG hs hM hi hj hij k1 k9 z)
        · refine act3 hI hM (z_adds hI.1 _ _ _ _) (fo_FX11_adds (P := PA1) _ _ _ _ (fun c i h => by unfold PA1 at h; omega)) (fun u => fo_FX12_adds (P := PA2) _ _ _ _ (fun c i h => by unfold PA2 at h; omega)) ((c_adds hG hs hC hi hj hij k1 k9 z).pc.mono ?_)
          rintro _ u ⟨rfl, u1, u2⟩
          refine CNX.go (σ := u) hG (hv.vws hi hj hij k9 ?_) u1 (hF.af u2 hs) (fun K' m' hN t hMt => (m_adds hG hs hMt hi hj hij k1 k9 z hN).pc)
          have hp := (gn_set (d := k) hv.1 hi hj hij k9).1
          have hl := hv.2.1
          rw [if_pos (c := 0 < k) (by omega)]
          by_cases c : 0 < (K m s).2.2.1 i j
          · rw [if_pos c]; have := hp c; omega
          · rw [if_neg c]; omega
      · refine BOTH.no (v := -2) hI ?_ ?_
        · unfold FX11_adds
          refine Ok.eq (netI hs hn h0 (fun _ => ⟨rfl, rfl⟩) (fun h1 g => Ok.bq (q_hasTwo g hn h0 hi hj hij) (Ok.ifF (by decide) (Ok.ite (fun _ => Ok.ret ⟨rfl, rfl⟩) (fun c1 => Ok.ifF (fun c2 => hd ?_) (Ok.ret ⟨rfl, rfl⟩))))))
          rw [Int32.lt_iff_toInt_lt, show (1 : Int32).toInt = 1 by decide] at c1
          rw [Int32.le_iff_toInt_le, show (9 : Int32).toInt = 9 by decide] at c2
          omega
        · refine Ok.eq ?_
          unfold FX12_adds
          refine Ok.bq (q_areTwo hs hn hr hi hj hij) (Ok.ifF (by decide) (Ok.bd (fun r u => σ = u ∧ r = 0) (e_in (fun g1 g2 => absurd ?_ hd) (fun _ => ⟨rfl, rfl⟩)) ?_))
          · rw [Int32.toInt_toInt64, show (1 : Int64).toInt = 1 by decide] at g1
            rw [Int32.toInt_toInt64, show (9 : Int64).toInt = 9 by decide] at g2
            exact ⟨g1, g2⟩
          · rintro _ _ ⟨rfl, rfl⟩
            exact Ok.ifT rfl (Ok.ret ⟨rfl, rfl⟩)
    · refine BOTH.no (v := -2) hI ?_ ?_
      · unfold FX11_adds
        exact Ok.eq (netI hs hn h0 (fun _ => ⟨rfl, rfl⟩) (fun h1 g => Ok.bq (two0 g hn h0 hbc) (Ok.ifT rfl (Ok.ret ⟨rfl, rfl⟩))))
      · refine Ok.eq ?_
        unfold FX12_adds
        exact Ok.bq (twoM0 hs hn hr hbc) (Ok.ifT rfl (Ok.ret ⟨rfl, rfl⟩))
  · refine BOTH.no (v := -2) hI ?_ ?_
    · unfold FX11_adds
      exact net0 ha
    · refine Ok.eq ?_
      unfold FX12_adds
      exact Ok.bq (twoMN ha) (Ok.ifT rfl (Ok.ret ⟨rfl, rfl⟩))
theorem z3_drops {σ : St} (hI : INV3 σ) (a : Int32) : BOTH (FX11_drops a σ) (fun u => FX12_drops a u) := by
  obtain ⟨h2, ⟨K, m, hG, hC, hM⟩, hF, hO⟩ := id hI
  rcases r3 (a := a) with ⟨s, hs, rfl⟩ | ha
  · have hv := hG.2 m (Nat.le_refl _) s hs
    have hn : (K m s).1 < 10 := hv.1.1
    have h0 := (hC.1 s hs).1.1
    have hr := hM.2.1.rn hs
    by_cases h1 : 1 ≤ (K m s).1
    · refine act3 hI hM (z_drops hI.1 _) (fo_FX11_drops (P := PA1) _ (fun c i h => by unfold PA1 at h; omega)) (fun u => fo_FX12_drops (P := PA2) _ (fun c i h => by unfold PA2 at h; omega)) ((c_drops hG hs hC h1).pc.mono ?_)
      rintro _ u ⟨rfl, u1, u2⟩
      exact CNX.go (σ := u) hG gv0 u1 (hF.af u2 hs) (fun K' m' hN t hMt => (m_drops hG hs hMt h1 hN).pc)
    · exact BOTH.no (v := 0) hI (c_drops0 hs hC (by omega)) (m_drops0 hG hs hM (by omega))
  · refine BOTH.no (v := -2) hI ?_ ?_
    · refine Ok.eq ?_
      unfold FX11_drops
      exact Ok.bq (g_slot0 ha) (Ok.ifT rfl (Ok.ret ⟨rfl, rfl⟩))
    · refine Ok.eq ?_
      unfold FX12_drops
      exact Ok.bq (g_slotM0 ha) (Ok.ifT rfl (Ok.ret ⟨rfl, rfl⟩))
theorem z3_undo {σ : St} (hI : INV3 σ) : BOTH (FX11_undo σ) (fun u => FX12_undo u) := by
  obtain ⟨h2, ⟨K, m, hG, hC, hM⟩, hF, hO⟩ := id hI
  cases m with
  | zero => exact BOTH.no (v := -1) hI (e_undo0 hC.2.1) (m_undo0 hM.1)
  | succ m =>
    have hm := hG.1
    refine act3 hI hM (z_undo hI.1) (fo_FX11_undo (P := PA1)  (fun c i h => by unfold PA1 at h; omega)) (fun u => fo_FX12_undo (P := PA2)  (fun c i h => by unfold PA2 at h; omega)) ((e_undo hG hC).pc.mono ?_)
    rintro _ u ⟨rfl, u1, u2⟩
    exact ⟨K, m, ⟨by omega, fun j hj => hG.2 j (by omega)⟩, u1, ⟨fun r hr => (hF.1 r hr).fr (fun c c1 c2 => u2 c (fun s hs => by omega) (by omega)), hF.2.fr (fun c c1 c2 => u2 c (fun s hs => by omega) (by omega))⟩, fun t hMt => (m_undo (by omega) hMt).pc⟩
theorem out_told {k : Nat} {bt : Nat → Nat} {σ u : St} {s : Nat} {r : Int32} (hs : s < 3) (h : CT k bt σ) (e : FX11_told (nI s) σ = some (r, u)) : ∀ c, (c = 3 ∨ c = 4) → u c = σ c := by
  have : Pc (FX11_told (nI s) σ) (fun _ u => ∀ c, (c = 3 ∨ c = 4) → u c = σ c) := by
    unfold FX11_told
    refine Pc.bq (g_slot hs) (Pc.ifF (by decide) (Pc.bd _ (e_readAll h).pc ?_))
    intro r t1 hr
    refine PcwrE ?_
    cases e : ptext k bt with
    | inl f =>
      obtain ⟨rfl, -, -, a3⟩ := hr.gl e
      exact Pc.ifT rfl (Pc.ret (fun c hc => by rw [wr_off c (by omega)]; exact a3 c (by omega)))
    | inr v =>
      obtain ⟨rfl, -, -, n1, o1, d1⟩ := hr.gr e
      refine Pc.ifF (by decide) (Pc.ck (fun _ => Pc.ck (fun _ => ?_)))
      rw [el10 hs]
      refine Pc.bd _ (e_copyFrom (t := wr t1 1 1 0) n_141 (n_sl hs) (by omega)).pc ?_
      rintro _ t2 ⟨f2, -⟩
      refine Pc.bd _ (e_copyFrom (t := t2) (n_sl hs) n6 (by omega)).pc ?_
      rintro _ t3 ⟨f3, -, l3, -⟩
      refine Pc.bd _ (fr_noteAct (P := fun c _ => c < 98 ∨ 140 < c) (fun _ _ h => h)).pc ?_
      rintro _ t4 f4
      refine Pc.rdE rfl (Pc.ret (fun c hc => ?_))
      have q4 : t4 c = t3 c := funext (fun i => f4 c i (by omega))
      rw [q4, f3 c (by omega), f2 c (by omega), wr_off c (by omega)]
      exact d1 c (by omega)
  exact this r u e
theorem fo_told_out {k : Nat} {bt : Nat → Nat} {u w : St} {s : Nat} {r : Int32} (hs : s < 3) (h : MT k bt u) (e : FX12_told (nI s) u = some (r, w)) : w 162 = u 162 ∧ w 149 25 = u 149 25 := by
  have : Pc (FX12_told (nI s) u) (fun _ w => w 162 = u 162 ∧ w 149 25 = u 149 25) := by
    unfold FX12_told
    refine Pc.bq (g_slotM hs) (Pc.ifF (by decide) (PcwrE (PcwrE (PcwrE (PcwrE ?_)))))
    have gf : ∀ c, c ≠ 149 → wr (wr (wr (wr u 149 6 0) 149 7 (-1)) 149 12 0) 149 8 0 c = u c := fun c hc => by rw [wr_off c hc, wr_off c hc, wr_off c hc, wr_off c hc]
    have g25 : wr (wr (wr (wr u 149 6 0) 149 7 (-1)) 149 12 0) 149 8 0 149 25 = u 149 25 := by rw [wrn (by decide), wrn (by decide), wrn (by decide), wrn (by decide)]
    have g12 : wr (wr (wr (wr u 149 6 0) 149 7 (-1)) 149 12 0) 149 8 0 149 12 = 0 := by rw [wrn (by decide), wrs]
    have g8 : wr (wr (wr (wr u 149 6 0) 149 7 (-1)) 149 12 0) 149 8 0 149 8 = nI 0 := wrs
    have gM : MT k bt (wr (wr (wr (wr u 149 6 0) 149 7 (-1)) 149 12 0) 149 8 0) := by
      refine ⟨h.1, ?_, fun i hi => ?_⟩
      · rw [wrn (by decide), wrn (by decide), wrn (by decide), wrn (by decide)]; exact h.2.1
      · rw [gf 153 (by decide)]; exact h.2.2 i hi
    generalize wr (wr (wr (wr u 149 6 0) 149 7 (-1)) 149 12 0) 149 8 0 = y at gf g25 g12 g8 gM ⊢
    refine Pc.bd _ m_remembers.pc ?_
    rintro _ y1 ⟨r1, r2⟩
    have M1 : MT k bt y1 := ⟨gM.1, by rw [r1 149 (by decide)]; exact gM.2.1, fun i hi => by rw [r1 153 (by decide)]; exact gM.2.2 i hi⟩
    refine Pc.bd _ (m_next M1 (Nat.zero_le _) (by rw [r1 149 (by decide)]; exact g8)).pc ?_
    rintro _ y2 ⟨R2, K2⟩
    have b2 : y2 149 12 = 0 := by rw [K2.2 12 (by omega), r1 149 (by decide)]; exact g12
    refine Pc.bd _ (m_readsNetX R2 b2 hs).pc ?_
    rintro _ y3 ⟨F3, -⟩
    refine PcwrE ?_
    have z1 : wr y3 149 5 0 162 = u 162 := by rw [wr_off 162 (by decide), F3.1 162 (by decide) (by decide), K2.1 162 (by decide), r1 162 (by decide)]; exact gf 162 (by decide)
    have z2 : wr y3 149 5 0 149 25 = u 149 25 := by rw [wrn (by decide), F3.2 25 (by omega), K2.2 25 (by omega), r1 149 (by decide)]; exact g25
    generalize wr y3 149 5 0 = z at z1 z2 ⊢
    refine Pc.rdE rfl (Pc.ite (fun _ => ?_) (fun _ => ?_))
    · refine Pc.bd _ (fo_FX12_lines (P := fun c i => c = 162 ∨ (c = 149 ∧ i = 25)) _).pc ?_
      rintro v t1 h1
      refine Pc.bd _ (fo_FX12_done (P := fun c i => c = 162 ∨ (c = 149 ∧ i = 25)) _ (fun c i h => by omega)).pc ?_
      rintro v2 t2 h2
      exact Pc.ret ⟨(funext (fun i => (h2 162 i (Or.inl rfl)).trans (h1 162 i (Or.inl rfl)))).trans z1, ((h2 149 25 (Or.inr ⟨rfl, rfl⟩)).trans (h1 149 25 (Or.inr ⟨rfl, rfl⟩))).trans z2⟩
    · refine Pc.bd (fun _ t1 => t1 162 = z 162 ∧ t1 149 25 = z 149 25) ?_ (fun _ t1 h1 => Pc.ret ⟨h1.1.trans z1, h1.2.trans z2⟩)
      refine (Fo.wh (P := fun c _ => c ≠ 150) (fun c s => ?_)).pc.mono (fun _ u hu => ⟨funext (fun i => hu 162 i (by decide)), hu 149 25 (by decide)⟩)
      unfold SX12_told_57
      exact Fo.ite Fo.ret (Fo.ck (fun _ => Fo.rd (fun _ => Fo.ck (fun _ => Fo.wr (fun c i h q => absurd q h) (fun _ => Fo.ret)))))
  exact this r w e
theorem z3_told {σ : St} (hI : INV3 σ) (a : Int32) : BOTH (FX11_told a σ) (fun u => FX12_told a u) := by
  obtain ⟨h2, ⟨K, m, hG, hC, hM⟩, hF, hO⟩ := id hI
  rcases r3 (a := a) with ⟨s, hs, rfl⟩ | ha
  · obtain ⟨r, u, e1, r2, w, e2, hw, hr⟩ := z_told hI.1 (nI s)
    refine ⟨r, u, e1, r2, w, e2, ?_, hr⟩
    obtain ⟨hI1, ⟨k, bt, hCT, hMT⟩, -, -⟩ := h2
    obtain ⟨c1, c2⟩ := c_toldA hG hs hC hCT r u e1
    have gc : GC (wr σ 1 1 0) u := by
      rcases (gX11_told (GC.refl hI1.1)).out e1 with ⟨h, -⟩ | ⟨-, h⟩
      · exact absurd ⟨s, hs, rfl⟩ h
      · exact h
    have pu : PI u := hI1.2.1.al (fun b h _ => by rw [gc.2 b (by omega), wr_off b (by omega)])
    have gm : GM (wr u 149 5 0) w := by
      rcases (nX12_told (σ := u) ⟨gc.1, fun _ _ => rfl, rfl, pu⟩).out e2 with ⟨h, -⟩ | ⟨-, h⟩
      · exact absurd ⟨s, hs, rfl⟩ h
      · exact h
    have g149 : ∀ b, 149 ≤ b → u b = σ b := fun b hb => by rw [gc.2 b (by omega), wr_off b (by omega)]
    have mu : MT k bt u := ⟨hMT.1, by rw [g149 149 (by omega)]; exact hMT.2.1, fun i hi => by rw [g149 153 (by omega)]; exact hMT.2.2 i hi⟩
    have Mu : MST K m u := hM.fr (by rw [g149 149 (by omega)]) (g149 150 (by omega)) (g149 152 (by omega))
    have d := m_toldA hG hs Mu mu r2 w e2
    have fo := fo_told_out hs mu e2
    have wc : ∀ b, b < 149 → w b = u b := fun b hb => by rw [gm.2.1 b (Or.inl hb), wr_off b (by omega)]
    have Fu : FA u := ⟨fun r hr => (hF.1 r hr).fr (fun c k1 k2 => c2 c (by omega) (by omega) (by omega)), hF.2.fr (fun c k1 k2 => c2 c (by omega) (by omega) (by omega))⟩
    have fin : ∀ K' m', GK K' m' → CST K' m' u → MST K' m' w → INV3 w := fun K' m' q1 q2 q3 => by
      refine ⟨hw, ⟨K', m', q1, q2.fr q1.1 (fun s hs c k1 k2 => wc c (by omega)) (fun c k1 k2 => wc c (by omega)), q3⟩, Fu.fr (fun c hc => wc c (by omega)), hO.fr ?_ ?_ ?_ ?_⟩
      · rw [wc 3 (by omega)]; exact out_told hs hCT e1 3 (Or.inl rfl)
      · rw [wc 4 (by omega)]; exact out_told hs hCT e1 4 (Or.inr rfl)
      · rw [fo.1]; exact g149 162 (by omega)
      · rw [fo.2, g149 149 (by omega)]
    cases e : ptext k bt with
    | inl f =>
      rw [e] at c1 d
      exact fin K m hG c1 d
    | inr v =>
      rw [e] at c1 d
      obtain ⟨K', m', hN, hC'⟩ := c1
      exact fin K' m' (hG.nx (ptext_gv e) hN) hC' (d K' m' hN)
  · refine BOTH.no (v := -2) hI ?_ ?_
    · refine Ok.eq ?_
      unfold FX11_told
      exact Ok.bq (g_slot0 ha) (Ok.ifT rfl (Ok.ret ⟨rfl, rfl⟩))
    · refine Ok.eq ?_
      unfold FX12_told
      exact Ok.bq (g_slotM0 ha) (Ok.ifT rfl (Ok.ret ⟨rfl, rfl⟩))
end
section
/-! between two calls: what only looks (wip/sim/g99b.py) -/
def BOTHW (x : Option (Int32 × St)) (y : St → Option (Int32 × St)) : Prop := Ok x (fun r u => Ok (y u) (fun r2 w => INV3 w))
theorem BOTH.w {x : Option (Int32 × St)} {y : St → Option (Int32 × St)} (h : BOTH x y) : BOTHW x y := by
  obtain ⟨r, u, e1, r2, w, e2, h1, -⟩ := h
  exact ⟨r, u, e1, r2, w, e2, h1⟩
theorem rdW {σ : St} {x : Option (Int32 × St)} {y : St → Option (Int32 × St)} (hI : INV3 σ) (hz : Ok x (fun r u => Ok (y u) (fun r2 w => INV2 w))) (f1 : Fo P3 σ x) (f2 : ∀ u, Fo P3 u (y u)) : BOTHW x y := by
  obtain ⟨r, u, e1, r2, w, e2, hw⟩ := hz
  exact ⟨r, u, e1, r2, w, e2, hI.fr hw (fun c i h => (f2 u r2 w e2 c i h).trans (f1 r u e1 c i h))⟩
/-- the answers of what only looks: the class's at σ, the reference's at what it left -/
theorem rdA {σ : St} {x : Option (Int32 × St)} {y : St → Option (Int32 × St)} (h : BOTHW x y) (f1 : Fo P3 σ x) (A : Int32) (h1 : Pc x (fun r _ => r = A)) (h2 : ∀ u, (∀ c i, P3 c i → u c i = σ c i) → Pc (y u) (fun r _ => r = A)) : BOTH x y := by
  obtain ⟨r, u, e1, r2, w, e2, hw⟩ := h
  exact ⟨r, u, e1, r2, w, e2, hw, (h1 r u e1).trans (h2 u (f1 r u e1) r2 w e2).symm⟩
/-- what a search of the class leaves -/
def PS (c i : Nat) : Prop := c = 3 ∨ c = 4 ∨ (12 ≤ c ∧ c ≤ 15) ∨ (36 ≤ c ∧ c ≤ 39) ∨ (60 ≤ c ∧ c ≤ 63) ∨ (98 ≤ c ∧ c ≤ 140) ∨ c = 150 ∨ c = 152 ∨ c = 162 ∨ (c = 149 ∧ (i = 3 ∨ i = 25))
def SR (σ u : St) : Prop := FA u ∧ ∀ c i, PS c i → u c i = σ c i
theorem SR.rf {σ : St} (hI : INV3 σ) : SR σ σ := ⟨hI.2.2.1, fun _ _ _ => rfl⟩
theorem INV3.sr {σ u w : St} (h : INV3 σ) (hw : INV2 w) (f1 : SR σ u) (f2 : ∀ c i, P3 c i → w c i = u c i) : INV3 w := by
  obtain ⟨-, ⟨K, m, hG, hC, hM⟩, -, hO⟩ := h
  obtain ⟨hF, f1⟩ := f1
  have hCu : CST K m u := hC.fr hG.1 (fun s hs c c1 c2 => cel f1 (fun i => by unfold PS; omega)) (fun c c1 c2 => cel f1 (fun i => by unfold PS; omega))
  have hMu : MST K m u := hM.fr (f1 149 3 (by unfold PS; omega)) (cel f1 (fun i => by unfold PS; omega)) (cel f1 (fun i => by unfold PS; omega))
  have hOu : OUTI u := hO.fr (cel f1 (fun i => by unfold PS; omega)) (cel f1 (fun i => by unfold PS; omega)) (cel f1 (fun i => by unfold PS; omega)) (f1 149 25 (by unfold PS; omega))
  refine ⟨hw, ⟨K, m, hG, hCu.fr hG.1 (fun s hs c c1 c2 => cel f2 (fun i => by unfold P3; omega)) (fun c c1 c2 => cel f2 (fun i => by unfold P3; omega)), hMu.fr (f2 149 3 (by unfold P3; omega)) (cel f2 (fun i => by unfold P3; omega)) (cel f2 (fun i => by unfold P3; omega))⟩, hF.fr (fun c hc => cel f2 (fun i => by unfold P3; omega)), hOu.fr (cel f2 (fun i => by unfold P3; omega)) (cel f2 (fun i => by unfold P3; omega)) (cel f2 (fun i => by unfold P3; omega)) (f2 149 25 (by unfold P3; omega))⟩
theorem srW {σ : St} {x : Option (Int32 × St)} {y : St → Option (Int32 × St)} (hI : INV3 σ) (hz : Ok x (fun r u => Ok (y u) (fun r2 w => INV2 w))) (h1 : Pc x (fun _ u => SR σ u)) (f2 : ∀ u, Fo P3 u (y u)) : BOTHW x y := by
  obtain ⟨r, u, e1, r2, w, e2, hw⟩ := hz
  exact ⟨r, u, e1, r2, w, e2, hI.sr hw (h1 r u e1) (f2 u r2 w e2)⟩
theorem srA {σ : St} {x : Option (Int32 × St)} {y : St → Option (Int32 × St)} (hI : INV3 σ) (hz : Ok x (fun r u => Ok (y u) (fun r2 w => INV2 w))) (A : Int32) (h1 : Pc x (fun r u => r = A ∧ SR σ u)) (f2 : ∀ u, Fo P3 u (y u)) (h2 : ∀ u, SR σ u → Pc (y u) (fun r _ => r = A)) : BOTH x y := by
  obtain ⟨r, u, e1, r2, w, e2, hw⟩ := hz
  obtain ⟨a, b⟩ := h1 r u e1
  exact ⟨r, u, e1, r2, w, e2, hI.sr hw b (f2 u r2 w e2), a.trans (h2 u b r2 w e2).symm⟩
theorem SR.rn {σ u : St} (h : SR σ u) {s n : Nat} {w : Nat → Nat → Nat} (g : RN s n w σ) : RN s n w u := g.fr (cel h.2 (fun i => by unfold PS; omega))
theorem SR.eq {σ : St} {x : Option (Int32 × St)} {v : Int32} (hI : INV3 σ) (h : x = some (v, σ)) : Pc x (fun r u => r = v ∧ SR σ u) := by
  intro r u e
  rw [h] at e
  obtain ⟨rfl, rfl⟩ := some_pair e
  exact ⟨rfl, SR.rf hI⟩
theorem FA.ff {σ u : St} {s : Nat} (hF : FA σ) (h1 : FI (16 + 24 * s) u) (h2 : BI u) (f : FF s σ u) : FA u := ⟨fun r hr => by
  by_cases e : r = s
  · rw [e]; exact h1
  · exact (hF.1 r hr).fr (fun c c1 c2 => f c (by omega) (by omega)), h2⟩
theorem r_fof {σ : St} {s q : Nat} {v : V4} (hI : INV3 σ) (hs : s < 3) (h : SL σ s v) (h1 : 1 ≤ v.1) (hq : q < 7) : Pc (FX11_findingOf (nI s) (nI q) σ) (fun r u => r = some (22 + 24 * s + 2 * q) ∧ FDZ (22 + 24 * s + 2 * q) v.1 v.2.2.1 q u ∧ SR σ u) := by
  have hF := hI.2.2.1
  refine (r_findingOf hs hq h.2.1.1 h.1.1 h1 (hF.1 s hs) hF.2).mono ?_
  rintro r u ⟨rfl, a, b, c, f⟩
  exact ⟨rfl, a, hF.ff b c f, fun c i hc => by rw [f c (by unfold PS at hc; omega) (by unfold PS at hc; omega)]⟩
theorem zw_fault {σ : St} (hI : INV3 σ) (a : Int32) : BOTHW (FX11_fault a σ) (fun u => FX12_fault a u) := rdW hI ((z_fault hI.1 a).mono (fun r u h => h.mono (fun _ _ h => h.1))) (fo_FX11_fault (P := P3) _) (fun u => fo_FX12_fault (P := P3) _)
theorem zw_count {σ : St} (hI : INV3 σ) (a : Int32) : BOTHW (FX11_count a σ) (fun u => FX12_count a u) := rdW hI (z_count hI.1 _) (fo_FX11_count (P := P3) _) (fun u => fo_FX12_count (P := P3) _)
theorem zw_look {σ : St} (hI : INV3 σ) (a b : Int32) : BOTHW (FX11_look a b σ) (fun u => FX12_look a b u) := rdW hI (z_look hI.1 _ _) (fo_FX11_look (P := P3) _ _) (fun u => fo_FX12_look (P := P3) _ _)
theorem zw_near {σ : St} (hI : INV3 σ) (a b : Int32) : BOTHW (FX11_near a b σ) (fun u => FX12_near a b u) := rdW hI (z_near hI.1 _ _) (fo_FX11_near (P := P3) _ _) (fun u => fo_FX12_near (P := P3) _ _)
theorem zw_line {σ : St} (hI : INV3 σ) (a b c : Int32) : BOTHW (FX11_line a b c σ) (fun u => FX12_line a b c u) := rdW hI (z_line hI.1 _ _ _) (fo_FX11_line (P := P3) _ _ _) (fun u => fo_FX12_line (P := P3) _ _ _)
theorem zw_far {σ : St} (hI : INV3 σ) (a b c : Int32) : BOTHW (FX11_far a b c σ) (fun u => FX12_far a b c u) := rdW hI (z_far hI.1 _ _ _) (fo_FX11_far (P := P3) _ _ _) (fun u => fo_FX12_far (P := P3) _ _ _)
theorem zw_row {σ : St} (hI : INV3 σ) (a b : Int32) : BOTHW (FX11_row a b σ) (fun u => FX12_row a b u) := rdW hI (z_row hI.1 _ _) (fo_FX11_row (P := P3) _ _) (fun u => fo_FX12_row (P := P3) _ _)
theorem zw_place {σ : St} (hI : INV3 σ) (a b : Int32) : BOTHW (FX11_place a b σ) (fun u => FX12_place a b u) := rdW hI (z_place hI.1 _ _) (fo_FX11_place (P := P3) _ _) (fun u => fo_FX12_place (P := P3) _ _)
theorem zw_value {σ : St} (hI : INV3 σ) (a b : Int32) : BOTHW (FX11_value a b σ) (fun u => FX12_value a b u) := rdW hI (z_value hI.1 _ _) (fo_FX11_value (P := P3) _ _) (fun u => fo_FX12_value (P := P3) _ _ (fun c i h => by unfold P3 at h; omega))
theorem zw_price {σ : St} (hI : INV3 σ) (a b c : Int32) : BOTHW (FX11_price a b c σ) (fun u => FX12_price a b c u) := rdW hI (z_price hI.1 _ _ _) (fo_FX11_price (P := P3) _ _ _) (fun u => fo_FX12_price (P := P3) _ _ _)
theorem zw_worst {σ : St} (hI : INV3 σ) (a b : Int32) : BOTHW (FX11_worst a b σ) (fun u => FX12_worst a b u) := rdW hI (z_worst hI.1 _ _) (fo_FX11_worst (P := P3) _ _) (fun u => fo_FX12_worst (P := P3) _ _)
theorem zw_longest {σ : St} (hI : INV3 σ) (a : Int32) : BOTHW (FX11_longest a σ) (fun u => FX12_longest a u) := rdW hI (z_longest hI.1 _) (fo_FX11_longest (P := P3) _) (fun u => fo_FX12_longest (P := P3) _)
theorem zw_bound {σ : St} (hI : INV3 σ) (a b c : Int32) : BOTHW (FX11_bound a b c σ) (fun u => FX12_bound a b c u) := rdW hI (z_bound hI.1 _ _ _) (fo_FX11_bound (P := P3) _ _ _) (fun u => fo_FX12_bound (P := P3) _ _ _)
theorem zw_minor {σ : St} (hI : INV3 σ) (a : Int32) : BOTHW (FX11_minor a σ) (fun u => FX12_minor a u) := rdW hI (z_minor hI.1 _) (fo_FX11_minor (P := P3) _ (fun c i h => by unfold P3 at h; omega)) (fun u => fo_FX12_minor (P := P3) _ (fun c i h => by unfold P3 at h; omega))
theorem zw_split {σ : St} (hI : INV3 σ) (a b c : Int32) : BOTHW (FX11_split a b c σ) (fun u => FX12_split a b c u) := rdW hI (z_split hI.1 _ _ _) (fo_FX11_split (P := P3) _ _ _) (fun u => fo_FX12_split (P := P3) _ _ _)
theorem zw_halve {σ : St} (hI : INV3 σ) (a : Int32) : BOTHW (FX11_halve a σ) (fun u => FX12_halve a u) := rdW hI (z_halve hI.1 _) (fo_FX11_halve (P := P3) _) (fun u => fo_FX12_halve (P := P3) _)
theorem zw_bag {σ : St} (hI : INV3 σ) (a b c : Int32) : BOTHW (FX11_bag a b c σ) (fun u => FX12_bag a b c u) := rdW hI (z_bag hI.1 _ _ _) (fo_FX11_bag (P := P3) _ _ _) (fun u => fo_FX12_bag (P := P3) _ _ _)
theorem zw_filled {σ : St} (hI : INV3 σ) (a b : Int32) : BOTHW (FX11_filled a b σ) (fun u => FX12_filled a b u) := rdW hI (z_filled hI.1 _ _) (fo_FX11_filled (P := P3) _ _) (fun u => fo_FX12_filled (P := P3) _ _)
theorem zw_gain {σ : St} (hI : INV3 σ) (a b c d : Int32) : BOTHW (FX11_gain a b c d σ) (fun u => FX12_gain a b c d u) := rdW hI (z_gain hI.1 _ _ _ _) (fo_FX11_gain (P := P3) _ _ _ _ (fun c i h => by unfold P3 at h; omega)) (fun u => fo_FX12_gain (P := P3) _ _ _ _ (fun c i h => by unfold P3 at h; omega))
theorem zw_polished {σ : St} (hI : INV3 σ) (a b : Int32) : BOTHW (FX11_polished a b σ) (fun u => FX12_polished a b u) := rdW hI (z_polished hI.1 _ _) (fo_FX11_polished (P := P3) _ _ (fun c i h => by unfold P3 at h; omega)) (fun u => fo_FX12_polished (P := P3) _ _ (fun c i h => by unfold P3 at h; omega))
theorem zw_octet {σ : St} (hI : INV3 σ) (a : Int32) : BOTHW (FX11_octet a σ) (fun u => FX12_octet a u) := rdW hI (z_octet hI.1 _) (fo_FX11_octet (P := P3) _) (fun u => fo_FX12_octet (P := P3) _)
theorem z3_least {σ : St} (hI : INV3 σ) (a b : Int32) : BOTH (FX11_least a b σ) (fun u => FX12_least a b u) := by
  rcases r3 (a := a) with ⟨s, hs, rfl⟩ | ha
  · obtain ⟨v, h⟩ := hI.sl hs
    have hn : v.1 < 10 := h.1.1.1
    have h0 := h.2.1.1.1
    have hr := h.2.2.1
    by_cases h1 : 1 ≤ v.1
    · by_cases hb : IsR 7 b
      · obtain ⟨q, hq, rfl⟩ := hb
        refine srA hI (z_least hI.1 _ _) (nI (lsv v.1 v.2.2.1 q)) ?_ (fun u => fo_FX12_least (P := P3) _ _ (fun c i h => by unfold P3 at h; omega)) (fun u hu => a_least (hu.rn hr) hs h.1.1.2.1 hn h1 hq)
        unfold FX11_least
        refine Pc.bd _ (r_fof hI hs h h1 hq) ?_
        rintro _ u ⟨rfl, z, S⟩
        exact Pc.ck (fun _ => Pc.rdE z.1 (Pc.ret ⟨rfl, S⟩))
      · refine BOTH.no (v := -2) hI ?_ ?_
        · unfold FX11_least
          exact Ok.eq (Ok.bq (g_findingOfM hs hn h0 hb) (Ok.ret ⟨rfl, rfl⟩))
        · refine Ok.eq ?_
          unfold FX12_least
          exact Ok.bq (g_isN1 hs hn hr h1) (Ok.ifF (by decide) (Ok.bq (g_msM0 hb) (Ok.ifT rfl (Ok.ret ⟨rfl, rfl⟩))))
    · refine BOTH.no (v := -2) hI ?_ ?_
      · unfold FX11_least
        exact Ok.eq (Ok.bq (g_findingOfN hs (by rw [h0, show v.1 = 0 by omega])) (Ok.ret ⟨rfl, rfl⟩))
      · refine Ok.eq ?_
        unfold FX12_least
        exact Ok.bq (g_isN0 hs hn hr (by omega)) (Ok.ifT rfl (Ok.ret ⟨rfl, rfl⟩))
  · refine BOTH.no (v := -2) hI ?_ ?_
    · unfold FX11_least
      exact Ok.eq (Ok.bq (g_findingOf0 ha) (Ok.ret ⟨rfl, rfl⟩))
    · refine Ok.eq ?_
      unfold FX12_least
      exact Ok.bq (g_isNet0 ha) (Ok.ifT rfl (Ok.ret ⟨rfl, rfl⟩))
theorem z3_ways {σ : St} (hI : INV3 σ) (a b : Int32) : BOTH (FX11_ways a b σ) (fun u => FX12_ways a b u) := by
  rcases r3 (a := a) with ⟨s, hs, rfl⟩ | ha
  · obtain ⟨v, h⟩ := hI.sl hs
    have hn : v.1 < 10 := h.1.1.1
    have h0 := h.2.1.1.1
    have hr := h.2.2.1
    by_cases h1 : 1 ≤ v.1
    · by_cases hb : IsR 7 b
      · obtain ⟨q, hq, rfl⟩ := hb
        refine srA hI (z_ways hI.1 _ _) (nI (rwc v.1 v.2.2.1 q)) ?_ (fun u => fo_FX12_ways (P := P3) _ _ (fun c i h => by unfold P3 at h; omega)) (fun u hu => a_ways (hu.rn hr) hs h.1.1.2.1 hn h1 hq)
        unfold FX11_ways
        refine Pc.bd _ (r_fof hI hs h h1 hq) ?_
        rintro _ u ⟨rfl, z, S⟩
        exact Pc.ck (fun _ => Pc.rdE z.2.1 (Pc.ret ⟨rfl, S⟩))
      · refine BOTH.no (v := -2) hI ?_ ?_
        · unfold FX11_ways
          exact Ok.eq (Ok.bq (g_findingOfM hs hn h0 hb) (Ok.ret ⟨rfl, rfl⟩))
        · refine Ok.eq ?_
          unfold FX12_ways
          exact Ok.bq (g_isN1 hs hn hr h1) (Ok.ifF (by decide) (Ok.bq (g_msM0 hb) (Ok.ifT rfl (Ok.ret ⟨rfl, rfl⟩))))
    · refine BOTH.no (v := -2) hI ?_ ?_
      · unfold FX11_ways
        exact Ok.eq (Ok.bq (g_findingOfN hs (by rw [h0, show v.1 = 0 by omega])) (Ok.ret ⟨rfl, rfl⟩))
      · refine Ok.eq ?_
        unfold FX12_ways
        exact Ok.bq (g_isN0 hs hn hr (by omega)) (Ok.ifT rfl (Ok.ret ⟨rfl, rfl⟩))
  · refine BOTH.no (v := -2) hI ?_ ?_
    · unfold FX11_ways
      exact Ok.eq (Ok.bq (g_findingOf0 ha) (Ok.ret ⟨rfl, rfl⟩))
    · refine Ok.eq ?_
      unfold FX12_ways
      exact Ok.bq (g_isNet0 ha) (Ok.ifT rfl (Ok.ret ⟨rfl, rfl⟩))
theorem z3_firsts {σ : St} (hI : INV3 σ) (a b : Int32) : BOTH (FX11_firsts a b σ) (fun u => FX12_firsts a b u) := by
  rcases r3 (a := a) with ⟨s, hs, rfl⟩ | ha
  · obtain ⟨v, h⟩ := hI.sl hs
    have hn : v.1 < 10 := h.1.1.1
    have h0 := h.2.1.1.1
    have hr := h.2.2.1
    by_cases h1 : 1 ≤ v.1
    · by_cases hb : IsR 7 b
      · obtain ⟨q, hq, rfl⟩ := hb
        refine srA hI (z_firsts hI.1 _ _) (nI (fpt v.1 v.2.2.1 q)) ?_ (fun u => fo_FX12_firsts (P := P3) _ _ (fun c i h => by unfold P3 at h; omega)) (fun u hu => a_firsts (hu.rn hr) hs h.1.1.2.1 hn h1 hq)
        unfold FX11_firsts
        refine Pc.bd _ (r_fof hI hs h h1 hq) ?_
        rintro _ u ⟨rfl, z, S⟩
        exact Pc.ck (fun _ => Pc.rdE z.2.2.1 (Pc.ret ⟨rfl, S⟩))
      · refine BOTH.no (v := -2) hI ?_ ?_
        · unfold FX11_firsts
          exact Ok.eq (Ok.bq (g_findingOfM hs hn h0 hb) (Ok.ret ⟨rfl, rfl⟩))
        · refine Ok.eq ?_
          unfold FX12_firsts
          exact Ok.bq (g_isN1 hs hn hr h1) (Ok.ifF (by decide) (Ok.bq (g_msM0 hb) (Ok.ifT rfl (Ok.ret ⟨rfl, rfl⟩))))
    · refine BOTH.no (v := -2) hI ?_ ?_
      · unfold FX11_firsts
        exact Ok.eq (Ok.bq (g_findingOfN hs (by rw [h0, show v.1 = 0 by omega])) (Ok.ret ⟨rfl, rfl⟩))
      · refine Ok.eq ?_
        unfold FX12_firsts
        exact Ok.bq (g_isN0 hs hn hr (by omega)) (Ok.ifT rfl (Ok.ret ⟨rfl, rfl⟩))
  · refine BOTH.no (v := -2) hI ?_ ?_
    · unfold FX11_firsts
      exact Ok.eq (Ok.bq (g_findingOf0 ha) (Ok.ret ⟨rfl, rfl⟩))
    · refine Ok.eq ?_
      unfold FX12_firsts
      exact Ok.bq (g_isNet0 ha) (Ok.ifT rfl (Ok.ret ⟨rfl, rfl⟩))
theorem z3_best {σ : St} (hI : INV3 σ) (a b c : Int32) : BOTH (FX11_best a b c σ) (fun u => FX12_best a b c u) := by
  rcases r3 (a := a) with ⟨s, hs, rfl⟩ | ha
  · obtain ⟨v, h⟩ := hI.sl hs
    have hn : v.1 < 10 := h.1.1.1
    have h0 := h.2.1.1.1
    have hr := h.2.2.1
    have g := n_sl hs
    by_cases h1 : 1 ≤ v.1
    · by_cases hb : IsR 7 b
      · obtain ⟨q, hq, rfl⟩ := hb
        have hx : ∀ u, SR σ u → u (12 + 24 * s) 0 = nI v.1 := fun u hu => by
          rw [hu.2 _ _ (by unfold PS; omega)]
          exact h0
        by_cases hc : IsR v.1 c
        · obtain ⟨i, hi, rfl⟩ := hc
          refine srA hI (z_best hI.1 _ _ _) (nI (frw v.1 v.2.2.1 q i)) ?_ (fun u => fo_FX12_best (P := P3) _ _ _ (fun c i h => by unfold P3 at h; omega)) (fun u hu => a_best (hu.rn hr) hs h.1.1.2.1 hn hi hq)
          unfold FX11_best
          refine Pc.bd _ (r_fof hI hs h h1 hq) ?_
          rintro _ u ⟨rfl, z, S⟩
          refine Pc.ck (fun _ => Pc.ck (fun _ => Pc.ck (fun _ => ?_)))
          rw [el10 hs]
          refine Pc.bq (g_has g hn (hx u S) hi) (Pc.ifF (by decide) (Pc.ck (fun _ => ?_)))
          rw [nI_cl (by omega)]
          exact Pc.rdE (z.2.2.2 i hi) (Pc.ret ⟨rfl, S⟩)
        · refine srA hI (z_best hI.1 _ _ _) (-2) ?_ (fun u => fo_FX12_best (P := P3) _ _ _ (fun c i h => by unfold P3 at h; omega)) (fun u hu => ?_)
          · unfold FX11_best
            refine Pc.bd _ (r_fof hI hs h h1 hq) ?_
            rintro _ u ⟨rfl, z, S⟩
            refine Pc.ck (fun _ => Pc.ck (fun _ => Pc.ck (fun _ => ?_)))
            rw [el10 hs]
            exact Pc.bq (g_has0 g hn (hx u S) hc) (Pc.ifT rfl (Pc.ret ⟨rfl, S⟩))
          · unfold FX12_best
            exact Pc.bq (g_isPt0 hs hn (hu.rn hr) hc) (Pc.ifT rfl (Pc.ret rfl))
      · refine BOTH.no (v := -2) hI ?_ ?_
        · unfold FX11_best
          exact Ok.eq (Ok.bq (g_findingOfM hs hn h0 hb) (Ok.ret ⟨rfl, rfl⟩))
        · refine Ok.eq ?_
          unfold FX12_best
          by_cases hc : IsR v.1 c
          · obtain ⟨i, hi, rfl⟩ := hc
            exact Ok.bq (g_isPt hs hn hr hi) (Ok.ifF (by decide) (Ok.bq (g_msM0 hb) (Ok.ifT rfl (Ok.ret ⟨rfl, rfl⟩))))
          · exact Ok.bq (g_isPt0 hs hn hr hc) (Ok.ifT rfl (Ok.ret ⟨rfl, rfl⟩))
    · refine BOTH.no (v := -2) hI ?_ ?_
      · unfold FX11_best
        exact Ok.eq (Ok.bq (g_findingOfN hs (by rw [h0, show v.1 = 0 by omega])) (Ok.ret ⟨rfl, rfl⟩))
      · refine Ok.eq ?_
        unfold FX12_best
        exact Ok.bq (g_isPt0 hs hn hr (fun ⟨i, hi, _⟩ => by omega)) (Ok.ifT rfl (Ok.ret ⟨rfl, rfl⟩))
  · refine BOTH.no (v := -2) hI ?_ ?_
    · unfold FX11_best
      exact Ok.eq (Ok.bq (g_findingOf0 ha) (Ok.ret ⟨rfl, rfl⟩))
    · refine Ok.eq ?_
      unfold FX12_best
      exact Ok.bq (g_isPtN ha) (Ok.ifT rfl (Ok.ret ⟨rfl, rfl⟩))
theorem z3_within {σ : St} (hI : INV3 σ) (a b c : Int32) : BOTH (FX11_within a b c σ) (fun u => FX12_within a b c u) := by
  rcases r3 (a := a) with ⟨s, hs, rfl⟩ | ha
  · obtain ⟨v, h⟩ := hI.sl hs
    have hn : v.1 < 10 := h.1.1.1
    have h0 := h.2.1.1.1
    have hr := h.2.2.1
    have g := n_sl hs
    by_cases h1 : 1 ≤ v.1
    · by_cases hb : IsR 7 b
      · obtain ⟨q, hq, rfl⟩ := hb
        by_cases hc : c < 0
        · have nc : ¬ (0 : Int32) ≤ c := by
            rw [Int32.lt_iff_toInt_lt, show (0 : Int32).toInt = 0 by decide] at hc
            rw [Int32.le_iff_toInt_le, show (0 : Int32).toInt = 0 by decide]
            omega
          refine BOTH.no (v := -2) hI ?_ ?_
          · unfold FX11_within
            refine Ok.eq (netI hs hn h0 (fun _ => ⟨rfl, rfl⟩) (fun h1 g => Ok.bq (g_bd hq) (Ok.ite (fun _ => Ok.ret ⟨rfl, rfl⟩) (fun _ => Ok.ifF nc (Ok.ret ⟨rfl, rfl⟩)))))
          · refine Ok.eq ?_
            unfold FX12_within
            refine Ok.bq (g_isN1 hs hn hr h1) (Ok.ifF (by decide) (Ok.bq (g_msM hq) (Ok.ifF (by decide) (Ok.ite (fun _ => Ok.ifF nc (Ok.ret ⟨rfl, rfl⟩)) (fun _ => Ok.bq (q_isGreatest hq) (Ok.ite (fun _ => Ok.ret ⟨rfl, rfl⟩) (fun _ => Ok.ifF nc (Ok.ret ⟨rfl, rfl⟩))))))))
        · obtain ⟨k, hk, rfl⟩ := nI_of hc
          refine srA hI (z_within hI.1 _ _ _) _ ((c_within hs hq h.2.1.1 h.1.1 h1 hI.2.2.1.2 hk).mono ?_) (fun u => fo_FX12_within (P := P3) _ _ _ (fun c i h => by unfold P3 at h; omega)) (fun u hu => a_within (hu.rn hr) hs h.1.1.2.1 hn h1 hq hk)
          rintro r u ⟨r1, r2, r3⟩
          exact ⟨r1, ⟨fun r hr => (hI.2.2.1.1 r hr).fr (fun c c1 c2 => r3 c (by omega)), r2⟩, fun c i hc => by rw [r3 c (by unfold PS at hc; omega)]⟩
      · refine BOTH.no (v := -2) hI ?_ ?_
        · unfold FX11_within
          exact Ok.eq (netI hs hn h0 (fun _ => ⟨rfl, rfl⟩) (fun h1 g => Ok.bq (g_bd0 hb) (Ok.ifT rfl (Ok.ret ⟨rfl, rfl⟩))))
        · refine Ok.eq ?_
          unfold FX12_within
          exact Ok.bq (g_isN1 hs hn hr h1) (Ok.ifF (by decide) (Ok.bq (g_msM0 hb) (Ok.ifT rfl (Ok.ret ⟨rfl, rfl⟩))))
    · refine BOTH.no (v := -2) hI ?_ ?_
      · unfold FX11_within
        exact Ok.eq (netI hs hn h0 (fun _ => ⟨rfl, rfl⟩) (fun h g => absurd h h1))
      · refine Ok.eq ?_
        unfold FX12_within
        exact Ok.bq (g_isN0 hs hn hr (by omega)) (Ok.ifT rfl (Ok.ret ⟨rfl, rfl⟩))
  · refine BOTH.no (v := -2) hI ?_ ?_
    · unfold FX11_within
      exact net0 ha
    · refine Ok.eq ?_
      unfold FX12_within
      exact Ok.bq (g_isNet0 ha) (Ok.ifT rfl (Ok.ret ⟨rfl, rfl⟩))
theorem r_fofW {σ : St} (hI : INV3 σ) (a b : Int32) : Pc (FX11_findingOf a b σ) (fun _ u => SR σ u) := by
  rcases r3 (a := a) with ⟨s, hs, rfl⟩ | ha
  · obtain ⟨v, h⟩ := hI.sl hs
    by_cases h1 : 1 ≤ v.1
    · by_cases hb : IsR 7 b
      · obtain ⟨q, hq, rfl⟩ := hb
        exact (r_fof hI hs h h1 hq).mono (fun _ _ h => h.2.2)
      · rw [g_findingOfM hs h.1.1.1 h.2.1.1.1 hb]
        exact Pc.ret (SR.rf hI)
    · rw [g_findingOfN hs (by rw [h.2.1.1.1, show v.1 = 0 by omega])]
      exact Pc.ret (SR.rf hI)
  · rw [g_findingOf0 ha]
    exact Pc.ret (SR.rf hI)
theorem SR.fr {σ t u : St} (h : SR σ t) (f : ∀ c i, P3 c i → u c i = t c i) : SR σ u := ⟨h.1.fr (fun c hc => cel f (fun i => by unfold P3; omega)), fun c i hc => (f c i (by unfold P3; unfold PS at hc; omega)).trans (h.2 c i hc)⟩
theorem zw_among {σ : St} (hI : INV3 σ) (a b c : Int32) : BOTHW (FX11_among a b c σ) (fun u => FX12_among a b c u) := by
  refine srW hI (z_among hI.1 _ _ _) ?_ (fun u => fo_FX12_among (P := P3) _ _ _ (fun c i h => by unfold P3 at h; omega))
  unfold FX11_among
  refine Pc.bd _ (r_fofW hI a b) ?_
  rintro (_ | x) u S
  · exact Pc.ret S
  · refine Pc.ck (fun _ => Pc.bd _ (fo_FX11_isBounded (P := P3) _).pc ?_)
    rintro v7 t8 f8
    refine Pc.ite (fun _ => Pc.ret (S.fr f8)) (fun _ => Pc.ite (fun _ => Pc.ret (S.fr f8)) (fun _ => Pc.bd _ (fo_FX11_isPriced (P := P3) _).pc ?_))
    rintro v14 t15 f15
    have S15 := (S.fr f8).fr f15
    refine Pc.ite (fun _ => Pc.ret S15) (fun _ => Pc.ck (fun _ => Pc.ck (fun _ => Pc.rdE rfl (Pc.bd _ (fo_FX9_leastWhere (P := P3) _ _ _ _ (fun c i h => by unfold P3 at h; omega)).pc ?_))))
    rintro v22 t23 f23
    exact Pc.ret (S15.fr f23)
theorem z3_tell {σ : St} (hI : INV3 σ) (a b : Int32) : BOTH (FX11_tell a b σ) (fun u => FX12_tell a b u) := by
  rcases r3 (a := a) with ⟨s, hs, rfl⟩ | ha
  · obtain ⟨v, h⟩ := hI.sl hs
    have hn : v.1 < 10 := h.1.1.1
    have h0 := h.2.1.1.1
    have hr := h.2.2.1
    by_cases h1 : 1 ≤ v.1
    · by_cases hb : IsR 2 b
      · obtain ⟨q, hq, rfl⟩ := hb
        obtain ⟨r, u, e1, r2, w, e2, hw⟩ := z_tell hI.1 (nI s) (nI q)
        refine ⟨r, u, e1, r2, w, e2, ?_⟩
        have hw9 := h.1.1.2.1
        obtain ⟨rfl, u1, u2⟩ := (c_tell hs h.2.1.1 hw9 hn h1 h.2.1.2 (fun i _ => h.1.o9 i) hq).out e1
        have ru : RN s v.1 v.2.2.1 u := hr.fr (u2 150 (by decide) (by decide))
        have ou : RO s v.1 v.2.2.2 u := fun i hi => by rw [u2 150 (by decide) (by decide)]; exact h.2.2.2 i hi
        obtain ⟨rfl, w1, w2⟩ := (m_tell hs ru hw9 hn h1 ou (fun i _ => h.1.o9 i) hq).out e2
        have wu : ∀ c, c ≠ 149 → c ≠ 162 → c ≠ 3 → c ≠ 4 → w c = σ c := fun c k1 k2 k3 k4 => (w2.1 c k1 k2).trans (u2 c k3 k4)
        obtain ⟨-, ⟨K, m, hG, hC, hM⟩, hF, hO⟩ := hI
        refine ⟨⟨hw, ⟨K, m, hG, hC.fr hG.1 (fun s hs c c1 c2 => wu c (by omega) (by omega) (by omega) (by omega)) (fun c c1 c2 => wu c (by omega) (by omega) (by omega) (by omega)), hM.fr ?_ (wu 150 (by decide) (by decide) (by decide) (by decide)) (wu 152 (by decide) (by decide) (by decide) (by decide))⟩, hF.fr (fun c hc => wu c (by omega) (by omega) (by omega) (by omega)), tlx v.1 v.2.2.1 v.2.2.2 q, tlx_len hw9 hn (fun i _ => h.1.o9 i), ⟨?_, fun i hi => ?_⟩, w1⟩, rfl⟩
        · rw [w2.2 3 (by decide), u2 149 (by decide) (by decide)]
        · rw [w2.1 3 (by decide) (by decide)]; exact u1.1
        · rw [w2.1 4 (by decide) (by decide)]; exact u1.2 i hi
      · refine BOTH.no (v := -2) hI ?_ ?_
        · unfold FX11_tell
          refine Ok.eq (netI hs hn h0 (fun _ => ⟨rfl, rfl⟩) (fun h1 g => Ok.ite (fun _ => Ok.ret ⟨rfl, rfl⟩) (fun c0 => Ok.ifF ?_ (Ok.ret ⟨rfl, rfl⟩))))
          obtain ⟨k, hk, rfl⟩ := nI_of c0
          rw [li_1, nI_leP (by omega) (by omega)]
          exact fun q => hb ⟨k, by omega, rfl⟩
        · refine Ok.eq ?_
          unfold FX12_tell
          refine Ok.bq (g_isN1 hs hn hr h1) (Ok.ifF (by decide) (Ok.bd (fun r u => σ = u ∧ r = 0) (e_inN (n := 2) (by omega) (by omega) (fun j hj e => absurd ⟨j, hj, e⟩ hb) (fun q => ⟨rfl, rfl⟩) (by decide) (by decide)) ?_))
          rintro _ _ ⟨rfl, rfl⟩
          exact Ok.ifT rfl (Ok.ret ⟨rfl, rfl⟩)
    · refine BOTH.no (v := -2) hI ?_ ?_
      · unfold FX11_tell
        exact Ok.eq (netI hs hn h0 (fun _ => ⟨rfl, rfl⟩) (fun h g => absurd h h1))
      · refine Ok.eq ?_
        unfold FX12_tell
        exact Ok.bq (g_isN0 hs hn hr (by omega)) (Ok.ifT rfl (Ok.ret ⟨rfl, rfl⟩))
  · refine BOTH.no (v := -2) hI ?_ ?_
    · unfold FX11_tell
      exact net0 ha
    · refine Ok.eq ?_
      unfold FX12_tell
      exact Ok.bq (g_isNet0 ha) (Ok.ifT rfl (Ok.ret ⟨rfl, rfl⟩))
theorem z3_feed {σ : St} (hI : INV3 σ) (a b c d e : Int32) : BOTH (FX11_feed a b c d e σ) (fun u => FX12_feed a b c d e u) := by
  obtain ⟨r, u, e1, r2, w, e2, hw, hr⟩ := z_feed hI.1 a b c d e
  refine ⟨r, u, e1, r2, w, e2, ?_, hr⟩
  obtain ⟨hI1, ⟨k, bt, hC, hM⟩, -, -⟩ := hI.1
  by_cases hk : k ≤ 380
  · obtain ⟨-, c1, c2, c3, c4⟩ := (f_feedC hC.2.1 hk).out e1
    obtain ⟨-, m1, m2, m3, m4⟩ := (f_feedM (t := u) (k := k) (by rw [c1 149 (by decide) (by decide)]; exact hM.2.1) hk).out e2
    refine hI.fr hw (fun c i h => ?_)
    by_cases q : c = 149
    · subst q
      rw [m2, pk_un (by unfold P3 at h; omega), c1 149 (by decide) (by decide)]
    · rw [m1 c q (by unfold P3 at h; omega), c1 c (by unfold P3 at h; omega) (by unfold P3 at h; omega)]
  · have eu : σ = u := by
      rcases (gX11_feed hI1.1 hC.2.1 hC.1).out e1 with ⟨-, -, h⟩ | ⟨h, -⟩
      · exact h
      · omega
    subst eu
    have ew : σ = w := by
      rcases (nX12_feed hI1.1 hI1.2.1 hM.2.1 hM.1).out e2 with ⟨-, -, h⟩ | ⟨h, -⟩
      · exact h
      · omega
    subst ew
    exact hI
theorem z3_end {σ : St} (hI : INV3 σ) (a : Int32) : BOTH (FX11_end a σ) (fun u => FX12_end a u) := by
  obtain ⟨r, u, e1, r2, w, e2, hw, hr⟩ := z_end hI.1 a
  refine ⟨r, u, e1, r2, w, e2, hI.fr hw (fun c i h => ?_), hr⟩
  exact (fo_FX12_end a r2 w e2 c i (by unfold P3 at h; omega)).trans (fo_FX11_end a r u e1 c i (by unfold P3 at h; omega))
theorem z3_fault {σ : St} (hI : INV3 σ) (a : Int32) : BOTH (FX11_fault a σ) (fun u => FX12_fault a u) := by
  obtain ⟨r, u, e1, r2, w, e2, hw, hr⟩ := z_fault hI.1 a
  obtain ⟨r', u', e1', r2', w', e2', hw'⟩ := zw_fault hI a
  rw [e1] at e1'
  obtain ⟨rfl, rfl⟩ := some_pair e1'
  have e2' : FX12_fault a u = some (r2', w') := e2'
  rw [e2] at e2'
  obtain ⟨rfl, rfl⟩ := some_pair e2'
  exact ⟨r, u, e1, r2, w, e2, hw', hr⟩
theorem z3_octet {σ : St} (hI : INV3 σ) (a : Int32) : BOTH (FX11_octet a σ) (fun u => FX12_octet a u) := by
  obtain ⟨l, hl, h1, h2⟩ := hI.2.2.2
  by_cases hb : IsR l.length a
  · obtain ⟨i, hi, rfl⟩ := hb
    refine BOTH.no (v := nI (gt l i)) hI ?_ ?_
    · refine Ok.eq ?_
      unfold FX11_octet FX1_at_3
      refine Ok.bq (a := nI (gt l i)) (t := σ) (Ok.eq (Ok.ifF (by rw [li_0, nI_ltP (by omega) (by omega)]; omega) (Ok.rdE h1.1 (Ok.ifF (by rw [nI_leP (by omega) (by omega)]; omega) (Ok.ckT (inb_n (by omega) (by omega)) ?_))))) (Ok.ret ⟨rfl, rfl⟩)
      rw [nI_cl (by omega)]
      exact Ok.rdE rfl (Ok.ret ⟨rfl, h1.2 i hi⟩)
    · refine Ok.eq ?_
      unfold FX12_octet
      refine Ok.rdE h2.1 (Ok.bd (fun r u => σ = u ∧ r = 1) (e_inN (n := l.length) (by omega) (by omega) (fun _ _ _ => ⟨rfl, rfl⟩) (fun q => absurd ⟨i, hi, rfl⟩ q) in0 (by rw [nI_s1 (by omega), Int32.toInt_toInt64, nI_toInt (by omega)]; omega)) ?_)
      rintro _ _ ⟨rfl, rfl⟩
      refine Ok.ifF (by decide) (Ok.ckT (inb_n (by omega) (by omega)) ?_)
      rw [nI_cl (by omega)]
      exact Ok.rdE (h2.2 i hi) (Ok.ret ⟨rfl, rfl⟩)
  · refine BOTH.no (v := -1) hI ?_ ?_
    · refine Ok.eq ?_
      unfold FX11_octet FX1_at_3
      refine Ok.bq (a := -1) (t := σ) (Ok.eq (Ok.ite (fun _ => Ok.ret ⟨rfl, rfl⟩) (fun c0 => Ok.rdE h1.1 (Ok.ifT ?_ (Ok.ret ⟨rfl, rfl⟩))))) (Ok.ret ⟨rfl, rfl⟩)
      obtain ⟨k, hk, rfl⟩ := nI_of c0
      rw [nI_leP (by omega) (by omega)]
      exact Nat.le_of_not_lt (fun q => hb ⟨k, q, rfl⟩)
    · refine Ok.eq ?_
      unfold FX12_octet
      refine Ok.rdE h2.1 (Ok.bd (fun r u => σ = u ∧ r = 0) (e_in (fun g1 g2 => absurd ?_ hb) (fun _ => ⟨rfl, rfl⟩)) ?_)
      · rw [in0, Int32.toInt_toInt64] at g1
        have c0 : ¬ a < 0 := by
          rw [Int32.lt_iff_toInt_lt, show (0 : Int32).toInt = 0 by decide]
          omega
        obtain ⟨k, hk, rfl⟩ := nI_of c0
        refine ⟨k, ?_, rfl⟩
        rw [Int32.toInt_toInt64, nI_toInt (by omega), Int32.toInt_toInt64] at g2
        by_cases z : l.length = 0
        · rw [z] at g2
          have : (nI 0 - 1).toInt = -1 := by decide
          omega
        · rw [nI_s1 (by omega), nI_toInt (by omega)] at g2
          omega
      · rintro _ _ ⟨rfl, rfl⟩
        exact Ok.ifT rfl (Ok.ret ⟨rfl, rfl⟩)
theorem q_filled {K : Nat → Nat → V4} {m : Nat} {t : St} (hG : GK K m) (hC : CST K m t) : FX11_filledSlots t = some (nI (mkm 3 (fun s => decide (0 < (K m s).1))), t) := by
  refine Ok.eq ?_
  unfold FX11_filledSlots
  refine Ok.bq (a := nI (mkm 3 (fun s => decide (0 < (K m s).1)))) (t := t) (wq0 3 (fun j => (nI (mkm j (fun s => decide (0 < (K m s).1))), nI j)) rfl (fun j hj => ?_) ?_) (Ok.ret ⟨rfl, rfl⟩)
  · unfold SX11_filledSlots_4
    dsimp only
    have hn : (K m j).1 < 10 := (hG.2 m (Nat.le_refl _) j hj).1.1
    rw [el10 hj]
    refine Ok.ifF (by rw [li_3, nI_leP (by omega) (by omega)]; omega) (Ok.ckT (inb_n hj (by omega)) (Ok.ckT (n_sl hj) (Ok.rdE (hC.1 j hj).1.1 ?_)))
    refine Ok.bq (a := nI (mkm (j + 1) (fun s => decide (0 < (K m s).1)))) (t := t) (Ok.eq ?_) (Ok.ret ⟨rfl, by rw [nI_1]⟩)
    show Ok _ (fun r u => t = u ∧ r = nI (mkm j (fun s => decide (0 < (K m s).1)) ||| (if decide (0 < (K m j).1) = true then 2 ^ j else 0)))
    refine Ok.cv (nI_leP (b := 0) (by omega) (by omega)) (Ok.ite (fun c => Ok.ret ⟨rfl, ?_⟩) (fun c => Ok.ret ⟨rfl, ?_⟩))
    · rw [if_neg (fun q => by have := of_decide_eq_true q; omega), Nat.or_zero]
    · rw [if_pos (decide_eq_true (by omega)), li_1, shl_1b (by omega), nI_or]
  · unfold SX11_filledSlots_4
    dsimp only
    exact Ok.ifT (by decide) (Ok.ret ⟨rfl, rfl⟩)
theorem q_filledM {K : Nat → Nat → V4} {m : Nat} {t : St} {a : Int32} (hG : GK K m) (hM : MST K m t) : wh (SX12_count_4 a) ((0 : Int32), (0 : Int32)) t = some (nI (mkm 3 (fun s => decide (0 < (K m s).1))), t) := by
  refine wq0 3 (fun j => (nI (mkm j (fun s => decide (0 < (K m s).1))), nI j)) rfl (fun j hj => ?_) ?_
  · unfold SX12_count_4
    dsimp only
    have hn : (K m j).1 < 10 := (hG.2 m (Nat.le_refl _) j hj).1.1
    refine Ok.ifF (by rw [li_3, nI_leP (by omega) (by omega)]; omega) (Ok.bq (g_isNet hj hn (hM.2.1.rn hj)) ?_)
    refine Ok.bq (a := nI (if decide (0 < (K m j).1) = true then 2 ^ j else 0)) (t := t) (Ok.eq ?_) (Ok.ret ⟨rfl, ?_⟩)
    · by_cases c : (K m j).1 = 0
      · rw [if_pos c, if_neg (c := decide (0 < (K m j).1) = true) (fun q => by have := of_decide_eq_true q; omega)]
        exact Ok.ifT rfl (Ok.ret ⟨rfl, rfl⟩)
      · rw [if_neg c, if_pos (c := decide (0 < (K m j).1) = true) (decide_eq_true (by omega))]
        exact Ok.ifF (by decide) (Ok.ret ⟨rfl, by rw [li_1, shl_1b (by omega)]⟩)
    · rw [nI_or, nI_1]
      rfl
  · unfold SX12_count_4
    dsimp only
    exact Ok.ifT (by decide) (Ok.ret ⟨rfl, rfl⟩)
theorem z3_count {σ : St} (hI : INV3 σ) (a : Int32) : BOTH (FX11_count a σ) (fun u => FX12_count a u) := by
  obtain ⟨⟨hI1, ⟨k, bt, hCT, hMT⟩, -, -⟩, ⟨K, m, hG, hC, hM⟩, hF, l, hl, o1, o2⟩ := id hI
  have key : ∀ v : Int32, FX11_count a σ = some (v, σ) → FX12_count a σ = some (v, σ) → BOTH (FX11_count a σ) (fun u => FX12_count a u) := fun v h1 h2 => BOTH.no hI h1 h2
  by_cases c0 : a = 0
  · refine key (nI (mkm 3 (fun s => decide (0 < (K m s).1)))) (Ok.eq ?_) (Ok.eq ?_)
    · unfold FX11_count
      exact Ok.ifT c0 (Ok.bq (q_filled hG hC) (Ok.ret ⟨rfl, rfl⟩))
    · unfold FX12_count
      exact Ok.bq (q_filledM hG hM) (Ok.ifT c0 (Ok.ret ⟨rfl, rfl⟩))
  by_cases c1 : a = 1
  · refine key (nI m) (Ok.eq ?_) (Ok.eq ?_)
    · unfold FX11_count
      exact Ok.ifF c0 (Ok.ifT c1 (Ok.rdE hC.2.1 (Ok.ret ⟨rfl, rfl⟩)))
    · unfold FX12_count
      exact Ok.bq (q_filledM hG hM) (Ok.ifF c0 (Ok.ifT c1 (Ok.rdE hM.1 (Ok.ret ⟨rfl, rfl⟩))))
  by_cases c2 : a = 2
  · refine key (nI k) (Ok.eq ?_) (Ok.eq ?_)
    · unfold FX11_count
      exact Ok.ifF c0 (Ok.ifF c1 (Ok.ifT c2 (Ok.rdE hCT.2.1 (Ok.ret ⟨rfl, rfl⟩))))
    · unfold FX12_count
      exact Ok.bq (q_filledM hG hM) (Ok.ifF c0 (Ok.ifF c1 (Ok.ifT c2 (Ok.rdE hMT.2.1 (Ok.ret ⟨rfl, rfl⟩)))))
  by_cases c3 : a = 3
  · refine key (nI l.length) (Ok.eq ?_) (Ok.eq ?_)
    · unfold FX11_count
      exact Ok.ifF c0 (Ok.ifF c1 (Ok.ifF c2 (Ok.ifT c3 (Ok.rdE o1.1 (Ok.ret ⟨rfl, rfl⟩)))))
    · unfold FX12_count
      exact Ok.bq (q_filledM hG hM) (Ok.ifF c0 (Ok.ifF c1 (Ok.ifF c2 (Ok.ifT c3 (Ok.rdE o2.1 (Ok.ret ⟨rfl, rfl⟩))))))
  · refine key (-1) (Ok.eq ?_) (Ok.eq ?_)
    · unfold FX11_count
      exact Ok.ifF c0 (Ok.ifF c1 (Ok.ifF c2 (Ok.ifF c3 (Ok.ret ⟨rfl, rfl⟩))))
    · unfold FX12_count
      exact Ok.bq (q_filledM hG hM) (Ok.ifF c0 (Ok.ifF c1 (Ok.ifF c2 (Ok.ifF c3 (Ok.ret ⟨rfl, rfl⟩)))))
end
section
/-! looks whose answers are near at hand (wip/sim/g99c.py) -/
theorem Pc.eqA {x : Option (Int32 × St)} {A : Int32} {t : St} (h : x = some (A, t)) : Pc x (fun r _ => r = A) := by
  intro r u e
  rw [h] at e
  obtain ⟨rfl, rfl⟩ := some_pair e
  rfl
theorem q_in1 {n : Nat} {c : Int32} {t : St} (h1 : 1 ≤ n) (hn : n < 1000) {hi : Int64} (e : hi.toInt = (n : Int) - 1) (h : IsR n c) : FX12_in c.toInt64 (0 : Int64) hi t = some (1, t) := Ok.eq (e_inN h1 hn (fun _ _ _ => ⟨rfl, rfl⟩) (fun q => absurd h q) in0 e)
theorem q_in0 {n : Nat} {c : Int32} {t : St} (h1 : 1 ≤ n) (hn : n < 1000) {hi : Int64} (e : hi.toInt = (n : Int) - 1) (h : ¬ IsR n c) : FX12_in c.toInt64 (0 : Int64) hi t = some (0, t) := Ok.eq (e_inN h1 hn (fun j hj e => absurd ⟨j, hj, e⟩ h) (fun _ => ⟨rfl, rfl⟩) in0 e)
theorem q_placeOf {x n p : Nat} {o : Nat → Nat} {t : St} (g : netAt x = true) (hn : n < 10) (h : t x 0 = nI n) (ho : CO x n o t) (hP : PFX n n o) (hp : p < n) : FX5_placeOf x (nI p) t = some (nI (plc n o p), t) := by
  obtain ⟨p1, p2, p3⟩ := plc_in hn hP hp
  refine Ok.eq ?_
  unfold FX5_placeOf
  refine Ok.ckT g (Ok.bd (fun r u => t = u ∧ r = .inl (nI (plc n o p))) ?_ ?_)
  · refine Ok.count n (fun j c s => t = s ∧ c = nI j ∧ ∀ i, i < j → o i ≠ p) ?_ ?_ (Nat.zero_le _) ⟨rfl, rfl, fun i hi => by omega⟩
    · rintro j c s hj ⟨rfl, rfl, hI⟩
      unfold SX5_placeOf_2
      have o9 := hP.1 j hj
      refine Ok.rdE h (Ok.ifF (by rw [nI_leP (by omega) (by omega)]; omega) (Ok.ckT (inb_n (by omega) (by omega)) ?_))
      rw [nI_cl (by omega)]
      refine Ok.rdE (ho j hj) (Ok.cv (nI_eqP (by omega) (by omega)) (Ok.ite (fun c => Ok.ret ⟨rfl, ?_⟩) (fun c => Ok.ret ⟨rfl, nI_1 j, fun i hi => ?_⟩)))
      · rw [(p3 j hj).mp c]
      · by_cases e : i = j
        · rw [e]; exact c
        · exact hI i (by omega)
    · rintro c s ⟨rfl, rfl, hI⟩
      exact absurd p2 (hI _ p1)
  · rintro _ _ ⟨rfl, rfl⟩
    exact Ok.ret ⟨rfl, rfl⟩
theorem q_placeOfM {s n p : Nat} {o : Nat → Nat} {t : St} (hs : s < 3) (hn : n < 10) (ho : RO s n o t) (hP : PFX n n o) (hp : p < n) : FX12_placeOf (nI s) (nI p) t = some (nI (plc n o p), t) := by
  obtain ⟨p1, p2, p3⟩ := plc_in hn hP hp
  refine Ok.eq ?_
  unfold FX12_placeOf
  refine Ok.bd (fun r u => t = u ∧ r = nI (plc n o p)) ?_ (fun _ _ hu => Ok.ret hu)
  refine Ok.count n (fun j c s' => t = s' ∧ c = nI j ∧ ∀ i, i < j → o i ≠ p) ?_ ?_ (Nat.zero_le _) ⟨rfl, rfl, fun i hi => by omega⟩
  · rintro j c s' hj ⟨rfl, rfl, hI⟩
    unfold SX12_placeOf_2
    have o9 := hP.1 j hj
    refine Ok.bq (q_at ho hs hn hj) (Ok.cv (nI_eqP (by omega) (by omega)) (Ok.ite (fun c => Ok.ret ⟨rfl, ?_⟩) (fun c => Ok.ret ⟨rfl, nI_1 j, fun i hi => ?_⟩)))
    · rw [(p3 j hj).mp c]
    · by_cases e : i = j
      · rw [e]; exact c
      · exact hI i (by omega)
  · rintro c s' ⟨rfl, rfl, hI⟩
    exact absurd p2 (hI _ p1)
theorem z3_near {σ : St} (hI : INV3 σ) (a b : Int32) : BOTH (FX11_near a b σ) (fun u => FX12_near a b u) := by
  rcases r3 (a := a) with ⟨s, hs, rfl⟩ | ha
  · obtain ⟨v, h⟩ := hI.sl hs
    have hn : v.1 < 10 := h.1.1.1
    have hw := h.1.1.2.1
    have h0 := h.2.1.1.1
    have hr := h.2.2.1
    have gx := n_sl hs
    by_cases hb : IsR v.1 b
    · obtain ⟨i, hi, rfl⟩ := hb
      refine BOTH.no (v := nI (nr v.2.2.1 i)) hI ?_ ?_
      · unfold FX11_near
        refine Ok.eq (netI hs hn h0 (fun q => absurd hi (by omega)) (fun h1 g => Ok.bq (g_has g hn h0 hi) (Ok.ifF (by decide) ?_)))
        refine Ok.ckT (inb_n (by omega) (by omega)) ?_
        rw [nI_cl (by omega)]
        exact Ok.rdE (h.2.1.1.2.2.1 i (by omega)) (Ok.ret ⟨rfl, rfl⟩)
      · refine Ok.eq ?_
        unfold FX12_near
        exact Ok.bq (g_isPt hs hn hr hi) (Ok.ifF (by decide) (Ok.bq (q_nearOf hr hs hn hw (by omega)) (Ok.ret ⟨rfl, rfl⟩)))
    · refine BOTH.no (v := -2) hI ?_ ?_
      · unfold FX11_near
        exact Ok.eq (netI hs hn h0 (fun _ => ⟨rfl, rfl⟩) (fun h1 g => Ok.bq (g_has0 g hn h0 hb) (Ok.ifT rfl (Ok.ret ⟨rfl, rfl⟩))))
      · refine Ok.eq ?_
        unfold FX12_near
        exact Ok.bq (g_isPt0 hs hn hr hb) (Ok.ifT rfl (Ok.ret ⟨rfl, rfl⟩))
  · refine BOTH.no (v := -2) hI ?_ ?_
    · unfold FX11_near
      exact net0 ha
    · refine Ok.eq ?_
      unfold FX12_near
      exact Ok.bq (g_isPtN ha) (Ok.ifT rfl (Ok.ret ⟨rfl, rfl⟩))
theorem z3_row {σ : St} (hI : INV3 σ) (a b : Int32) : BOTH (FX11_row a b σ) (fun u => FX12_row a b u) := by
  rcases r3 (a := a) with ⟨s, hs, rfl⟩ | ha
  · obtain ⟨v, h⟩ := hI.sl hs
    have hn : v.1 < 10 := h.1.1.1
    have hw := h.1.1.2.1
    have h0 := h.2.1.1.1
    have hr := h.2.2.1
    have gx := n_sl hs
    by_cases hb : IsR v.1 b
    · obtain ⟨i, hi, rfl⟩ := hb
      refine BOTH.no (v := nI (v.2.2.2 i)) hI ?_ ?_
      · unfold FX11_row
        refine Ok.eq (netI hs hn h0 (fun q => absurd hi (by omega)) (fun h1 g => Ok.bq (g_has g hn h0 hi) (Ok.ifF (by decide) ?_)))
        refine Ok.ckT (inb_n (by omega) (by omega)) ?_
        rw [nI_cl (by omega)]
        exact Ok.rdE (h.2.1.2 i hi) (Ok.ret ⟨rfl, rfl⟩)
      · refine Ok.eq ?_
        unfold FX12_row
        exact Ok.bq (g_isPt hs hn hr hi) (Ok.ifF (by decide) (Ok.bq (q_at h.2.2.2 hs hn hi) (Ok.ret ⟨rfl, rfl⟩)))
    · refine BOTH.no (v := -2) hI ?_ ?_
      · unfold FX11_row
        exact Ok.eq (netI hs hn h0 (fun _ => ⟨rfl, rfl⟩) (fun h1 g => Ok.bq (g_has0 g hn h0 hb) (Ok.ifT rfl (Ok.ret ⟨rfl, rfl⟩))))
      · refine Ok.eq ?_
        unfold FX12_row
        exact Ok.bq (g_isPt0 hs hn hr hb) (Ok.ifT rfl (Ok.ret ⟨rfl, rfl⟩))
  · refine BOTH.no (v := -2) hI ?_ ?_
    · unfold FX11_row
      exact net0 ha
    · refine Ok.eq ?_
      unfold FX12_row
      exact Ok.bq (g_isPtN ha) (Ok.ifT rfl (Ok.ret ⟨rfl, rfl⟩))
theorem z3_place {σ : St} (hI : INV3 σ) (a b : Int32) : BOTH (FX11_place a b σ) (fun u => FX12_place a b u) := by
  rcases r3 (a := a) with ⟨s, hs, rfl⟩ | ha
  · obtain ⟨v, h⟩ := hI.sl hs
    have hn : v.1 < 10 := h.1.1.1
    have hw := h.1.1.2.1
    have h0 := h.2.1.1.1
    have hr := h.2.2.1
    have gx := n_sl hs
    by_cases hb : IsR v.1 b
    · obtain ⟨i, hi, rfl⟩ := hb
      refine BOTH.no (v := nI (plc v.1 v.2.2.2 i)) hI ?_ ?_
      · unfold FX11_place
        refine Ok.eq (netI hs hn h0 (fun q => absurd hi (by omega)) (fun h1 g => Ok.bq (g_has g hn h0 hi) (Ok.ifF (by decide) ?_)))
        exact Ok.bq (q_placeOf gx hn h0 h.2.1.2 h.1.2.2.1 hi) (Ok.ret ⟨rfl, rfl⟩)
      · refine Ok.eq ?_
        unfold FX12_place
        exact Ok.bq (g_isPt hs hn hr hi) (Ok.ifF (by decide) (Ok.bq (q_placeOfM hs hn h.2.2.2 h.1.2.2.1 hi) (Ok.ret ⟨rfl, rfl⟩)))
    · refine BOTH.no (v := -2) hI ?_ ?_
      · unfold FX11_place
        exact Ok.eq (netI hs hn h0 (fun _ => ⟨rfl, rfl⟩) (fun h1 g => Ok.bq (g_has0 g hn h0 hb) (Ok.ifT rfl (Ok.ret ⟨rfl, rfl⟩))))
      · refine Ok.eq ?_
        unfold FX12_place
        exact Ok.bq (g_isPt0 hs hn hr hb) (Ok.ifT rfl (Ok.ret ⟨rfl, rfl⟩))
  · refine BOTH.no (v := -2) hI ?_ ?_
    · unfold FX11_place
      exact net0 ha
    · refine Ok.eq ?_
      unfold FX12_place
      exact Ok.bq (g_isPtN ha) (Ok.ifT rfl (Ok.ret ⟨rfl, rfl⟩))
theorem z3_line {σ : St} (hI : INV3 σ) (a b c : Int32) : BOTH (FX11_line a b c σ) (fun u => FX12_line a b c u) := by
  rcases r3 (a := a) with ⟨s, hs, rfl⟩ | ha
  · obtain ⟨v, h⟩ := hI.sl hs
    have hn : v.1 < 10 := h.1.1.1
    have hw := h.1.1.2.1
    have h0 := h.2.1.1.1
    have hr := h.2.2.1
    have gx := n_sl hs
    by_cases hb : IsR v.1 b
    · obtain ⟨i, hi, rfl⟩ := hb
      by_cases hc : IsR v.1 c
      · obtain ⟨j, hj, rfl⟩ := hc
        refine BOTH.no (v := nI (v.2.2.1 i j)) hI ?_ ?_
        · unfold FX11_line
          exact Ok.eq (netI hs hn h0 (fun q => absurd hi (by omega)) (fun h1 g => Ok.bq (g_has g hn h0 hi) (Ok.ifF (by decide) (Ok.bq (g_has g hn h0 hj) (Ok.ifF (by decide) (Ok.bq (q_weightOf h.2.1.1 gx (by omega) (by omega)) (Ok.ret ⟨rfl, rfl⟩)))))))
        · refine Ok.eq ?_
          unfold FX12_line
          exact Ok.bq (g_isPt hs hn hr hi) (Ok.ifF (by decide) (Ok.bq (g_isPt hs hn hr hj) (Ok.ifF (by decide) (Ok.bq (q_weight hr hs (by omega) (by omega)) (Ok.ret ⟨rfl, rfl⟩)))))
      · refine BOTH.no (v := -2) hI ?_ ?_
        · unfold FX11_line
          exact Ok.eq (netI hs hn h0 (fun _ => ⟨rfl, rfl⟩) (fun h1 g => Ok.bq (g_has g hn h0 hi) (Ok.ifF (by decide) (Ok.bq (g_has0 g hn h0 hc) (Ok.ifT rfl (Ok.ret ⟨rfl, rfl⟩))))))
        · refine Ok.eq ?_
          unfold FX12_line
          exact Ok.bq (g_isPt hs hn hr hi) (Ok.ifF (by decide) (Ok.bq (g_isPt0 hs hn hr hc) (Ok.ifT rfl (Ok.ret ⟨rfl, rfl⟩))))
    · refine BOTH.no (v := -2) hI ?_ ?_
      · unfold FX11_line
        exact Ok.eq (netI hs hn h0 (fun _ => ⟨rfl, rfl⟩) (fun h1 g => Ok.bq (g_has0 g hn h0 hb) (Ok.ifT rfl (Ok.ret ⟨rfl, rfl⟩))))
      · refine Ok.eq ?_
        unfold FX12_line
        exact Ok.bq (g_isPt0 hs hn hr hb) (Ok.ifT rfl (Ok.ret ⟨rfl, rfl⟩))
  · refine BOTH.no (v := -2) hI ?_ ?_
    · unfold FX11_line
      exact net0 ha
    · refine Ok.eq ?_
      unfold FX12_line
      exact Ok.bq (g_isPtN ha) (Ok.ifT rfl (Ok.ret ⟨rfl, rfl⟩))
theorem z3_far {σ : St} (hI : INV3 σ) (a b c : Int32) : BOTH (FX11_far a b c σ) (fun u => FX12_far a b c u) := by
  rcases r3 (a := a) with ⟨s, hs, rfl⟩ | ha
  · obtain ⟨v, h⟩ := hI.sl hs
    have hn : v.1 < 10 := h.1.1.1
    have hw := h.1.1.2.1
    have h0 := h.2.1.1.1
    have hr := h.2.2.1
    have gx := n_sl hs
    by_cases hb : IsR v.1 b
    · obtain ⟨i, hi, rfl⟩ := hb
      by_cases hc : IsR v.1 c
      · obtain ⟨j, hj, rfl⟩ := hc
        refine BOTH.no (v := dI (dst v.1 v.2.2.1 i j)) hI ?_ ?_
        · unfold FX11_far
          exact Ok.eq (netI hs hn h0 (fun q => absurd hi (by omega)) (fun h1 g => Ok.bq (g_has g hn h0 hi) (Ok.ifF (by decide) (Ok.bq (g_has g hn h0 hj) (Ok.ifF (by decide) (Ok.bq (q_distance h.2.1.1 gx hw hn hi hj) (Ok.ret ⟨rfl, rfl⟩)))))))
        · refine Ok.eq ?_
          unfold FX12_far
          exact Ok.bq (g_isPt hs hn hr hi) (Ok.ifF (by decide) (Ok.bq (g_isPt hs hn hr hj) (Ok.ifF (by decide) (Ok.bq (q_farOf hr hs hw hn hi hj) (Ok.ret ⟨rfl, rfl⟩)))))
      · refine BOTH.no (v := -2) hI ?_ ?_
        · unfold FX11_far
          exact Ok.eq (netI hs hn h0 (fun _ => ⟨rfl, rfl⟩) (fun h1 g => Ok.bq (g_has g hn h0 hi) (Ok.ifF (by decide) (Ok.bq (g_has0 g hn h0 hc) (Ok.ifT rfl (Ok.ret ⟨rfl, rfl⟩))))))
        · refine Ok.eq ?_
          unfold FX12_far
          exact Ok.bq (g_isPt hs hn hr hi) (Ok.ifF (by decide) (Ok.bq (g_isPt0 hs hn hr hc) (Ok.ifT rfl (Ok.ret ⟨rfl, rfl⟩))))
    · refine BOTH.no (v := -2) hI ?_ ?_
      · unfold FX11_far
        exact Ok.eq (netI hs hn h0 (fun _ => ⟨rfl, rfl⟩) (fun h1 g => Ok.bq (g_has0 g hn h0 hb) (Ok.ifT rfl (Ok.ret ⟨rfl, rfl⟩))))
      · refine Ok.eq ?_
        unfold FX12_far
        exact Ok.bq (g_isPt0 hs hn hr hb) (Ok.ifT rfl (Ok.ret ⟨rfl, rfl⟩))
  · refine BOTH.no (v := -2) hI ?_ ?_
    · unfold FX11_far
      exact net0 ha
    · refine Ok.eq ?_
      unfold FX12_far
      exact Ok.bq (g_isPtN ha) (Ok.ifT rfl (Ok.ret ⟨rfl, rfl⟩))
theorem z3_value {σ : St} (hI : INV3 σ) (a b : Int32) : BOTH (FX11_value a b σ) (fun u => FX12_value a b u) := by
  rcases r3 (a := a) with ⟨s, hs, rfl⟩ | ha
  · obtain ⟨v, h⟩ := hI.sl hs
    have hn : v.1 < 10 := h.1.1.1
    have hw := h.1.1.2.1
    have h0 := h.2.1.1.1
    have hr := h.2.2.1
    have gx := n_sl hs
    by_cases h1 : 1 ≤ v.1
    · by_cases hb : IsR 7 b
      · obtain ⟨q, hq, rfl⟩ := hb
        refine rdA (zw_value hI _ _) (fo_FX11_value (P := P3) _ _) (nI (val v.1 v.2.2.1 q v.2.2.2)) ?_ (fun u hu => ?_)
        · unfold FX11_value
          exact (netI hs hn h0 (fun q => absurd h1 (by omega)) (fun _ g => Ok.bq (g_ms hq) (Ok.ifF (by decide) (Ok.bq (q_measured h.2.1.1 gx hw hn h.2.1.2 (fun i _ => h.1.o9 i) hq) (Ok.ret (by rfl)))))).pc
        · have k := h.fr hs hu
          unfold FX12_value
          refine Pc.bq (g_isN1 hs hn k.2.2.1 h1) (Pc.ifF (by decide) (Pc.bq (g_msM hq) (Pc.ifF (by decide) (Pc.bd _ (m_laysRow hs hn k.2.2.1 k.2.2.2).pc ?_))))
          rintro _ t1 ⟨f1, o1⟩
          exact Pc.bq (q_valueOf (k.2.2.1.fr (f1 150 (by decide))) hs hw hn o1 (fun i _ => h.1.o9 i) hq) (Pc.ret (by rfl))
      · refine BOTH.no (v := -2) hI ?_ ?_
        · unfold FX11_value
          exact Ok.eq (netI hs hn h0 (fun _ => ⟨rfl, rfl⟩) (fun h1 g => Ok.bq (g_ms0 hb) (Ok.ifT rfl (Ok.ret ⟨rfl, rfl⟩))))
        · refine Ok.eq ?_
          unfold FX12_value
          exact Ok.bq (g_isN1 hs hn hr h1) (Ok.ifF (by decide) (Ok.bq (g_msM0 hb) (Ok.ifT rfl (Ok.ret ⟨rfl, rfl⟩))))
    · refine BOTH.no (v := -2) hI ?_ ?_
      · unfold FX11_value
        exact Ok.eq (netI hs hn h0 (fun _ => ⟨rfl, rfl⟩) (fun h g => absurd h h1))
      · refine Ok.eq ?_
        unfold FX12_value
        exact Ok.bq (g_isN0 hs hn hr (by omega)) (Ok.ifT rfl (Ok.ret ⟨rfl, rfl⟩))
  · refine BOTH.no (v := -2) hI ?_ ?_
    · unfold FX11_value
      exact net0 ha
    · refine Ok.eq ?_
      unfold FX12_value
      exact Ok.bq (g_isNet0 ha) (Ok.ifT rfl (Ok.ret ⟨rfl, rfl⟩))
theorem z3_polished {σ : St} (hI : INV3 σ) (a b : Int32) : BOTH (FX11_polished a b σ) (fun u => FX12_polished a b u) := by
  rcases r3 (a := a) with ⟨s, hs, rfl⟩ | ha
  · obtain ⟨v, h⟩ := hI.sl hs
    have hn : v.1 < 10 := h.1.1.1
    have hw := h.1.1.2.1
    have h0 := h.2.1.1.1
    have hr := h.2.2.1
    have gx := n_sl hs
    by_cases h1 : 1 ≤ v.1
    · by_cases hb : IsR 7 b
      · obtain ⟨q, hq, rfl⟩ := hb
        obtain ⟨r, u, e1, r2, w, e2, hw3⟩ := zw_polished hI (nI s) (nI q)
        refine ⟨r, u, e1, r2, w, e2, hw3, ?_⟩
        have hu := (fo_FX11_polished (P := P3) _ _ (fun c i h => by unfold P3 at h; omega)) r u e1
        have k := h.fr hs hu
        have c1 : Pc (FX11_polished (nI s) (nI q) σ) (fun r _ => ∃ kk vv, r = nI (val v.1 v.2.2.1 q vv) ∧ PLR v.1 v.2.2.1 q kk v.2.2.2 vv) := by
          unfold FX11_polished
          refine (netI hs hn h0 (fun q => absurd h1 (by omega)) (fun _ g => Ok.bq (g_ms hq) (Ok.ifF (by decide) (Ok.bd _ (e_copyFrom n_145 gx (by omega)) ?_)))).pc
          rintro _ t1 ⟨f1, a0, a1, a2, a4, a3⟩
          have x1 : CS 145 v t1 := h.2.1.cp hn a0 a1 a2 a4 a3
          refine Ok.bd _ (e_polishRow x1.1 n_145 hw hn hq h.1.go x1.2) ?_
          rintro _ t2 ⟨kk, vv, rfl, p1, p2, p3, f2⟩
          exact Ok.bq (q_measured (x1.1.fr (f2 _ (by decide)) (f2 _ (by decide)) (f2 _ (by decide))) n_145 hw hn p3 (fun i _ => p2.lt hn i) hq) (Ok.ret ⟨kk, vv, rfl, p1⟩)
        have c2 : Pc (FX12_polished (nI s) (nI q) u) (fun r _ => ∃ kk vv, r = nI (val v.1 v.2.2.1 q vv) ∧ PLR v.1 v.2.2.1 q kk v.2.2.2 vv) := by
          unfold FX12_polished
          refine Pc.bq (g_isN1 hs hn k.2.2.1 h1) (Pc.ifF (by decide) (Pc.bq (g_msM hq) (Pc.ifF (by decide) (Pc.bd _ (m_polishes k.2.2.1 hs hw hn hq h.1.go k.2.2.2) ?_))))
          rintro _ t2 ⟨kk, vv, rfl, p1, p2, p3, f2⟩
          exact Pc.bq (q_valueOf (k.2.2.1.fr (f2 150 (by decide))) hs hw hn p3 (fun i _ => p2.lt hn i) hq) (Pc.ret ⟨kk, vv, rfl, p1⟩)
        obtain ⟨k1, v1, rfl, p1⟩ := c1 r u e1
        obtain ⟨k2, v2, rfl, p2⟩ := c2 r2 w e2
        rw [(p1.uq p2).2]
      · refine BOTH.no (v := -2) hI ?_ ?_
        · unfold FX11_polished
          exact Ok.eq (netI hs hn h0 (fun _ => ⟨rfl, rfl⟩) (fun h1 g => Ok.bq (g_ms0 hb) (Ok.ifT rfl (Ok.ret ⟨rfl, rfl⟩))))
        · refine Ok.eq ?_
          unfold FX12_polished
          exact Ok.bq (g_isN1 hs hn hr h1) (Ok.ifF (by decide) (Ok.bq (g_msM0 hb) (Ok.ifT rfl (Ok.ret ⟨rfl, rfl⟩))))
    · refine BOTH.no (v := -2) hI ?_ ?_
      · unfold FX11_polished
        exact Ok.eq (netI hs hn h0 (fun _ => ⟨rfl, rfl⟩) (fun h g => absurd h h1))
      · refine Ok.eq ?_
        unfold FX12_polished
        exact Ok.bq (g_isN0 hs hn hr (by omega)) (Ok.ifT rfl (Ok.ret ⟨rfl, rfl⟩))
  · refine BOTH.no (v := -2) hI ?_ ?_
    · unfold FX11_polished
      exact net0 ha
    · refine Ok.eq ?_
      unfold FX12_polished
      exact Ok.bq (g_isNet0 ha) (Ok.ifT rfl (Ok.ret ⟨rfl, rfl⟩))
theorem z3_gain {σ : St} (hI : INV3 σ) (a b c d : Int32) : BOTH (FX11_gain a b c d σ) (fun u => FX12_gain a b c d u) := by
  rcases r3 (a := a) with ⟨s, hs, rfl⟩ | ha
  · obtain ⟨v, h⟩ := hI.sl hs
    have hn : v.1 < 10 := h.1.1.1
    have hw := h.1.1.2.1
    have h0 := h.2.1.1.1
    have hr := h.2.2.1
    have gx := n_sl hs
    by_cases hc : IsR v.1 c
    · obtain ⟨i, hi, rfl⟩ := hc
      have h1 : 1 ≤ v.1 := by omega
      by_cases hd : IsR v.1 d
      · obtain ⟨j, hj, rfl⟩ := hd
        by_cases hb : IsR 7 b
        · obtain ⟨q, hq, rfl⟩ := hb
          have go : GO v.1 (swp v.2.2.2 i j) := h.1.go.swp hi hj
          refine rdA (zw_gain hI _ _ _ _) (fo_FX11_gain (P := P3) _ _ _ _ (fun c i h => by unfold P3 at h; omega)) (nI (val v.1 v.2.2.1 q (swp v.2.2.2 i j)) - nI (val v.1 v.2.2.1 q v.2.2.2)) ?_ (fun u hu => ?_)
          · unfold FX11_gain
            refine (netI hs hn h0 (fun q => absurd h1 (by omega)) (fun _ g => Ok.bq (g_ms hq) (Ok.ifF (by decide) (Ok.bq (g_has g hn h0 hi) (Ok.ifF (by decide) (Ok.bq (g_has g hn h0 hj) (Ok.ifF (by decide) (Ok.bd _ (e_copyFrom n_145 gx (by omega)) ?_)))))))).pc
            rintro _ t1 ⟨f1, a0, a1, a2, a4, a3⟩
            have x1 : CS 145 v t1 := h.2.1.cp hn a0 a1 a2 a4 a3
            refine Ok.bd _ (e_changeOver n_145 hn x1.2 hi hj) ?_
            rintro _ t2 ⟨f2, o2⟩
            have y : CS (12 + 24 * s) v t2 := h.2.1.fr4 (fun c c1 c2 => by rw [f2 c (by omega), f1 c (by omega)])
            exact Ok.bq (q_measured (x1.1.fr (f2 _ (by decide)) (f2 _ (by decide)) (f2 _ (by decide))) n_145 hw hn o2 (fun i _ => go.lt hn i) hq) (Ok.bq (q_measured y.1 gx hw hn y.2 (fun i _ => h.1.o9 i) hq) (Ok.ret (by rfl)))
          · have k := h.fr hs hu
            unfold FX12_gain
            refine Pc.bq (g_isPt hs hn k.2.2.1 hi) (Pc.ifF (by decide) (Pc.bq (g_isPt hs hn k.2.2.1 hj) (Pc.ifF (by decide) (Pc.bq (g_msM hq) (Pc.ifF (by decide) (Pc.bd _ (m_laysRow hs hn k.2.2.1 k.2.2.2).pc ?_))))))
            rintro _ t1 ⟨f1, o1⟩
            have k1 := k.2.2.1.fr (f1 150 (by decide))
            refine Pc.bq (q_valueOf k1 hs hw hn o1 (fun i _ => h.1.o9 i) hq) (Pc.bd _ (m_exch hn o1 hi hj).pc ?_)
            rintro _ t2 ⟨f2, o2⟩
            exact Pc.bq (q_valueOf (k1.fr (f2 150 (by decide))) hs hw hn o2 (fun i _ => go.lt hn i) hq) (Pc.ret (by rfl))
        · refine BOTH.no (v := -1000) hI ?_ ?_
          · unfold FX11_gain
            exact Ok.eq (netI hs hn h0 (fun _ => ⟨rfl, rfl⟩) (fun h1 g => Ok.bq (g_ms0 hb) (Ok.ifT rfl (Ok.ret ⟨rfl, rfl⟩))))
          · refine Ok.eq ?_
            unfold FX12_gain
            exact Ok.bq (g_isPt hs hn hr hi) (Ok.ifF (by decide) (Ok.bq (g_isPt hs hn hr hj) (Ok.ifF (by decide) (Ok.bq (g_msM0 hb) (Ok.ifT rfl (Ok.ret ⟨rfl, rfl⟩))))))
      · refine BOTH.no (v := -1000) hI ?_ ?_
        · unfold FX11_gain
          refine Ok.eq (netI hs hn h0 (fun _ => ⟨rfl, rfl⟩) (fun h1 g => ?_))
          by_cases hb : IsR 7 b
          · obtain ⟨q, hq, rfl⟩ := hb
            exact Ok.bq (g_ms hq) (Ok.ifF (by decide) (Ok.bq (g_has g hn h0 hi) (Ok.ifF (by decide) (Ok.bq (g_has0 g hn h0 hd) (Ok.ifT rfl (Ok.ret ⟨rfl, rfl⟩))))))
          · exact Ok.bq (g_ms0 hb) (Ok.ifT rfl (Ok.ret ⟨rfl, rfl⟩))
        · refine Ok.eq ?_
          unfold FX12_gain
          exact Ok.bq (g_isPt hs hn hr hi) (Ok.ifF (by decide) (Ok.bq (g_isPt0 hs hn hr hd) (Ok.ifT rfl (Ok.ret ⟨rfl, rfl⟩))))
    · refine BOTH.no (v := -1000) hI ?_ ?_
      · unfold FX11_gain
        refine Ok.eq (netI hs hn h0 (fun _ => ⟨rfl, rfl⟩) (fun h1 g => ?_))
        by_cases hb : IsR 7 b
        · obtain ⟨q, hq, rfl⟩ := hb
          exact Ok.bq (g_ms hq) (Ok.ifF (by decide) (Ok.bq (g_has0 g hn h0 hc) (Ok.ifT rfl (Ok.ret ⟨rfl, rfl⟩))))
        · exact Ok.bq (g_ms0 hb) (Ok.ifT rfl (Ok.ret ⟨rfl, rfl⟩))
      · refine Ok.eq ?_
        unfold FX12_gain
        exact Ok.bq (g_isPt0 hs hn hr hc) (Ok.ifT rfl (Ok.ret ⟨rfl, rfl⟩))
  · refine BOTH.no (v := -1000) hI ?_ ?_
    · unfold FX11_gain
      exact net0 ha
    · refine Ok.eq ?_
      unfold FX12_gain
      exact Ok.bq (g_isPtN ha) (Ok.ifT rfl (Ok.ret ⟨rfl, rfl⟩))
def fst1 (q : Nat) : Nat := if q = 5 ∨ q = 6 then 0 else 1
theorem q_firstStep {q : Nat} {t : St} (hq : q < 7) : FX6_firstStep (nI q) t = some (nI (fst1 q), t) := by
  refine Ok.eq ?_
  unfold FX6_firstStep fst1
  refine Ok.bq (q_taken hq) ?_
  by_cases c : q = 5 ∨ q = 6
  · rw [if_pos c, if_pos c]
    exact Ok.ifF (by decide) (Ok.ret ⟨rfl, rfl⟩)
  · rw [if_neg c, if_neg c]
    exact Ok.ifT rfl (Ok.ret ⟨rfl, rfl⟩)
theorem q_in11 {n i : Nat} {t : St} (hn : n < 10) (hi : i < n) (h1 : 1 ≤ i) : FX12_in (nI i).toInt64 (1 : Int64) (nI n - 1).toInt64 t = some (1, t) := by
  refine Ok.eq (e_in (fun _ _ => ⟨rfl, rfl⟩) (fun q => absurd ?_ q))
  rw [n64 (by omega), show (1 : Int64).toInt = 1 by decide, inn (by omega) hn]
  omega
theorem q_in10 {n : Nat} {c : Int32} {t : St} (hn : n < 10) (h1 : 1 ≤ n) (h : ¬ ∃ i, 1 ≤ i ∧ i < n ∧ c = nI i) : FX12_in c.toInt64 (1 : Int64) (nI n - 1).toInt64 t = some (0, t) := by
  refine Ok.eq (e_in (fun g1 g2 => absurd ?_ h) (fun _ => ⟨rfl, rfl⟩))
  rw [inn h1 hn] at g2
  rw [show (1 : Int64).toInt = 1 by decide] at g1
  obtain ⟨i, hi, rfl⟩ := in_R (a := c) (b := 0) (c := (nI n - 1).toInt64) (m := n) ⟨by rw [in0]; omega, by rw [inn h1 hn]; exact g2⟩ (by rw [in0]; omega) (by rw [inn h1 hn]; omega)
  rw [n64 (by omega)] at g1
  exact ⟨i, by omega, hi, rfl⟩
theorem z3_price {σ : St} (hI : INV3 σ) (a b c : Int32) : BOTH (FX11_price a b c σ) (fun u => FX12_price a b c u) := by
  rcases r3 (a := a) with ⟨s, hs, rfl⟩ | ha
  · obtain ⟨v, h⟩ := hI.sl hs
    have hn : v.1 < 10 := h.1.1.1
    have hw := h.1.1.2.1
    have h0 := h.2.1.1.1
    have hr := h.2.2.1
    have gx := n_sl hs
    by_cases h1 : 1 ≤ v.1
    · by_cases hb : IsR 7 b
      · obtain ⟨q, hq, rfl⟩ := hb
        by_cases q2 : q = 2
        · subst q2
          refine BOTH.no (v := -2) hI ?_ ?_
          · unfold FX11_price
            exact Ok.eq (netI hs hn h0 (fun _ => ⟨rfl, rfl⟩) (fun h1 g => Ok.bq (g_pr hq) (Ok.ifT rfl (Ok.ret ⟨rfl, rfl⟩))))
          · refine Ok.eq ?_
            unfold FX12_price
            exact Ok.bq (g_isN1 hs hn hr h1) (Ok.ifF (by decide) (Ok.bq (g_msM hq) (Ok.ifF (by decide) (Ok.ifT rfl (Ok.ret ⟨rfl, rfl⟩)))))
        · have cc : ∀ Q : Int32 → St → Prop, (¬ IsR v.1 c → Q (-2) σ) → (∀ i, i < v.1 → c = nI i → ¬ fst1 q ≤ i → Q (-2) σ) → (∀ i, i < v.1 → c = nI i → fst1 q ≤ i → Q (nI (pri v.1 v.2.2.1 q v.2.2.2 i)) σ) → Ok (FX11_price (nI s) (nI q) c σ) Q := fun Q k0 k1 k2 => by
            unfold FX11_price
            refine netI hs hn h0 (fun q => absurd h1 (by omega)) (fun _ g => Ok.bq (g_pr hq) ?_)
            rw [if_neg q2]
            refine Ok.ifF (by decide) ?_
            by_cases hc : IsR v.1 c
            · obtain ⟨i, hi, rfl⟩ := hc
              refine Ok.bq (g_has g hn h0 hi) (Ok.ifF (by decide) (Ok.bq (q_firstStep hq) (Ok.cv (nI_leP (by unfold fst1; split <;> omega) (by omega)) (Ok.ite (fun c => ?_) (fun c => Ok.ret (k1 i hi rfl c))))))
              exact Ok.bq (q_atPlace h.2.1.1 gx hw hn h.2.1.2 (fun i _ => h.1.o9 i) hq hi) (Ok.ret (k2 i hi rfl c))
            · exact Ok.bq (g_has0 g hn h0 hc) (Ok.ifT rfl (Ok.ret (k0 hc)))
          have mm : ∀ Q : Int32 → St → Prop, (¬ IsR v.1 c → Q (-2) σ) → (∀ i, i < v.1 → c = nI i → ¬ fst1 q ≤ i → Q (-2) σ) → (∀ i, i < v.1 → c = nI i → fst1 q ≤ i → Q (nI (pri v.1 v.2.2.1 q v.2.2.2 i)) σ) → Ok (FX12_price (nI s) (nI q) c σ) Q := fun Q k0 k1 k2 => by
            unfold FX12_price
            refine Ok.bq (g_isN1 hs hn hr h1) (Ok.ifF (by decide) (Ok.bq (g_msM hq) (Ok.ifF (by decide) (Ok.ifF (by rw [li_2, nI_lit hq (by omega)]; exact q2) (Ok.bq (q_takenM hq) ?_)))))
            by_cases tk : q = 5 ∨ q = 6
            · have f0 : fst1 q = 0 := if_pos tk
              rw [if_pos tk]
              refine Ok.ifF (by decide) (Ok.bq (q_points hr hs) ?_)
              by_cases hc : IsR v.1 c
              · obtain ⟨i, hi, rfl⟩ := hc
                exact Ok.bq (q_in1 h1 (by omega) (inn h1 hn) ⟨i, hi, rfl⟩) (Ok.ifF (by decide) (Ok.bq (q_priceOf hr hs hw hn h.2.2.2 (fun i _ => h.1.o9 i) hq hi (Or.inl tk)) (Ok.ret (k2 i hi rfl (by omega)))))
              · exact Ok.bq (q_in0 h1 (by omega) (inn h1 hn) hc) (Ok.ifT rfl (Ok.ret (k0 hc)))
            · have f1 : fst1 q = 1 := if_neg tk
              rw [if_neg tk]
              refine Ok.ifT rfl (Ok.bq (q_points hr hs) ?_)
              by_cases hc : IsR v.1 c
              · obtain ⟨i, hi, rfl⟩ := hc
                by_cases i0 : 1 ≤ i
                · exact Ok.bq (q_in11 hn hi i0) (Ok.ifF (by decide) (Ok.bq (q_priceOf hr hs hw hn h.2.2.2 (fun i _ => h.1.o9 i) hq hi (Or.inr i0)) (Ok.ret (k2 i hi rfl (by omega)))))
                · refine Ok.bq (q_in10 hn h1 (fun ⟨j, j1, j2, e⟩ => ?_)) (Ok.ifT rfl (Ok.ret (k1 i hi rfl (by omega))))
                  have := nI_inj e (by omega) (by omega)
                  omega
              · exact Ok.bq (q_in10 hn h1 (fun ⟨j, j1, j2, e⟩ => hc ⟨j, j2, e⟩)) (Ok.ifT rfl (Ok.ret (k0 hc)))
          by_cases hc : IsR v.1 c
          · obtain ⟨i, hi, rfl⟩ := hc
            have u : ∀ j, j < v.1 → nI i = nI j → i = j := fun j hj e => nI_inj e (by omega) (by omega)
            by_cases fi : fst1 q ≤ i
            · refine BOTH.no (v := nI (pri v.1 v.2.2.1 q v.2.2.2 i)) hI (Ok.eq (cc _ (fun k => absurd ⟨i, hi, rfl⟩ k) (fun j hj e k => ?_) (fun j hj e _ => ?_))) (Ok.eq (mm _ (fun k => absurd ⟨i, hi, rfl⟩ k) (fun j hj e k => ?_) (fun j hj e _ => ?_)))
              · rw [u j hj e] at fi; exact absurd fi k
              · rw [u j hj e]; exact ⟨rfl, rfl⟩
              · rw [u j hj e] at fi; exact absurd fi k
              · rw [u j hj e]; exact ⟨rfl, rfl⟩
            · refine BOTH.no (v := -2) hI (Ok.eq (cc _ (fun _ => ⟨rfl, rfl⟩) (fun _ _ _ _ => ⟨rfl, rfl⟩) (fun j hj e k => ?_))) (Ok.eq (mm _ (fun _ => ⟨rfl, rfl⟩) (fun _ _ _ _ => ⟨rfl, rfl⟩) (fun j hj e k => ?_)))
              · rw [u j hj e] at fi; exact absurd k fi
              · rw [u j hj e] at fi; exact absurd k fi
          · exact BOTH.no (v := -2) hI (Ok.eq (cc _ (fun _ => ⟨rfl, rfl⟩) (fun _ _ _ _ => ⟨rfl, rfl⟩) (fun j hj e k => absurd ⟨j, hj, e⟩ hc))) (Ok.eq (mm _ (fun _ => ⟨rfl, rfl⟩) (fun _ _ _ _ => ⟨rfl, rfl⟩) (fun j hj e k => absurd ⟨j, hj, e⟩ hc)))
      · refine BOTH.no (v := -2) hI ?_ ?_
        · unfold FX11_price
          exact Ok.eq (netI hs hn h0 (fun _ => ⟨rfl, rfl⟩) (fun h1 g => Ok.bq (g_pr0 hb) (Ok.ifT rfl (Ok.ret ⟨rfl, rfl⟩))))
        · refine Ok.eq ?_
          unfold FX12_price
          exact Ok.bq (g_isN1 hs hn hr h1) (Ok.ifF (by decide) (Ok.bq (g_msM0 hb) (Ok.ifT rfl (Ok.ret ⟨rfl, rfl⟩))))
    · refine BOTH.no (v := -2) hI ?_ ?_
      · unfold FX11_price
        exact Ok.eq (netI hs hn h0 (fun _ => ⟨rfl, rfl⟩) (fun h g => absurd h h1))
      · refine Ok.eq ?_
        unfold FX12_price
        exact Ok.bq (g_isN0 hs hn hr (by omega)) (Ok.ifT rfl (Ok.ret ⟨rfl, rfl⟩))
  · refine BOTH.no (v := -2) hI ?_ ?_
    · unfold FX11_price
      exact net0 ha
    · refine Ok.eq ?_
      unfold FX12_price
      exact Ok.bq (g_isNet0 ha) (Ok.ifT rfl (Ok.ret ⟨rfl, rfl⟩))
/-- the first place from f on at which g is greatest -/
def wsf (g : Nat → Nat) (f : Nat) : Nat → Nat
  | 0 => f
  | k + 1 => if g (f + 1 + k) ≤ g (wsf g f k) then wsf g f k else f + 1 + k
theorem wsf_in {g : Nat → Nat} {f : Nat} : ∀ {k : Nat}, f ≤ wsf g f k ∧ wsf g f k ≤ f + k
  | 0 => ⟨Nat.le_refl _, Nat.le_refl _⟩
  | k + 1 => by
    have ih := wsf_in (g := g) (f := f) (k := k)
    rw [wsf]
    split <;> omega
theorem q_worstStep {x n l q : Nat} {w : Nat → Nat → Nat} {o : Nat → Nat} {t : St} (h : CN x n l w t) (g : netAt x = true) (hw : WF n w) (hn : n < 10) (ho : CO x n o t) (h9 : ∀ i, i < n → o i < 9) (hq : q < 7) (hf : fst1 q < n) : FX8_worstStep x (nI q) t = some (nI (wsf (pri n w q o) (fst1 q) (n - 1 - fst1 q)), t) := by
  refine Ok.eq ?_
  unfold FX8_worstStep
  have pl : ∀ i, pri n w q o i ≤ 729 := fun i => pri_le hw hn
  refine Ok.ckT g (Ok.bq (q_firstStep hq) ?_)
  generalize fst1 q = f at hf ⊢
  refine Ok.bq (a := nI (wsf (pri n w q o) f (n - 1 - f))) (t := t) (wq0 (n - f) (fun j => match j with | 0 => ((-1 : Int32), (-1 : Int32), nI f) | k + 1 => (nI (wsf (pri n w q o) f k), nI (pri n w q o (wsf (pri n w q o) f k)), nI (f + 1 + k))) rfl (fun j hj => ?_) ?_) (Ok.ret ⟨rfl, rfl⟩)
  · unfold SX8_worstStep_10
    cases j with
    | zero =>
      dsimp only
      have := pl f
      refine Ok.rdE h.1 (Ok.ifF (by rw [nI_leP (by omega) (by omega)]; omega) (Ok.bq (q_atPlace h g hw hn ho h9 hq (i := f) (by omega)) ?_))
      refine Ok.bq (a := (nI f, nI (pri n w q o f))) (t := t) (Ok.eq (Ok.ifF (fun q => ?_) (Ok.ret ⟨rfl, rfl⟩))) (Ok.ret ⟨rfl, by rw [nI_1]; rfl⟩)
      rw [Int32.le_iff_toInt_le, nI_toInt (by omega), show (-1 : Int32).toInt = -1 by decide] at q
      omega
    | succ k =>
      dsimp only
      have w1 := wsf_in (g := pri n w q o) (f := f) (k := k)
      have p1 := pl (f + 1 + k)
      have p2 := pl (wsf (pri n w q o) f k)
      refine Ok.rdE h.1 (Ok.ifF (by rw [nI_leP (by omega) (by omega)]; omega) (Ok.bq (q_atPlace h g hw hn ho h9 hq (i := f + 1 + k) (by omega)) ?_))
      refine Ok.bq (a := (nI (wsf (pri n w q o) f (k + 1)), nI (pri n w q o (wsf (pri n w q o) f (k + 1))))) (t := t) (Ok.eq ?_) (Ok.ret ⟨rfl, by rw [nI_1]; rfl⟩)
      rw [wsf]
      refine Ok.cv (nI_leP (by omega) (by omega)) (Ok.ite (fun c => Ok.ret ⟨rfl, by rw [if_pos c]⟩) (fun c => Ok.ret ⟨rfl, by rw [if_neg c]⟩))
  · unfold SX8_worstStep_10
    obtain ⟨k, hk⟩ : ∃ k, n - f = k + 1 := ⟨n - f - 1, by omega⟩
    rw [hk]
    dsimp only
    refine Ok.rdE h.1 (Ok.ifT (by rw [nI_leP (by omega) (by omega)]; omega) (Ok.ret ⟨rfl, ?_⟩))
    rw [show n - 1 - f = k by omega]
theorem q_worstM {s n q : Nat} {w : Nat → Nat → Nat} {o : Nat → Nat} {t : St} (h : RN s n w t) (hs : s < 3) (hw : WF n w) (hn : n < 10) (ho : RO s n o t) (h9 : ∀ i, i < n → o i < 9) (hq : q < 7) (hf : fst1 q < n) : wh (SX12_worst_57 (nI s) (nI q)) (nI (fst1 q), nI (fst1 q) + 1) t = some (nI (wsf (pri n w q o) (fst1 q) (n - 1 - fst1 q)), t) := by
  have pl : ∀ i, pri n w q o i ≤ 729 := fun i => pri_le hw hn
  have tk : (q = 5 ∨ q = 6) ∨ 1 ≤ fst1 q := by
    unfold fst1
    by_cases c : q = 5 ∨ q = 6
    · exact Or.inl c
    · rw [if_neg c]; exact Or.inr (Nat.le_refl _)
  generalize fst1 q = f at hf tk ⊢
  refine wq0 (n - 1 - f) (fun k => (nI (wsf (pri n w q o) f k), nI (f + 1 + k))) (by rw [nI_1]; rfl) (fun k hk => ?_) ?_
  · unfold SX12_worst_57
    dsimp only
    have w1 := wsf_in (g := pri n w q o) (f := f) (k := k)
    have p1 := pl (f + 1 + k)
    have p2 := pl (wsf (pri n w q o) f k)
    refine Ok.bq (q_points h hs) (Ok.ifF (by rw [nI_leP (by omega) (by omega)]; omega) (Ok.bq (q_priceOf h hs hw hn ho h9 hq (i := f + 1 + k) (by omega) (Or.inr (by omega))) (Ok.bq (q_priceOf h hs hw hn ho h9 hq (i := wsf (pri n w q o) f k) (by omega) (by omega)) ?_)))
    refine Ok.bq (a := nI (wsf (pri n w q o) f (k + 1))) (t := t) (Ok.eq ?_) (Ok.ret ⟨rfl, by rw [nI_1]; rfl⟩)
    rw [wsf]
    refine Ok.cv (nI_leP (by omega) (by omega)) (Ok.ite (fun c => Ok.ret ⟨rfl, by rw [if_pos c]⟩) (fun c => Ok.ret ⟨rfl, by rw [if_neg c]⟩))
  · unfold SX12_worst_57
    dsimp only
    exact Ok.bq (q_points h hs) (Ok.ifT (by rw [nI_leP (by omega) (by omega)]; omega) (Ok.ret ⟨rfl, rfl⟩))
theorem z3_worst {σ : St} (hI : INV3 σ) (a b : Int32) : BOTH (FX11_worst a b σ) (fun u => FX12_worst a b u) := by
  rcases r3 (a := a) with ⟨s, hs, rfl⟩ | ha
  · obtain ⟨v, h⟩ := hI.sl hs
    have hn : v.1 < 10 := h.1.1.1
    have hw := h.1.1.2.1
    have h0 := h.2.1.1.1
    have hr := h.2.2.1
    have gx := n_sl hs
    by_cases h1 : 1 ≤ v.1
    · by_cases hb : IsR 7 b
      · obtain ⟨q, hq, rfl⟩ := hb
        by_cases q2 : q = 2
        · subst q2
          refine BOTH.no (v := -2) hI ?_ ?_
          · unfold FX11_worst
            exact Ok.eq (netI hs hn h0 (fun _ => ⟨rfl, rfl⟩) (fun h1 g => Ok.bq (g_pr hq) (Ok.ifT rfl (Ok.ret ⟨rfl, rfl⟩))))
          · refine Ok.eq ?_
            unfold FX12_worst
            exact Ok.bq (g_isN1 hs hn hr h1) (Ok.ifF (by decide) (Ok.bq (g_msM hq) (Ok.ifF (by decide) (Ok.ifT rfl (Ok.ret ⟨rfl, rfl⟩)))))
        · have f1 : fst1 q ≤ 1 := by unfold fst1; split <;> omega
          by_cases hf : fst1 q < v.1
          · refine BOTH.no (v := nI (wsf (pri v.1 v.2.2.1 q v.2.2.2) (fst1 q) (v.1 - 1 - fst1 q))) hI ?_ ?_
            · unfold FX11_worst
              refine Ok.eq (netI hs hn h0 (fun q => absurd h1 (by omega)) (fun _ g => Ok.bq (g_pr hq) ?_))
              rw [if_neg q2]
              exact Ok.ifF (by decide) (Ok.bq (q_firstStep hq) (Ok.bq (g_has g hn h0 hf) (Ok.ifF (by decide) (Ok.bq (q_worstStep h.2.1.1 gx hw hn h.2.1.2 (fun i _ => h.1.o9 i) hq hf) (Ok.ret ⟨rfl, rfl⟩)))))
            · refine Ok.eq ?_
              unfold FX12_worst
              have wm := q_worstM hr hs hw hn h.2.2.2 (fun i _ => h.1.o9 i) hq hf
              refine Ok.bq (g_isN1 hs hn hr h1) (Ok.ifF (by decide) (Ok.bq (g_msM hq) (Ok.ifF (by decide) (Ok.ifF (by rw [li_2, nI_lit hq (by omega)]; exact q2) (Ok.bq (q_points hr hs) (Ok.ite (fun c => ?_) (fun c => ?_)))))))
              · have n1 : v.1 = 1 := nI_inj (b := 1) c (by omega) (by omega)
                have f0 : fst1 q = 0 := by omega
                have tk : q = 5 ∨ q = 6 := Classical.byContradiction (fun k => by unfold fst1 at f0; rw [if_neg k] at f0; omega)
                refine Ok.bq (q_takenM hq) ?_
                rw [if_pos tk]
                refine Ok.ifF (by decide) (Ok.bq (q_takenM hq) ?_)
                rw [if_pos tk]
                refine Ok.bq (a := nI (fst1 q)) (t := σ) (by rw [if_neg (by decide), f0]; rfl) (Ok.bq wm (Ok.ret ⟨rfl, rfl⟩))
              · refine Ok.bq (q_takenM hq) ?_
                refine Ok.bq (a := nI (fst1 q)) (t := σ) ?_ (Ok.bq wm (Ok.ret ⟨rfl, rfl⟩))
                unfold fst1
                by_cases tk : q = 5 ∨ q = 6
                · rw [if_pos tk, if_pos tk, if_neg (by decide)]; rfl
                · rw [if_neg tk, if_neg tk, if_pos rfl]; rfl
          · have n1 : v.1 = 1 := by omega
            have nt : ¬ (q = 5 ∨ q = 6) := fun k => by unfold fst1 at hf; rw [if_pos k] at hf; omega
            refine BOTH.no (v := -2) hI ?_ ?_
            · unfold FX11_worst
              refine Ok.eq (netI hs hn h0 (fun _ => ⟨rfl, rfl⟩) (fun _ g => Ok.bq (g_pr hq) ?_))
              rw [if_neg q2]
              exact Ok.ifF (by decide) (Ok.bq (q_firstStep hq) (Ok.bq (g_has0 g hn h0 (fun ⟨j, hj, e⟩ => by have := nI_inj e (by omega) (by omega); omega)) (Ok.ifT rfl (Ok.ret ⟨rfl, rfl⟩))))
            · refine Ok.eq ?_
              unfold FX12_worst
              refine Ok.bq (g_isN1 hs hn hr h1) (Ok.ifF (by decide) (Ok.bq (g_msM hq) (Ok.ifF (by decide) (Ok.ifF (by rw [li_2, nI_lit hq (by omega)]; exact q2) (Ok.bq (q_points hr hs) (Ok.ifT (by rw [n1]; rfl) (Ok.bq (q_takenM hq) ?_)))))))
              rw [if_neg nt]
              exact Ok.ifT rfl (Ok.ret ⟨rfl, rfl⟩)
      · refine BOTH.no (v := -2) hI ?_ ?_
        · unfold FX11_worst
          exact Ok.eq (netI hs hn h0 (fun _ => ⟨rfl, rfl⟩) (fun h1 g => Ok.bq (g_pr0 hb) (Ok.ifT rfl (Ok.ret ⟨rfl, rfl⟩))))
        · refine Ok.eq ?_
          unfold FX12_worst
          exact Ok.bq (g_isN1 hs hn hr h1) (Ok.ifF (by decide) (Ok.bq (g_msM0 hb) (Ok.ifT rfl (Ok.ret ⟨rfl, rfl⟩))))
    · refine BOTH.no (v := -2) hI ?_ ?_
      · unfold FX11_worst
        exact Ok.eq (netI hs hn h0 (fun _ => ⟨rfl, rfl⟩) (fun h g => absurd h h1))
      · refine Ok.eq ?_
        unfold FX12_worst
        exact Ok.bq (g_isN0 hs hn hr (by omega)) (Ok.ifT rfl (Ok.ret ⟨rfl, rfl⟩))
  · refine BOTH.no (v := -2) hI ?_ ?_
    · unfold FX11_worst
      exact net0 ha
    · refine Ok.eq ?_
      unfold FX12_worst
      exact Ok.bq (g_isNet0 ha) (Ok.ifT rfl (Ok.ret ⟨rfl, rfl⟩))
def apt (n : Nat) (o : Nat → Nat) (a b : Nat) : Nat := Nat.max (plc n o a) (plc n o b) - Nat.min (plc n o a) (plc n o b)
abbrev LNS := Int32 × Nat
def lgi (n : Nat) (w : Nat → Nat → Nat) (o : Nat → Nat) (a : Nat) (B : LNS) : Nat → LNS
  | 0 => B
  | k + 1 => if w a (a + 1 + k) = 0 then lgi n w o a B k else if apt n o a (a + 1 + k) ≤ (lgi n w o a B k).2 then lgi n w o a B k else (nI (10 * a + (a + 1 + k)), apt n o a (a + 1 + k))
def lgo (n : Nat) (w : Nat → Nat → Nat) (o : Nat → Nat) : Nat → LNS
  | 0 => (-1, 0)
  | i + 1 => lgi n w o i (lgo n w o i) (n - (i + 1))
theorem ab_all : ∀ p, p < 9 → ∀ q, q < 9 → abI (nI p - nI q) = nI (Nat.max p q - Nat.min p q) := by decide +kernel
theorem apt_le {n a b : Nat} {o : Nat → Nat} (ha : plc n o a < 9) (hb : plc n o b < 9) : apt n o a b ≤ 9 := by
  have : Nat.max (plc n o a) (plc n o b) < 9 := Nat.max_lt.mpr ⟨ha, hb⟩
  unfold apt
  omega
theorem lgi_le {n a : Nat} {w : Nat → Nat → Nat} {o : Nat → Nat} {B : LNS} (hp : ∀ q, q < n → plc n o q < 9) (ha : a < n) (hB : B.2 ≤ 9) : ∀ {k : Nat}, a + k < n → (lgi n w o a B k).2 ≤ 9
  | 0, _ => hB
  | k + 1, hk => by
    have ih := lgi_le (w := w) hp ha hB (k := k) (by omega)
    rw [lgi]
    split
    · exact ih
    · split
      · exact ih
      · exact apt_le (hp a ha) (hp _ (by omega))
theorem lgo_le {n : Nat} {w : Nat → Nat → Nat} {o : Nat → Nat} (hp : ∀ q, q < n → plc n o q < 9) : ∀ {i : Nat}, i ≤ n → (lgo n w o i).2 ≤ 9
  | 0, _ => Nat.zero_le _
  | i + 1, hi => lgi_le hp (by omega) (lgo_le hp (by omega)) (by omega)
theorem lg_step {n a k : Nat} {w : Nat → Nat → Nat} {o : Nat → Nat} {B : LNS} {t : St} (hw : WF n w) (hp : ∀ q, q < n → plc n o q < 9) (ha : a + 1 + k < n) (hB : B.2 ≤ 9) : (if nI (w a (a + 1 + k)) ≤ 0 then some (((lgi n w o a B k).1, nI (lgi n w o a B k).2), t) else (if abI (nI (plc n o a) - nI (plc n o (a + 1 + k))) ≤ nI (lgi n w o a B k).2 then some (((lgi n w o a B k).1, nI (lgi n w o a B k).2), t) else some ((((10 : Int32) * nI a + nI (a + 1 + k)), abI (nI (plc n o a) - nI (plc n o (a + 1 + k)))), t))) = some (((lgi n w o a B (k + 1)).1, nI (lgi n w o a B (k + 1)).2), t) := by
  have hl := lgi_le (w := w) hp (a := a) (by omega) hB (k := k) (by omega)
  have p1 := hp a (by omega)
  have p2 := hp (a + 1 + k) (by omega)
  have hap := apt_le p1 p2
  have w9 := hw.1 a (a + 1 + k)
  have ea : abI (nI (plc n o a) - nI (plc n o (a + 1 + k))) = nI (apt n o a (a + 1 + k)) := ab_all _ p1 _ p2
  rw [ea, lgi, li_10, nI_mul, nI_add]
  by_cases c : w a (a + 1 + k) = 0
  · rw [if_pos (by rw [c]; decide), if_pos c]
  · rw [if_neg (by rw [li_0, nI_leP (by omega) (by omega)]; omega), if_neg c]
    by_cases c2 : apt n o a (a + 1 + k) ≤ (lgi n w o a B k).2
    · rw [if_pos (by rw [nI_leP (by omega) (by omega)]; exact c2), if_pos c2]
    · rw [if_neg (by rw [nI_leP (by omega) (by omega)]; exact c2), if_neg c2]
theorem q_longestLine {x n l : Nat} {w : Nat → Nat → Nat} {o : Nat → Nat} {t : St} (h : CN x n l w t) (g : netAt x = true) (hw : WF n w) (hn : n < 10) (ho : CO x n o t) (hP : PFX n n o) : FX8_longestLine x t = some ((lgo n w o n).1, t) := by
  have hp : ∀ q, q < n → plc n o q < 9 := fun q hq => by have := (plc_in hn hP hq).1; omega
  refine Ok.eq ?_
  unfold FX8_longestLine
  refine Ok.ckT g (Ok.bq (a := (lgo n w o n).1) (t := t) (wq0 n (fun i => ((lgo n w o i).1, nI (lgo n w o i).2, nI i)) rfl (fun i hi => ?_) ?_) (Ok.ret ⟨rfl, rfl⟩))
  · unfold SX8_longestLine_6
    dsimp only
    have hB := lgo_le (w := w) hp (i := i) (by omega)
    refine Ok.rdE h.1 (Ok.ifF (by rw [nI_leP (by omega) (by omega)]; omega) ?_)
    rw [nI_1]
    refine Ok.bq (a := ((lgo n w o (i + 1)).1, nI (lgo n w o (i + 1)).2)) (t := t) (wq0 (n - (i + 1)) (fun k => ((lgi n w o i (lgo n w o i) k).1, nI (lgi n w o i (lgo n w o i) k).2, nI (i + 1 + k))) rfl (fun k hk => ?_) ?_) (Ok.ret ⟨rfl, rfl⟩)
    · unfold SX8_longestLine_19
      dsimp only
      refine Ok.rdE h.1 (Ok.ifF (by rw [nI_leP (by omega) (by omega)]; omega) (Ok.bq (q_placeOf g hn h.1 ho hP hi) (Ok.bq (q_placeOf g hn h.1 ho hP (p := i + 1 + k) (by omega)) (Ok.bq (q_weightOf h g (by omega) (by omega)) (Ok.bq (lg_step hw hp (by omega) hB) (Ok.ret ⟨rfl, ?_⟩))))))
      rw [nI_1]
      rfl
    · unfold SX8_longestLine_19
      dsimp only
      exact Ok.rdE h.1 (Ok.ifT (by rw [nI_leP (by omega) (by omega)]; omega) (Ok.ret ⟨rfl, rfl⟩))
  · unfold SX8_longestLine_6
    dsimp only
    exact Ok.rdE h.1 (Ok.ifT (by rw [nI_leP (by omega) (by omega)]; omega) (Ok.ret ⟨rfl, rfl⟩))
theorem q_longestM {s n : Nat} {w : Nat → Nat → Nat} {o : Nat → Nat} {t : St} (h : RN s n w t) (hs : s < 3) (hw : WF n w) (hn : n < 10) (ho : RO s n o t) (hP : PFX n n o) : wh (SX12_longest_18 (nI s)) ((-1 : Int32), (0 : Int32), (0 : Int32)) t = some ((lgo n w o n).1, t) := by
  have hp : ∀ q, q < n → plc n o q < 9 := fun q hq => by have := (plc_in hn hP hq).1; omega
  refine wq0 n (fun i => ((lgo n w o i).1, nI (lgo n w o i).2, nI i)) rfl (fun i hi => ?_) ?_
  · unfold SX12_longest_18
    dsimp only
    have hB := lgo_le (w := w) hp (i := i) (by omega)
    refine Ok.bq (q_points h hs) (Ok.ifF (by rw [nI_leP (by omega) (by omega)]; omega) ?_)
    rw [nI_1]
    refine Ok.bq (a := ((lgo n w o (i + 1)).1, nI (lgo n w o (i + 1)).2)) (t := t) (wq0 (n - (i + 1)) (fun k => ((lgi n w o i (lgo n w o i) k).1, nI (lgi n w o i (lgo n w o i) k).2, nI (i + 1 + k))) rfl (fun k hk => ?_) ?_) (Ok.ret ⟨rfl, rfl⟩)
    · unfold SX12_longest_34
      dsimp only
      refine Ok.bq (q_points h hs) (Ok.ifF (by rw [nI_leP (by omega) (by omega)]; omega) (Ok.bq (q_placeOfM hs hn ho hP hi) (Ok.bq (q_placeOfM hs hn ho hP (p := i + 1 + k) (by omega)) (Ok.bq (q_weight h hs (by omega) (by omega)) (Ok.bq (lg_step hw hp (by omega) hB) (Ok.ret ⟨rfl, ?_⟩))))))
      rw [nI_1]
      rfl
    · unfold SX12_longest_34
      dsimp only
      exact Ok.bq (q_points h hs) (Ok.ifT (by rw [nI_leP (by omega) (by omega)]; omega) (Ok.ret ⟨rfl, rfl⟩))
  · unfold SX12_longest_18
    dsimp only
    exact Ok.bq (q_points h hs) (Ok.ifT (by rw [nI_leP (by omega) (by omega)]; omega) (Ok.ret ⟨rfl, rfl⟩))
theorem z3_longest {σ : St} (hI : INV3 σ) (a : Int32) : BOTH (FX11_longest a σ) (fun u => FX12_longest a u) := by
  rcases r3 (a := a) with ⟨s, hs, rfl⟩ | ha
  · obtain ⟨v, h⟩ := hI.sl hs
    have hn : v.1 < 10 := h.1.1.1
    have hw := h.1.1.2.1
    have h0 := h.2.1.1.1
    have hr := h.2.2.1
    have gx := n_sl hs
    by_cases h1 : 1 ≤ v.1
    · refine BOTH.no (v := (lgo v.1 v.2.2.1 v.2.2.2 v.1).1) hI ?_ ?_
      · unfold FX11_longest
        exact Ok.eq (netI hs hn h0 (fun q => absurd h1 (by omega)) (fun _ g => Ok.bq (q_longestLine h.2.1.1 gx hw hn h.2.1.2 h.1.2.2.1) (Ok.ret ⟨rfl, rfl⟩)))
      · refine Ok.eq ?_
        unfold FX12_longest
        exact Ok.bq (g_isN1 hs hn hr h1) (Ok.ifF (by decide) (Ok.bq (q_longestM hr hs hw hn h.2.2.2 h.1.2.2.1) (Ok.ret ⟨rfl, rfl⟩)))
    · refine BOTH.no (v := -2) hI ?_ ?_
      · unfold FX11_longest
        exact Ok.eq (netI hs hn h0 (fun _ => ⟨rfl, rfl⟩) (fun h g => absurd h h1))
      · refine Ok.eq ?_
        unfold FX12_longest
        exact Ok.bq (g_isN0 hs hn hr (by omega)) (Ok.ifT rfl (Ok.ret ⟨rfl, rfl⟩))
  · refine BOTH.no (v := -2) hI ?_ ?_
    · unfold FX11_longest
      exact net0 ha
    · refine Ok.eq ?_
      unfold FX12_longest
      exact Ok.bq (g_isNet0 ha) (Ok.ifT rfl (Ok.ret ⟨rfl, rfl⟩))
/-- the sets that don't hold half -/
def hvm (n : Nat) : Nat := mkm (2 ^ n) (fun S => decide (cnt S 9 ≠ n / 2))
theorem hvm_b {n S : Nat} (hS : S < 2 ^ n) : (hvm n).testBit S = decide (cnt S 9 ≠ n / 2) := by
  unfold hvm
  rw [mkm_bit, decide_eq_true hS, Bool.true_and]
def hvv (n : Nat) (w : Nat → Nat → Nat) : Nat := (gch (cutW n w) (hvm n) (2 ^ n)).getD 0
theorem hv_all : ∀ n, n < 10 → 2 ^ (n / 2) - 1 < 2 ^ n ∧ cnt (2 ^ (n / 2) - 1) 9 = n / 2 := by decide +kernel
theorem hv_ex {n : Nat} {w : Nat → Nat → Nat} (hn : n < 10) : gch (cutW n w) (hvm n) (2 ^ n) = some (hvv n w) := by
  have a := hv_all n hn
  obtain ⟨b, hb⟩ := gch_ex (c := cutW n w) (S := hvm n) (n := 2 ^ n) ⟨2 ^ (n / 2) - 1, a.1, by rw [hvm_b a.1, a.2]; exact decide_eq_false (fun q => q rfl)⟩
  unfold hvv
  rw [hb]
  rfl
theorem nI_half {n : Nat} (hn : n < 10) : nI n / (2 : Int32) = nI (n / 2) := by
  rw [li_2, nI_divN (by omega) (by omega) (by omega)]
def oZ (o : Option Nat) : Int32 := Option.elim o 0 nI
theorem q_thinnest {x n l : Nat} {w : Nat → Nat → Nat} {t : St} (h : CN x n l w t) (g : netAt x = true) (hw : WF n w) (hn : n < 10) : FX10_thinnestHalf x t = some (nI (hvv n w), t) := by
  refine Ok.eq ?_
  unfold FX10_thinnestHalf
  have p9 := pow9 (k := n) (by omega)
  refine Ok.ckT g (Ok.bq (a := nI (hvv n w)) (t := t) (wq0 (2 ^ n) (fun j => (oZ (gch (cutW n w) (hvm n) j), oV (cutW n w) (gch (cutW n w) (hvm n) j), nI j)) rfl (fun j hj => ?_) ?_) (Ok.ret ⟨rfl, rfl⟩))
  · unfold SX10_thinnestHalf_7
    dsimp only
    refine Ok.bd (fun r u => t = u ∧ r = nI (2 ^ n - 1)) (e_allBits h hn g ⟨rfl, rfl⟩) ?_
    rintro _ _ ⟨rfl, rfl⟩
    have c9 : cnt j 9 ≤ 9 := cnt_le
    refine Ok.ifF (by rw [nI_ltP (by omega) (by omega)]; omega) (Ok.bq (q_bitCount (S := j) (by omega)) (Ok.rdE h.1 ?_))
    rw [nI_half hn]
    refine Ok.bq (a := (oZ (gch (cutW n w) (hvm n) (j + 1)), oV (cutW n w) (gch (cutW n w) (hvm n) (j + 1)))) (t := t) (Ok.eq ?_) (Ok.ret ⟨rfl, by rw [nI_1]⟩)
    rw [gch, hvm_b hj]
    have cw : cutW n w j ≤ 729 := cutW_le hw hn
    refine Ok.cv (nI_eqP (by omega) (by omega)) (Ok.ite (fun c => ?_) (fun c => Ok.ret ⟨rfl, ?_⟩))
    · rw [if_neg (c := decide (cnt j 9 ≠ n / 2) = true) (fun q => of_decide_eq_true q c)]
      refine Ok.bq (q_cutWeight h g hw hn (A := j) (by omega)) ?_
      cases e : gch (cutW n w) (hvm n) j with
      | none =>
        refine Ok.ifF ?_ (Ok.ret ⟨rfl, rfl⟩)
        show ¬ nI 1048576 ≤ _
        rw [nI_leP (by omega) (by omega)]
        omega
      | some b =>
        have hb : cutW n w b ≤ 729 := cutW_le hw hn
        show Ok (if nI (cutW n w b) ≤ nI (cutW n w j) then _ else _) (fun r u => t = u ∧ r = (oZ (if cutW n w j < cutW n w b then some j else some b), oV (cutW n w) (if cutW n w j < cutW n w b then some j else some b)))
        refine Ok.cv (nI_leP (by omega) (by omega)) (Ok.ite (fun c => Ok.ret ⟨rfl, ?_⟩) (fun c => Ok.ret ⟨rfl, ?_⟩))
        · rw [if_neg (by omega)]
        · rw [if_pos (by omega)]; rfl
    · rw [if_pos (decide_eq_true c)]
  · unfold SX10_thinnestHalf_7
    dsimp only
    refine Ok.bd (fun r u => t = u ∧ r = nI (2 ^ n - 1)) (e_allBits h hn g ⟨rfl, rfl⟩) ?_
    rintro _ _ ⟨rfl, rfl⟩
    have := Nat.two_pow_pos n
    refine Ok.ifT (by rw [nI_ltP (by omega) (by omega)]; omega) (Ok.ret ⟨rfl, ?_⟩)
    rw [hv_ex hn]
    rfl
theorem q_halveM {s n : Nat} {w : Nat → Nat → Nat} {t : St} (h : RN s n w t) (hs : s < 3) (hw : WF n w) (hn : n < 10) : wh (SX12_halve_15 (nI s)) ((-1 : Int32), (0 : Int32)) t = some (nI (hvv n w), t) := by
  have p9 := pow9 (k := n) (by omega)
  refine wq0 (2 ^ n) (fun j => (oI (gch (cutW n w) (hvm n) j), nI j)) rfl (fun j hj => ?_) ?_
  · unfold SX12_halve_15
    dsimp only
    have c9 : cnt j 9 ≤ 9 := cnt_le
    refine Ok.bq (q_points h hs) ?_
    rw [li_1, shl_1b (by omega)]
    refine Ok.ifF (by rw [nI_leP (by omega) (by omega)]; omega) (Ok.bq (q_ones (S := j) (by omega)) (Ok.bq (q_points h hs) ?_))
    rw [nI_half hn]
    refine Ok.bq (a := oI (gch (cutW n w) (hvm n) (j + 1))) (t := t) (Ok.eq ?_) (Ok.ret ⟨rfl, by rw [← li_1, nI_1]⟩)
    rw [gch, hvm_b hj]
    have cw : cutW n w j ≤ 729 := cutW_le hw hn
    refine Ok.cv (nI_eqP (by omega) (by omega)) (Ok.ite (fun c => ?_) (fun c => Ok.ret ⟨rfl, ?_⟩))
    · rw [if_neg (c := decide (cnt j 9 ≠ n / 2) = true) (fun q => of_decide_eq_true q c)]
      cases e : gch (cutW n w) (hvm n) j with
      | none => exact Ok.ifT rfl (Ok.ret ⟨rfl, rfl⟩)
      | some b =>
        have hb : cutW n w b ≤ 729 := cutW_le hw hn
        have hbn := (gch_in e).1
        show Ok (if nI b = -1 then _ else _) (fun r u => t = u ∧ r = oI (if cutW n w j < cutW n w b then some j else some b))
        refine Ok.ifF (n1n (by omega)) (Ok.bq (q_splitOf h hs hw hn (A := j) (k := 0) (by omega) (by omega)) (Ok.bq (q_splitOf h hs hw hn (A := b) (k := 0) (by omega) (by omega)) ?_))
        show Ok (if nI (cutW n w b) ≤ nI (cutW n w j) then _ else _) _
        refine Ok.cv (nI_leP (by omega) (by omega)) (Ok.ite (fun c => Ok.ret ⟨rfl, ?_⟩) (fun c => Ok.ret ⟨rfl, ?_⟩))
        · rw [if_neg (by omega)]
        · rw [if_pos (by omega)]; rfl
    · rw [if_pos (decide_eq_true c)]
  · unfold SX12_halve_15
    dsimp only
    refine Ok.bq (q_points h hs) ?_
    rw [li_1, shl_1b (by omega)]
    refine Ok.ifT (by rw [nI_leP (by omega) (by omega)]; omega) (Ok.ret ⟨rfl, ?_⟩)
    rw [hv_ex hn]
    rfl
theorem z3_halve {σ : St} (hI : INV3 σ) (a : Int32) : BOTH (FX11_halve a σ) (fun u => FX12_halve a u) := by
  rcases r3 (a := a) with ⟨s, hs, rfl⟩ | ha
  · obtain ⟨v, h⟩ := hI.sl hs
    have hn : v.1 < 10 := h.1.1.1
    have hw := h.1.1.2.1
    have h0 := h.2.1.1.1
    have hr := h.2.2.1
    have gx := n_sl hs
    by_cases h1 : 1 ≤ v.1
    · refine BOTH.no (v := nI (hvv v.1 v.2.2.1)) hI ?_ ?_
      · unfold FX11_halve
        exact Ok.eq (netI hs hn h0 (fun q => absurd h1 (by omega)) (fun _ g => Ok.bq (q_thinnest h.2.1.1 gx hw hn) (Ok.ret ⟨rfl, rfl⟩)))
      · refine Ok.eq ?_
        unfold FX12_halve
        exact Ok.bq (g_isN1 hs hn hr h1) (Ok.ifF (by decide) (Ok.bq (q_halveM hr hs hw hn) (Ok.ret ⟨rfl, rfl⟩)))
    · refine BOTH.no (v := -2) hI ?_ ?_
      · unfold FX11_halve
        exact Ok.eq (netI hs hn h0 (fun _ => ⟨rfl, rfl⟩) (fun h g => absurd h h1))
      · refine Ok.eq ?_
        unfold FX12_halve
        exact Ok.bq (g_isN0 hs hn hr (by omega)) (Ok.ifT rfl (Ok.ret ⟨rfl, rfl⟩))
  · refine BOTH.no (v := -2) hI ?_ ?_
    · unfold FX11_halve
      exact net0 ha
    · refine Ok.eq ?_
      unfold FX12_halve
      exact Ok.bq (g_isNet0 ha) (Ok.ifT rfl (Ok.ret ⟨rfl, rfl⟩))
theorem z3_split {σ : St} (hI : INV3 σ) (a b c : Int32) : BOTH (FX11_split a b c σ) (fun u => FX12_split a b c u) := by
  rcases r3 (a := a) with ⟨s, hs, rfl⟩ | ha
  · obtain ⟨v, h⟩ := hI.sl hs
    have hn : v.1 < 10 := h.1.1.1
    have hw := h.1.1.2.1
    have h0 := h.2.1.1.1
    have hr := h.2.2.1
    have gx := n_sl hs
    by_cases h1 : 1 ≤ v.1
    · have p9 := pow9 (k := v.1) (by omega)
      have p0 := Nat.two_pow_pos v.1
      have e9 : (shl (1 : Int32) (nI v.1) - 1).toInt64.toInt = ((2 ^ v.1 : Nat) : Int) - 1 := by
        rw [li_1, shl_1b (by omega), nI_sub (by omega), Int32.toInt_toInt64, nI_toInt (by omega)]
        omega
      by_cases hb : IsR (2 ^ v.1) b
      · obtain ⟨S, hS, rfl⟩ := hb
        by_cases hc : IsR 3 c
        · obtain ⟨k, hk, rfl⟩ := hc
          refine BOTH.no (v := nI (spl v.1 v.2.2.1 S k)) hI ?_ ?_
          · unfold FX11_split
            refine Ok.eq (netI hs hn h0 (fun q => absurd h1 (by omega)) (fun _ g => Ok.ifF (by rw [li_0, nI_ltP (by omega) (by omega)]; omega) (Ok.bd (fun r u => σ = u ∧ r = nI (2 ^ v.1 - 1)) (e_allBits h.2.1.1 hn gx ⟨rfl, rfl⟩) ?_)))
            rintro _ _ ⟨rfl, rfl⟩
            refine Ok.ifT (by rw [nI_leP (by omega) (by omega)]; omega) ?_
            rcases (show k = 0 ∨ k = 1 ∨ k = 2 by omega) with rfl | rfl | rfl
            · exact Ok.ifT rfl (Ok.bq (q_cutWeight h.2.1.1 gx hw hn (by omega)) (Ok.ret ⟨rfl, rfl⟩))
            · exact Ok.ifF (by decide) (Ok.ifT rfl (Ok.bq (q_gateSize h.2.1.1 gx hn (by omega)) (Ok.ret ⟨rfl, rfl⟩)))
            · exact Ok.ifF (by decide) (Ok.ifF (by decide) (Ok.ifT rfl (Ok.bq (q_fringeSize h.2.1.1 gx hn (by omega)) (Ok.ret ⟨rfl, rfl⟩))))
          · refine Ok.eq ?_
            unfold FX12_split
            exact Ok.bq (g_isN1 hs hn hr h1) (Ok.ifF (by decide) (Ok.bq (q_points hr hs) (Ok.bq (q_in1 (by omega) (by omega) e9 ⟨S, hS, rfl⟩) (Ok.ifF (by decide) (Ok.bq (q_in1 (n := 3) (by omega) (by omega) (by decide) ⟨k, hk, rfl⟩) (Ok.ifF (by decide) (Ok.bq (q_splitOf hr hs hw hn (by omega) hk) (Ok.ret ⟨rfl, rfl⟩))))))))
        · refine BOTH.no (v := -2) hI ?_ ?_
          · unfold FX11_split
            refine Ok.eq (netI hs hn h0 (fun q => absurd h1 (by omega)) (fun _ g => Ok.ifF (by rw [li_0, nI_ltP (by omega) (by omega)]; omega) (Ok.bd (fun r u => σ = u ∧ r = nI (2 ^ v.1 - 1)) (e_allBits h.2.1.1 hn gx ⟨rfl, rfl⟩) ?_)))
            rintro _ _ ⟨rfl, rfl⟩
            exact Ok.ifT (by rw [nI_leP (by omega) (by omega)]; omega) (Ok.ifF (fun q => hc ⟨0, by omega, q⟩) (Ok.ifF (fun q => hc ⟨1, by omega, q⟩) (Ok.ifF (fun q => hc ⟨2, by omega, q⟩) (Ok.ret ⟨rfl, rfl⟩))))
          · refine Ok.eq ?_
            unfold FX12_split
            exact Ok.bq (g_isN1 hs hn hr h1) (Ok.ifF (by decide) (Ok.bq (q_points hr hs) (Ok.bq (q_in1 (by omega) (by omega) e9 ⟨S, hS, rfl⟩) (Ok.ifF (by decide) (Ok.bq (q_in0 (n := 3) (by omega) (by omega) (by decide) hc) (Ok.ifT rfl (Ok.ret ⟨rfl, rfl⟩)))))))
      · refine BOTH.no (v := -2) hI ?_ ?_
        · unfold FX11_split
          refine Ok.eq (netI hs hn h0 (fun q => absurd h1 (by omega)) (fun _ g => Ok.ite (fun _ => Ok.ret ⟨rfl, rfl⟩) (fun b0 => Ok.bd (fun r u => σ = u ∧ r = nI (2 ^ v.1 - 1)) (e_allBits h.2.1.1 hn gx ⟨rfl, rfl⟩) ?_)))
          rintro _ _ ⟨rfl, rfl⟩
          obtain ⟨k, hk, rfl⟩ := nI_of b0
          refine Ok.ifF ?_ (Ok.ret ⟨rfl, rfl⟩)
          rw [nI_leP (by omega) (by omega)]
          exact fun q => hb ⟨k, by omega, rfl⟩
        · refine Ok.eq ?_
          unfold FX12_split
          exact Ok.bq (g_isN1 hs hn hr h1) (Ok.ifF (by decide) (Ok.bq (q_points hr hs) (Ok.bq (q_in0 (by omega) (by omega) e9 hb) (Ok.ifT rfl (Ok.ret ⟨rfl, rfl⟩)))))
    · refine BOTH.no (v := -2) hI ?_ ?_
      · unfold FX11_split
        exact Ok.eq (netI hs hn h0 (fun _ => ⟨rfl, rfl⟩) (fun h g => absurd h h1))
      · refine Ok.eq ?_
        unfold FX12_split
        exact Ok.bq (g_isN0 hs hn hr (by omega)) (Ok.ifT rfl (Ok.ret ⟨rfl, rfl⟩))
  · refine BOTH.no (v := -2) hI ?_ ?_
    · unfold FX11_split
      exact net0 ha
    · refine Ok.eq ?_
      unfold FX12_split
      exact Ok.bq (g_isNet0 ha) (Ok.ifT rfl (Ok.ret ⟨rfl, rfl⟩))
theorem q_bagM {s n p A : Nat} {w : Nat → Nat → Nat} {t : St} (h : RN s n w t) (hs : s < 3) (hw : WF n w) (hn : n < 10) (hA : A < 512) (hp : p < 9) : wh (SX12_bag_67 (nI s) (nI A)) (shl (1 : Int32) (nI p), (0 : Int32)) t = some (nI (2 ^ p ||| mkm n (fun q => A.testBit q && decide (dif (nr w q) A ≠ 0))), t) := by
  refine wq0 n (fun j => (nI (2 ^ p ||| mkm j (fun q => A.testBit q && decide (dif (nr w q) A ≠ 0))), nI j)) (by rw [li_1, shl_1b (by omega)]; show _ = (nI (2 ^ p ||| 0), nI 0); rw [Nat.or_zero]; rfl) (fun j hj => ?_) ?_
  · unfold SX12_bag_67
    dsimp only
    refine Ok.bq (q_points h hs) (Ok.ifF (by rw [nI_leP (by omega) (by omega)]; omega) (Ok.bq (q_has (by omega) (by omega)) ?_))
    have hd : dif (nr w j) A < 512 := dif_lt nr_lt
    refine Ok.bq (a := nI (if (A.testBit j && decide (dif (nr w j) A ≠ 0)) = true then 2 ^ j else 0)) (t := t) (Ok.eq (Ok.cv b01 (Ok.ite (fun c => Ok.ret ⟨rfl, ?_⟩) (fun c => Ok.bq (q_nearOf h hs hn hw (by omega)) ?_)))) (Ok.ret ⟨rfl, ?_⟩)
    · rw [c, if_neg (by simp)]; rfl
    · rw [nI_dif nr_lt hA]
      refine Ok.cv (nI_q0 (by omega)) (Ok.ite (fun c0 => Ok.ret ⟨rfl, ?_⟩) (fun c0 => Ok.ret ⟨rfl, ?_⟩))
      · rw [if_neg (by simp [c0])]; rfl
      · rw [if_pos (by rw [bT c]; simp [c0]), li_1, shl_1b (by omega)]
    · rw [nI_or, nI_1, Nat.or_assoc]
      rfl
  · unfold SX12_bag_67
    dsimp only
    exact Ok.bq (q_points h hs) (Ok.ifT (by rw [nI_leP (by omega) (by omega)]; omega) (Ok.ret ⟨rfl, rfl⟩))
theorem z3_bag {σ : St} (hI : INV3 σ) (a b c : Int32) : BOTH (FX11_bag a b c σ) (fun u => FX12_bag a b c u) := by
  rcases r3 (a := a) with ⟨s, hs, rfl⟩ | ha
  · obtain ⟨v, h⟩ := hI.sl hs
    have hn : v.1 < 10 := h.1.1.1
    have hw := h.1.1.2.1
    have h0 := h.2.1.1.1
    have hr := h.2.2.1
    have gx := n_sl hs
    by_cases hc : IsR v.1 c
    · obtain ⟨i, hi, rfl⟩ := hc
      have ho9 := h.1.o9 i
      have hA : amk v.2.2.2 i < 512 := amk_lt (fun j _ => h.1.o9 j)
      have ea : FX5_aheadOf (12 + 24 * s) (nI i) σ = some (nI (amk v.2.2.2 i), σ) := q_aheadOf h.2.1.1 gx hn h.2.1.2 (fun i _ => h.1.o9 i) (by omega)
      have em : FX12_aheadOf (nI s) (nI i) σ = some (nI (amk v.2.2.2 i), σ) := q_aheadOfM hs hn h.2.2.2 (fun i _ => h.1.o9 i) (by omega)
      by_cases hb : IsR 2 b
      · obtain ⟨q, hq, rfl⟩ := hb
        rcases (show q = 0 ∨ q = 1 by omega) with rfl | rfl
        · refine BOTH.no (v := nI (2 ^ v.2.2.2 i ||| mkm v.1 (fun p => (amk v.2.2.2 i).testBit p && decide (dif (nr v.2.2.1 p) (amk v.2.2.2 i) ≠ 0)))) hI ?_ ?_
          · unfold FX11_bag
            refine Ok.eq (netI hs hn h0 (fun q => absurd hi (by omega)) (fun _ g => Ok.bq (g_has g hn h0 hi) (Ok.ifF (by decide) (Ok.ifT rfl ?_))))
            unfold FX8_bagGoing
            refine Ok.bq (a := nI (2 ^ v.2.2.2 i ||| mkm v.1 (fun p => (amk v.2.2.2 i).testBit p && decide (dif (nr v.2.2.1 p) (amk v.2.2.2 i) ≠ 0)))) (t := σ) (Ok.eq (Ok.ckT gx (Ok.bq ea (Ok.ckT (inb_n (by omega) (by omega)) ?_)))) (Ok.ret ⟨rfl, rfl⟩)
            rw [nI_cl (by omega)]
            refine Ok.rdE (h.2.1.2 i hi) (Ok.bq (q_withLine h.2.1.1 gx hn (P := fun p => (amk v.2.2.2 i).testBit p) (B := fun p => dif (nr v.2.2.1 p) (amk v.2.2.2 i)) (fun p hp => bitn (by omega) (by omega)) (fun p hp => ⟨nI_dif nr_lt hA, dif_lt nr_lt⟩)) (Ok.ret ⟨rfl, ?_⟩))
            rw [li_1, shl_1b (by omega), nI_or]
          · refine Ok.eq ?_
            unfold FX12_bag
            exact Ok.bq (g_isPt hs hn hr hi) (Ok.ifF (by decide) (Ok.bq (q_in1 (n := 2) (by omega) (by omega) (by decide) ⟨0, by omega, rfl⟩) (Ok.ifF (by decide) (Ok.bq (q_at h.2.2.2 hs hn hi) (Ok.bq em (Ok.ifF (by decide) (Ok.bq (q_bagM hr hs hw hn hA ho9) (Ok.ret ⟨rfl, rfl⟩))))))))
        · refine BOTH.no (v := nI (2 ^ v.2.2.2 i ||| nbm v.2.2.1 (amk v.2.2.2 i) (v.2.2.2 i))) hI ?_ ?_
          · unfold FX11_bag
            refine Ok.eq (netI hs hn h0 (fun q => absurd hi (by omega)) (fun _ g => Ok.bq (g_has g hn h0 hi) (Ok.ifF (by decide) (Ok.ifF (by decide) (Ok.ifT rfl ?_)))))
            unfold FX8_bagTaken
            refine Ok.bq (a := nI (2 ^ v.2.2.2 i ||| nbm v.2.2.1 (amk v.2.2.2 i) (v.2.2.2 i))) (t := σ) (Ok.eq (Ok.ckT gx (Ok.ckT (inb_n (by omega) (by omega)) ?_))) (Ok.ret ⟨rfl, rfl⟩)
            rw [nI_cl (by omega)]
            refine Ok.rdE (h.2.1.2 i hi) (Ok.bq ea (Ok.bq (q_neighbours h.2.1.1 gx hw hn hA ho9) (Ok.ret ⟨rfl, ?_⟩)))
            rw [li_1, shl_1b (by omega), nI_or]
          · refine Ok.eq ?_
            unfold FX12_bag
            refine Ok.bq (g_isPt hs hn hr hi) (Ok.ifF (by decide) (Ok.bq (q_in1 (n := 2) (by omega) (by omega) (by decide) ⟨1, by omega, rfl⟩) (Ok.ifF (by decide) (Ok.bq (q_at h.2.2.2 hs hn hi) (Ok.bq em (Ok.ifT rfl (Ok.bq (q_neighboursM hr hs hw hn hA ho9) (Ok.ret ⟨rfl, ?_⟩))))))))
            rw [li_1, shl_1b (by omega), nI_or, Nat.or_comm]
      · refine BOTH.no (v := -2) hI ?_ ?_
        · unfold FX11_bag
          exact Ok.eq (netI hs hn h0 (fun q => absurd hi (by omega)) (fun _ g => Ok.bq (g_has g hn h0 hi) (Ok.ifF (by decide) (Ok.ifF (fun q => hb ⟨0, by omega, q⟩) (Ok.ifF (fun q => hb ⟨1, by omega, q⟩) (Ok.ret ⟨rfl, rfl⟩))))))
        · refine Ok.eq ?_
          unfold FX12_bag
          exact Ok.bq (g_isPt hs hn hr hi) (Ok.ifF (by decide) (Ok.bq (q_in0 (n := 2) (by omega) (by omega) (by decide) hb) (Ok.ifT rfl (Ok.ret ⟨rfl, rfl⟩))))
    · refine BOTH.no (v := -2) hI ?_ ?_
      · unfold FX11_bag
        exact Ok.eq (netI hs hn h0 (fun _ => ⟨rfl, rfl⟩) (fun _ g => Ok.bq (g_has0 g hn h0 hc) (Ok.ifT rfl (Ok.ret ⟨rfl, rfl⟩))))
      · refine Ok.eq ?_
        unfold FX12_bag
        exact Ok.bq (g_isPt0 hs hn hr hc) (Ok.ifT rfl (Ok.ret ⟨rfl, rfl⟩))
  · refine BOTH.no (v := -2) hI ?_ ?_
    · unfold FX11_bag
      exact net0 ha
    · refine Ok.eq ?_
      unfold FX12_bag
      exact Ok.bq (g_isPtN ha) (Ok.ifT rfl (Ok.ret ⟨rfl, rfl⟩))
end
