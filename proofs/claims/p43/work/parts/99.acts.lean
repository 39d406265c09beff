/-! between two calls: slots, what can be undone, what is found and what is told are right (wip/sim/g99.py) -/
def P3 (c i : Nat) : Prop := c = 3 ∨ c = 4 ∨ (12 ≤ c ∧ c ≤ 83) ∨ (91 ≤ c ∧ c ≤ 140) ∨ c = 150 ∨ c = 152 ∨ c = 162 ∨ (c = 149 ∧ (i = 3 ∨ i = 25))
/-- what an act of the class leaves -/
def PA1 (c i : Nat) : Prop := c = 3 ∨ c = 4 ∨ c = 150 ∨ c = 152 ∨ c = 162 ∨ (c = 149 ∧ (i = 3 ∨ i = 25))
/-- what an act of the reference leaves -/
def PA2 (c i : Nat) : Prop := c = 3 ∨ c = 4 ∨ (12 ≤ c ∧ c ≤ 140) ∨ c = 162 ∨ (c = 149 ∧ i = 25)
def OUTI (t : St) : Prop := ∃ l : List Nat, l.length ≤ 256 ∧ OC l t ∧ OMm l t
theorem OUTI.fr {t u : St} (h : OUTI t) (e3 : u 3 = t 3) (e4 : u 4 = t 4) (e1 : u 162 = t 162) (e2 : u 149 25 = t 149 25) : OUTI u := by
  obtain ⟨l, h0, h1, h2⟩ := h
  exact ⟨l, h0, ⟨by rw [e3]; exact h1.1, fun i hi => by rw [e4]; exact h1.2 i hi⟩, ⟨by rw [e2]; exact h2.1, fun i hi => by rw [e1]; exact h2.2 i hi⟩⟩
def FA (t : St) : Prop := (∀ s, s < 3 → FI (16 + 24 * s) t) ∧ BI t
theorem FA.fr {t u : St} (h : FA t) (f : ∀ c, ((12 ≤ c ∧ c ≤ 83) ∨ (91 ≤ c ∧ c ≤ 97)) → u c = t c) : FA u := ⟨fun s hs => (h.1 s hs).fr (fun c c1 c2 => f c (by omega)), h.2.fr (fun c c1 c2 => f c (by omega))⟩
theorem FA.af {t u : St} {s : Nat} (h : FA t) (f : AF s t u) (hs : s < 3) : FA u := ⟨fun r hr => (h.1 r hr).fr (fun c c1 c2 => f c (by omega) (by omega)), h.2.fr (fun c c1 c2 => f c (by omega) (by omega))⟩
def INV3 (t : St) : Prop := INV2 t ∧ (∃ K m, GK K m ∧ CST K m t ∧ MST K m t) ∧ FA t ∧ OUTI t
theorem cel {P : Nat → Nat → Prop} {t u : St} (f : ∀ c i, P c i → u c i = t c i) {c : Nat} (h : ∀ i, P c i) : u c = t c := funext (fun i => f c i (h i))
theorem INV3.fr {σ w : St} (h : INV3 σ) (hw : INV2 w) (f : ∀ c i, P3 c i → w c i = σ c i) : INV3 w := by
  obtain ⟨-, ⟨K, m, hG, hC, hM⟩, hF, hO⟩ := h
  refine ⟨hw, ⟨K, m, hG, hC.fr hG.1 (fun s hs c c1 c2 => cel f (fun i => by unfold P3; omega)) (fun c c1 c2 => cel f (fun i => by unfold P3; omega)), hM.fr (f 149 3 (by unfold P3; omega)) (cel f (fun i => by unfold P3; omega)) (cel f (fun i => by unfold P3; omega))⟩, hF.fr (fun c hc => cel f (fun i => by unfold P3; omega)), hO.fr (cel f (fun i => by unfold P3; omega)) (cel f (fun i => by unfold P3; omega)) (cel f (fun i => by unfold P3; omega)) (f 149 25 (by unfold P3; omega))⟩
/-- both hold v in slot s -/
def SL (t : St) (s : Nat) (v : V4) : Prop := GV v ∧ CS (12 + 24 * s) v t ∧ RN s v.1 v.2.2.1 t ∧ RO s v.1 v.2.2.2 t
theorem INV3.sl {t : St} (h : INV3 t) {s : Nat} (hs : s < 3) : ∃ v, SL t s v := by
  obtain ⟨-, ⟨K, m, hG, hC, hM⟩, -⟩ := h
  have hv := hG.2 m (Nat.le_refl _) s hs
  exact ⟨K m s, hv, hC.1 s hs, hM.2.1.rn hs, hM.2.1.ro hs hv⟩
theorem SL.fr {t u : St} {s : Nat} {v : V4} (h : SL t s v) (hs : s < 3) (f : ∀ c i, P3 c i → u c i = t c i) : SL u s v := by
  obtain ⟨h1, h2, h3, h4⟩ := h
  have e : u 150 = t 150 := cel f (fun i => by unfold P3; omega)
  exact ⟨h1, h2.fr4 (fun c c1 c2 => cel f (fun i => by unfold P3; omega)), h3.fr e, fun i hi => by rw [e]; exact h4 i hi⟩
def BOTH (x : Option (Int32 × St)) (y : St → Option (Int32 × St)) : Prop := Ok x (fun r u => Ok (y u) (fun r2 w => INV3 w ∧ r = r2))
theorem BOTH.no {σ : St} {x : Option (Int32 × St)} {y : St → Option (Int32 × St)} {v : Int32} (hI : INV3 σ) (h1 : x = some (v, σ)) (h2 : y σ = some (v, σ)) : BOTH x y := ⟨v, σ, h1, v, σ, h2, hI, rfl⟩
theorem act3 {σ : St} {K : Nat → Nat → V4} {m : Nat} {x : Option (Int32 × St)} {y : St → Option (Int32 × St)} (hI : INV3 σ) (hM : MST K m σ) (hz : Ok x (fun r u => Ok (y u) (fun r2 w => INV2 w))) (f1 : Fo PA1 σ x) (f2 : ∀ u, Fo PA2 u (y u)) (hx : Pc x (fun r u => ∃ K' m', GK K' m' ∧ CST K' m' u ∧ FA u ∧ ∀ t, MST K m t → Pc (y t) (fun r2 w => r2 = r ∧ MST K' m' w))) : BOTH x y := by
  obtain ⟨r, u, e1, r2, w, e2, hw⟩ := hz
  refine ⟨r, u, e1, r2, w, e2, ?_⟩
  have g1 := f1 r u e1
  have g2 := f2 u r2 w e2
  obtain ⟨K', m', hG, hC, hF, hy⟩ := hx r u e1
  have Mu : MST K m u := hM.fr (g1 149 3 (by unfold PA1; omega)) (cel g1 (fun i => by unfold PA1; omega)) (cel g1 (fun i => by unfold PA1; omega))
  obtain ⟨ha, hM'⟩ := hy u Mu r2 w e2
  refine ⟨⟨hw, ⟨K', m', hG, hC.fr hG.1 (fun s hs c c1 c2 => cel g2 (fun i => by unfold PA2; omega)) (fun c c1 c2 => cel g2 (fun i => by unfold PA2; omega)), hM'⟩, hF.fr (fun c hc => cel g2 (fun i => by unfold PA2; omega)), ?_⟩, ha.symm⟩
  refine hI.2.2.2.fr ?_ ?_ ?_ ?_
  · exact (cel g2 (fun i => by unfold PA2; omega)).trans (cel g1 (fun i => by unfold PA1; omega))
  · exact (cel g2 (fun i => by unfold PA2; omega)).trans (cel g1 (fun i => by unfold PA1; omega))
  · exact (cel g2 (fun i => by unfold PA2; omega)).trans (cel g1 (fun i => by unfold PA1; omega))
  · exact (g2 149 25 (by unfold PA2; omega)).trans (g1 149 25 (by unfold PA1; omega))
theorem CNX.go {K : Nat → Nat → V4} {m s : Nat} {v : V4} {σ u : St} {r : Int32} {y : St → Option (Int32 × St)} (hG : GK K m) (hv : GV v) (h : CNX K m s v u) (hF : FA u) (hy : ∀ K' m', NXT K m s v K' m' → ∀ t, MST K m t → Pc (y t) (fun r2 w => r2 = r ∧ MST K' m' w)) : ∃ K' m', GK K' m' ∧ CST K' m' u ∧ FA u ∧ ∀ t, MST K m t → Pc (y t) (fun r2 w => r2 = r ∧ MST K' m' w) := by
  obtain ⟨K', m', hN, hC⟩ := h
  exact ⟨K', m', hG.nx hv hN, hC, hF, hy K' m' hN⟩
/-! guards -/
theorem netI {s n : Nat} {v0 : Int32} {t : St} {f : Nat → St → Option (Int32 × St)} {Q : Int32 → St → Prop} (hs : s < 3) (hn : n < 10) (h : t (12 + 24 * s) 0 = nI n) (k0 : n = 0 → Q v0 t) (k1 : 1 ≤ n → netAt (12 + 24 * s) = true → Ok (f (12 + 24 * s) t) Q) : Ok (bnd (FX11_netIn (nI s) t) (fun v1 t2 => (Option.elim v1 (some (v0, t2)) (fun x4 => chk (netAt x4) (f x4 t2))))) Q := by
  refine Ok.bq (g_netIn hs hn h) ?_
  by_cases c : n = 0
  · rw [if_pos c]
    exact Ok.ret (k0 c)
  · rw [if_neg c]
    exact Ok.ckT (n_sl hs) (k1 (by omega) (n_sl hs))
theorem net0 {a : Int32} {v0 : Int32} {t : St} {f : Nat → St → Option (Int32 × St)} (h : ¬ IsR 3 a) : bnd (FX11_netIn a t) (fun v1 t2 => (Option.elim v1 (some (v0, t2)) (fun x4 => f x4 t2))) = some (v0, t) := Ok.eq (Ok.bq (g_netIn0 h) (Ok.ret ⟨rfl, rfl⟩))
theorem g_isN1 {s n : Nat} {w : Nat → Nat → Nat} {t : St} (hs : s < 3) (hn : n < 10) (h : RN s n w t) (h1 : 1 ≤ n) : FX12_isNet (nI s) t = some (1, t) := by
  rw [g_isNet hs hn h, if_neg (by omega)]
theorem g_isN0 {s n : Nat} {w : Nat → Nat → Nat} {t : St} (hs : s < 3) (hn : n < 10) (h : RN s n w t) (h1 : n = 0) : FX12_isNet (nI s) t = some (0, t) := by
  rw [g_isNet hs hn h, if_pos h1]
theorem two0 {x n : Nat} {b c : Int32} {t : St} (g : netAt x = true) (hn : n < 10) (h : t x 0 = nI n) (hbc : ¬ (IsR n b ∧ IsR n c ∧ b ≠ c)) : FX5_hasTwo x b c t = some (0, t) := by
  refine Ok.eq ?_
  unfold FX5_hasTwo
  refine Ok.ckT g ?_
  by_cases hb : IsR n b
  · obtain ⟨i, hi, rfl⟩ := hb
    refine Ok.bq (g_has g hn h hi) (Ok.ifF (by decide) ?_)
    by_cases hc : IsR n c
    · obtain ⟨j, hj, rfl⟩ := hc
      have e : nI i = nI j := Classical.byContradiction (fun q => hbc ⟨⟨i, hi, rfl⟩, ⟨j, hj, rfl⟩, q⟩)
      exact Ok.bq (g_has g hn h hj) (Ok.ifF (by decide) (Ok.ifT e (Ok.ret ⟨rfl, rfl⟩)))
    · exact Ok.bq (g_has0 g hn h hc) (Ok.ifT rfl (Ok.ret ⟨rfl, rfl⟩))
  · exact Ok.bq (g_has0 g hn h hb) (Ok.ifT rfl (Ok.ret ⟨rfl, rfl⟩))
theorem twoM0 {s n : Nat} {b c : Int32} {w : Nat → Nat → Nat} {t : St} (hs : s < 3) (hn : n < 10) (h : RN s n w t) (hbc : ¬ (IsR n b ∧ IsR n c ∧ b ≠ c)) : FX12_areTwo (nI s) b c t = some (0, t) := by
  refine Ok.eq ?_
  unfold FX12_areTwo
  by_cases hb : IsR n b
  · obtain ⟨i, hi, rfl⟩ := hb
    refine Ok.bq (g_isPt hs hn h hi) (Ok.ifF (by decide) ?_)
    by_cases hc : IsR n c
    · obtain ⟨j, hj, rfl⟩ := hc
      have e : nI i = nI j := Classical.byContradiction (fun q => hbc ⟨⟨i, hi, rfl⟩, ⟨j, hj, rfl⟩, q⟩)
      exact Ok.bq (g_isPt hs hn h hj) (Ok.ifF (by decide) (Ok.ifT e (Ok.ret ⟨rfl, rfl⟩)))
    · exact Ok.bq (g_isPt0 hs hn h hc) (Ok.ifT rfl (Ok.ret ⟨rfl, rfl⟩))
  · exact Ok.bq (g_isPt0 hs hn h hb) (Ok.ifT rfl (Ok.ret ⟨rfl, rfl⟩))
theorem twoMN {a b c : Int32} {t : St} (h : ¬ IsR 3 a) : FX12_areTwo a b c t = some (0, t) := by
  refine Ok.eq ?_
  unfold FX12_areTwo
  exact Ok.bq (g_isPtN h) (Ok.ifT rfl (Ok.ret ⟨rfl, rfl⟩))
theorem one9 {d : Int32} (h : 1 ≤ d.toInt ∧ d.toInt ≤ 9) : ∃ k, 1 ≤ k ∧ k < 10 ∧ d = nI k := by
  have c : ¬ d < 0 := by
    rw [Int32.lt_iff_toInt_lt, show (0 : Int32).toInt = 0 by decide]
    omega
  obtain ⟨j, hj, rfl⟩ := nI_of c
  rw [nI_toInt hj] at h
  exact ⟨j, by omega, by omega, rfl⟩
theorem z3_swaps {σ : St} (hI : INV3 σ) (a b c : Int32) : BOTH (FX11_swaps a b c σ) (fun u => FX12_swaps a b c u) := by
  obtain ⟨h2, ⟨K, m, hG, hC, hM⟩, hF, hO⟩ := id hI
  rcases r3 (a := a) with ⟨s, hs, rfl⟩ | ha
  · have hv := hG.2 m (Nat.le_refl _) s hs
    have hn : (K m s).1 < 10 := hv.1.1
    have h0 := (hC.1 s hs).1.1
    have hr := hM.2.1.rn hs
    by_cases hb : IsR (K m s).1 b
    · by_cases hc : IsR (K m s).1 c
      · obtain ⟨i, hi, rfl⟩ := hb
        obtain ⟨j, hj, rfl⟩ := hc
        refine act3 hI hM (z_swaps hI.1 _ _ _) (fo_FX11_swaps (P := PA1) _ _ _ (fun c i h => by unfold PA1 at h; omega)) (fun u => fo_FX12_swaps (P := PA2) _ _ _ (fun c i h => by unfold PA2 at h; omega)) ((c_swaps hG hs hC hi hj).pc.mono ?_)
        rintro _ u ⟨rfl, u1, u2⟩
        exact CNX.go (σ := u) hG (hv.vwo (hv.go.swp hi hj)) u1 (hF.af u2 hs) (fun K' m' hN t hMt => (m_swaps hG hs hMt hi hj hN).pc)
      · obtain ⟨i, hi, rfl⟩ := hb
        refine BOTH.no (v := -2) hI ?_ ?_
        · unfold FX11_swaps
          exact Ok.eq (netI hs hn h0 (fun _ => ⟨rfl, rfl⟩) (fun h1 g => Ok.bq (g_has g hn h0 hi) (Ok.ifF (by decide) (Ok.bq (g_has0 g hn h0 hc) (Ok.ifT rfl (Ok.ret ⟨rfl, rfl⟩))))))
        · refine Ok.eq ?_
          unfold FX12_swaps
          exact Ok.bq (g_isPt hs hn hr hi) (Ok.ifF (by decide) (Ok.bq (g_isPt0 hs hn hr hc) (Ok.ifT rfl (Ok.ret ⟨rfl, rfl⟩))))
    · refine BOTH.no (v := -2) hI ?_ ?_
      · unfold FX11_swaps
        exact Ok.eq (netI hs hn h0 (fun _ => ⟨rfl, rfl⟩) (fun h1 g => Ok.bq (g_has0 g hn h0 hb) (Ok.ifT rfl (Ok.ret ⟨rfl, rfl⟩))))
      · refine Ok.eq ?_
        unfold FX12_swaps
        exact Ok.bq (g_isPt0 hs hn hr hb) (Ok.ifT rfl (Ok.ret ⟨rfl, rfl⟩))
  · refine BOTH.no (v := -2) hI ?_ ?_
    · unfold FX11_swaps
      exact net0 ha
    · refine Ok.eq ?_
      unfold FX12_swaps
      exact Ok.bq (g_isPtN ha) (Ok.ifT rfl (Ok.ret ⟨rfl, rfl⟩))
theorem z3_moves {σ : St} (hI : INV3 σ) (a b c : Int32) : BOTH (FX11_moves a b c σ) (fun u => FX12_moves a b c u) := by
  obtain ⟨h2, ⟨K, m, hG, hC, hM⟩, hF, hO⟩ := id hI
  rcases r3 (a := a) with ⟨s, hs, rfl⟩ | ha
  · have hv := hG.2 m (Nat.le_refl _) s hs
    have hn : (K m s).1 < 10 := hv.1.1
    have h0 := (hC.1 s hs).1.1
    have hr := hM.2.1.rn hs
    by_cases hb : IsR (K m s).1 b
    · by_cases hc : IsR (K m s).1 c
      · obtain ⟨i, hi, rfl⟩ := hb
        obtain ⟨j, hj, rfl⟩ := hc
        refine act3 hI hM (z_moves hI.1 _ _ _) (fo_FX11_moves (P := PA1) _ _ _ (fun c i h => by unfold PA1 at h; omega)) (fun u => fo_FX12_moves (P := PA2) _ _ _ (fun c i h => by unfold PA2 at h; omega)) ((c_moves hG hs hC hi hj).pc.mono ?_)
        rintro _ u ⟨rfl, u1, u2⟩
        exact CNX.go (σ := u) hG (hv.vwo (mvo_go hv.go hi hj)) u1 (hF.af u2 hs) (fun K' m' hN t hMt => (m_moves hG hs hMt hi hj hN).pc)
      · obtain ⟨i, hi, rfl⟩ := hb
        refine BOTH.no (v := -2) hI ?_ ?_
        · unfold FX11_moves
          exact Ok.eq (netI hs hn h0 (fun _ => ⟨rfl, rfl⟩) (fun h1 g => Ok.bq (g_has g hn h0 hi) (Ok.ifF (by decide) (Ok.bq (g_has0 g hn h0 hc) (Ok.ifT rfl (Ok.ret ⟨rfl, rfl⟩))))))
        · refine Ok.eq ?_
          unfold FX12_moves
          exact Ok.bq (g_isPt hs hn hr hi) (Ok.ifF (by decide) (Ok.bq (g_isPt0 hs hn hr hc) (Ok.ifT rfl (Ok.ret ⟨rfl, rfl⟩))))
    · refine BOTH.no (v := -2) hI ?_ ?_
      · unfold FX11_moves
        exact Ok.eq (netI hs hn h0 (fun _ => ⟨rfl, rfl⟩) (fun h1 g => Ok.bq (g_has0 g hn h0 hb) (Ok.ifT rfl (Ok.ret ⟨rfl, rfl⟩))))
      · refine Ok.eq ?_
        unfold FX12_moves
        exact Ok.bq (g_isPt0 hs hn hr hb) (Ok.ifT rfl (Ok.ret ⟨rfl, rfl⟩))
  · refine BOTH.no (v := -2) hI ?_ ?_
    · unfold FX11_moves
      exact net0 ha
    · refine Ok.eq ?_
      unfold FX12_moves
      exact Ok.bq (g_isPtN ha) (Ok.ifT rfl (Ok.ret ⟨rfl, rfl⟩))
theorem z3_reverse {σ : St} (hI : INV3 σ) (a : Int32) : BOTH (FX11_reverse a σ) (fun u => FX12_reverse a u) := by
  obtain ⟨h2, ⟨K, m, hG, hC, hM⟩, hF, hO⟩ := id hI
  rcases r3 (a := a) with ⟨s, hs, rfl⟩ | ha
  · have hv := hG.2 m (Nat.le_refl _) s hs
    have hn : (K m s).1 < 10 := hv.1.1
    have h0 := (hC.1 s hs).1.1
    have hr := hM.2.1.rn hs
    by_cases h1 : 1 ≤ (K m s).1
    · refine act3 hI hM (z_reverse hI.1 _) (fo_FX11_reverse (P := PA1) _ (fun c i h => by unfold PA1 at h; omega)) (fun u => fo_FX12_reverse (P := PA2) _ (fun c i h => by unfold PA2 at h; omega)) ((c_reverse hG hs hC h1).pc.mono ?_)
      rintro _ u ⟨rfl, u1, u2⟩
      exact CNX.go (σ := u) hG (hv.vwo (rvo_go hv.go (by omega))) u1 (hF.af u2 hs) (fun K' m' hN t hMt => (m_reverse hG hs hMt h1 hN).pc)
    · refine BOTH.no (v := -2) hI ?_ ?_
      · unfold FX11_reverse
        exact Ok.eq (netI hs hn h0 (fun _ => ⟨rfl, rfl⟩) (fun h g => absurd h h1))
      · refine Ok.eq ?_
        unfold FX12_reverse
        exact Ok.bq (g_isN0 hs hn hr (by omega)) (Ok.ifT rfl (Ok.ret ⟨rfl, rfl⟩))
  · refine BOTH.no (v := -2) hI ?_ ?_
    · unfold FX11_reverse
      exact net0 ha
    · refine Ok.eq ?_
      unfold FX12_reverse
      exact Ok.bq (g_isNet0 ha) (Ok.ifT rfl (Ok.ret ⟨rfl, rfl⟩))
theorem z3_takes {σ : St} (hI : INV3 σ) (a b : Int32) : BOTH (FX11_takes a b σ) (fun u => FX12_takes a b u) := by
  obtain ⟨h2, ⟨K, m, hG, hC, hM⟩, hF, hO⟩ := id hI
  rcases r3 (a := a) with ⟨s, hs, rfl⟩ | ha
  · have hv := hG.2 m (Nat.le_refl _) s hs
    have hn : (K m s).1 < 10 := hv.1.1
    have h0 := (hC.1 s hs).1.1
    have hr := hM.2.1.rn hs
    by_cases h1 : 1 ≤ (K m s).1
    · by_cases hb : IsR 7 b
      · obtain ⟨q, hq, rfl⟩ := hb
        refine act3 hI hM (z_takes hI.1 _ _) (fo_FX11_takes (P := PA1) _ _ (fun c i h => by unfold PA1 at h; omega)) (fun u => fo_FX12_takes (P := PA2) _ _ (fun c i h => by unfold PA2 at h; omega)) ((c_takes hG hs hC hq h1 (hF.1 s hs) hF.2).mono ?_)
        rintro _ u ⟨rfl, u1, uF, uB, u2⟩
        refine CNX.go (σ := u) hG (hv.vwo (trm_go (frw_pfx hv.1.2.1 hn h1))) u1 ⟨fun r hr => ?_, uB⟩ (fun K' m' hN t hMt => m_takes hG hs hMt hq h1 hN)
        by_cases e : r = s
        · rw [e]; exact uF
        · exact (hF.1 r hr).fr (fun c c1 c2 => u2 c (by omega) (by omega))
      · refine BOTH.no (v := -2) hI ?_ ?_
        · unfold FX11_takes
          exact Ok.eq (Ok.bq (g_findingOfM hs hn h0 hb) (Ok.ret ⟨rfl, rfl⟩))
        · refine Ok.eq ?_
          unfold FX12_takes
          exact Ok.bq (g_isN1 hs hn hr h1) (Ok.ifF (by decide) (Ok.bq (g_msM0 hb) (Ok.ifT rfl (Ok.ret ⟨rfl, rfl⟩))))
    · refine BOTH.no (v := -2) hI ?_ ?_
      · unfold FX11_takes
        exact Ok.eq (Ok.bq (g_findingOfN hs (by rw [h0, show (K m s).1 = 0 by omega])) (Ok.ret ⟨rfl, rfl⟩))
      · refine Ok.eq ?_
        unfold FX12_takes
        exact Ok.bq (g_isN0 hs hn hr (by omega)) (Ok.ifT rfl (Ok.ret ⟨rfl, rfl⟩))
  · refine BOTH.no (v := -2) hI ?_ ?_
    · unfold FX11_takes
      exact Ok.eq (Ok.bq (g_findingOf0 ha) (Ok.ret ⟨rfl, rfl⟩))
    · refine Ok.eq ?_
      unfold FX12_takes
      exact Ok.bq (g_isNet0 ha) (Ok.ifT rfl (Ok.ret ⟨rfl, rfl⟩))
theorem z3_polish {σ : St} (hI : INV3 σ) (a b : Int32) : BOTH (FX11_polish a b σ) (fun u => FX12_polish a b u) := by
  obtain ⟨h2, ⟨K, m, hG, hC, hM⟩, hF, hO⟩ := id hI
  rcases r3 (a := a) with ⟨s, hs, rfl⟩ | ha
  · have hv := hG.2 m (Nat.le_refl _) s hs
    have hn : (K m s).1 < 10 := hv.1.1
    have h0 := (hC.1 s hs).1.1
    have hr := hM.2.1.rn hs
    by_cases h1 : 1 ≤ (K m s).1
    · by_cases hb : IsR 7 b
      · obtain ⟨q, hq, rfl⟩ := hb
        refine act3 hI hM (z_polish hI.1 _ _) (fo_FX11_polish (P := PA1) _ _ (fun c i h => by unfold PA1 at h; omega)) (fun u => fo_FX12_polish (P := PA2) _ _ (fun c i h => by unfold PA2 at h; omega)) ((c_polish hG hs hC hq h1).pc.mono ?_)
        rintro _ u ⟨k, v, rfl, p1, p2, u1, u2⟩
        exact CNX.go (σ := u) hG (hv.vwo p2) u1 (hF.af u2 hs) (fun K' m' hN t hMt => m_polish hG hs hMt hq h1 p1 hN)
      · refine BOTH.no (v := -2) hI ?_ ?_
        · unfold FX11_polish
          exact Ok.eq (netI hs hn h0 (fun _ => ⟨rfl, rfl⟩) (fun h1 g => Ok.bq (g_ms0 hb) (Ok.ifT rfl (Ok.ret ⟨rfl, rfl⟩))))
        · refine Ok.eq ?_
          unfold FX12_polish
          exact Ok.bq (g_isN1 hs hn hr h1) (Ok.ifF (by decide) (Ok.bq (g_msM0 hb) (Ok.ifT rfl (Ok.ret ⟨rfl, rfl⟩))))
    · refine BOTH.no (v := -2) hI ?_ ?_
      · unfold FX11_polish
        exact Ok.eq (netI hs hn h0 (fun _ => ⟨rfl, rfl⟩) (fun h g => absurd h h1))
      · refine Ok.eq ?_
        unfold FX12_polish
        exact Ok.bq (g_isN0 hs hn hr (by omega)) (Ok.ifT rfl (Ok.ret ⟨rfl, rfl⟩))
  · refine BOTH.no (v := -2) hI ?_ ?_
    · unfold FX11_polish
      exact net0 ha
    · refine Ok.eq ?_
      unfold FX12_polish
      exact Ok.bq (g_isNet0 ha) (Ok.ifT rfl (Ok.ret ⟨rfl, rfl⟩))
theorem z3_greedy {σ : St} (hI : INV3 σ) (a b : Int32) : BOTH (FX11_greedy a b σ) (fun u => FX12_greedy a b u) := by
  obtain ⟨h2, ⟨K, m, hG, hC, hM⟩, hF, hO⟩ := id hI
  rcases r3 (a := a) with ⟨s, hs, rfl⟩ | ha
  · have hv := hG.2 m (Nat.le_refl _) s hs
    have hn : (K m s).1 < 10 := hv.1.1
    have h0 := (hC.1 s hs).1.1
    have hr := hM.2.1.rn hs
    by_cases h1 : 1 ≤ (K m s).1
    · by_cases hb : IsR 7 b
      · obtain ⟨q, hq, rfl⟩ := hb
        by_cases q2 : q = 2
        · subst q2
          refine BOTH.no (v := -2) hI ?_ ?_
          · unfold FX11_greedy
            exact Ok.eq (netI hs hn h0 (fun _ => ⟨rfl, rfl⟩) (fun h1 g => Ok.bq (g_pr hq) (Ok.ifT rfl (Ok.ret ⟨rfl, rfl⟩))))
          · refine Ok.eq ?_
            unfold FX12_greedy
            exact Ok.bq (g_isN1 hs hn hr h1) (Ok.ifF (by decide) (Ok.bq (g_msM hq) (Ok.ifF (by decide) (Ok.ifT rfl (Ok.ret ⟨rfl, rfl⟩)))))
        · refine act3 hI hM (z_greedy hI.1 _ _) (fo_FX11_greedy (P := PA1) _ _ (fun c i h => by unfold PA1 at h; omega)) (fun u => fo_FX12_greedy (P := PA2) _ _ (fun c i h => by unfold PA2 at h; omega)) ((c_greedy hG hs hC hq q2 h1).pc.mono ?_)
          rintro _ u ⟨rfl, u1, u2⟩
          exact CNX.go (σ := u) hG (hv.vwo (trm_go (gro_pfx (Nat.le_refl _)))) u1 (hF.af u2 hs) (fun K' m' hN t hMt => (m_greedy hG hs hMt hq q2 h1 hN).pc)
      · refine BOTH.no (v := -2) hI ?_ ?_
        · unfold FX11_greedy
          exact Ok.eq (netI hs hn h0 (fun _ => ⟨rfl, rfl⟩) (fun h1 g => Ok.bq (g_pr0 hb) (Ok.ifT rfl (Ok.ret ⟨rfl, rfl⟩))))
        · refine Ok.eq ?_
          unfold FX12_greedy
          exact Ok.bq (g_isN1 hs hn hr h1) (Ok.ifF (by decide) (Ok.bq (g_msM0 hb) (Ok.ifT rfl (Ok.ret ⟨rfl, rfl⟩))))
    · refine BOTH.no (v := -2) hI ?_ ?_
      · unfold FX11_greedy
        exact Ok.eq (netI hs hn h0 (fun _ => ⟨rfl, rfl⟩) (fun h g => absurd h h1))
      · refine Ok.eq ?_
        unfold FX12_greedy
        exact Ok.bq (g_isN0 hs hn hr (by omega)) (Ok.ifT rfl (Ok.ret ⟨rfl, rfl⟩))
  · refine BOTH.no (v := -2) hI ?_ ?_
    · unfold FX11_greedy
      exact net0 ha
    · refine Ok.eq ?_
      unfold FX12_greedy
      exact Ok.bq (g_isNet0 ha) (Ok.ifT rfl (Ok.ret ⟨rfl, rfl⟩))
theorem z3_layers {σ : St} (hI : INV3 σ) (a b : Int32) : BOTH (FX11_layers a b σ) (fun u => FX12_layers a b u) := by
  obtain ⟨h2, ⟨K, m, hG, hC, hM⟩, hF, hO⟩ := id hI
  rcases r3 (a := a) with ⟨s, hs, rfl⟩ | ha
  · have hv := hG.2 m (Nat.le_refl _) s hs
    have hn : (K m s).1 < 10 := hv.1.1
    have h0 := (hC.1 s hs).1.1
    have hr := hM.2.1.rn hs
    by_cases hb : IsR (K m s).1 b
    · obtain ⟨p, hp, rfl⟩ := hb
      refine act3 hI hM (z_layers hI.1 _ _) (fo_FX11_layers (P := PA1) _ _ (fun c i h => by unfold PA1 at h; omega)) (fun u => fo_FX12_layers (P := PA2) _ _ (fun c i h => by unfold PA2 at h; omega)) ((c_layers hG hs hC hp).pc.mono ?_)
      rintro _ u ⟨rfl, u1, u2⟩
      exact CNX.go (σ := u) hG (hv.vwo (trm_go (lyr_pfx hn))) u1 (hF.af u2 hs) (fun K' m' hN t hMt => (m_layers hG hs hMt hp hN).pc)
    · refine BOTH.no (v := -2) hI ?_ ?_
      · unfold FX11_layers
        exact Ok.eq (netI hs hn h0 (fun _ => ⟨rfl, rfl⟩) (fun h1 g => Ok.bq (g_has0 g hn h0 hb) (Ok.ifT rfl (Ok.ret ⟨rfl, rfl⟩))))
      · refine Ok.eq ?_
        unfold FX12_layers
        exact Ok.bq (g_isPt0 hs hn hr hb) (Ok.ifT rfl (Ok.ret ⟨rfl, rfl⟩))
  · refine BOTH.no (v := -2) hI ?_ ?_
    · unfold FX11_layers
      exact net0 ha
    · refine Ok.eq ?_
      unfold FX12_layers
      exact Ok.bq (g_isPtN ha) (Ok.ifT rfl (Ok.ret ⟨rfl, rfl⟩))
theorem z3_cuts {σ : St} (hI : INV3 σ) (a b c : Int32) : BOTH (FX11_cuts a b c σ) (fun u => FX12_cuts a b c u) := by
  obtain ⟨h2, ⟨K, m, hG, hC, hM⟩, hF, hO⟩ := id hI
  rcases r3 (a := a) with ⟨s, hs, rfl⟩ | ha
  · have hv := hG.2 m (Nat.le_refl _) s hs
    have hn : (K m s).1 < 10 := hv.1.1
    have h0 := (hC.1 s hs).1.1
    have hr := hM.2.1.rn hs
    by_cases hbc : IsR (K m s).1 b ∧ IsR (K m s).1 c ∧ b ≠ c
    · obtain ⟨⟨i, hi, rfl⟩, ⟨j, hj, rfl⟩, ne⟩ := hbc
      have hij : i ≠ j := fun q => ne (by rw [q])
      by_cases z : (K m s).2.2.1 i j = 0
      · exact BOTH.no (v := -6) hI (c_cuts0 hG hs hC hi hj hij z) (m_cuts0 hG hs hM hi hj hij z)
      · refine act3 hI hM (z_cuts hI.1 _ _ _) (fo_FX11_cuts (P := PA1) _ _ _ (fun c i h => by unfold PA1 at h; omega)) (fun u => fo_FX12_cuts (P := PA2) _ _ _ (fun c i h => by unfold PA2 at h; omega)) ((c_cuts hG hs hC hi hj hij z).pc.mono ?_)
        rintro _ u ⟨rfl, u1, u2⟩
        exact CNX.go (σ := u) hG (hv.vws hi hj hij (by omega) (by rw [if_neg (c := 0 < 0) (by omega)]; have := hv.2.1; omega)) u1 (hF.af u2 hs) (fun K' m' hN t hMt => (m_cuts hG hs hMt hi hj hij z hN).pc)
    · refine BOTH.no (v := -2) hI ?_ ?_
      · unfold FX11_cuts
        exact Ok.eq (netI hs hn h0 (fun _ => ⟨rfl, rfl⟩) (fun h1 g => Ok.bq (two0 g hn h0 hbc) (Ok.ifT rfl (Ok.ret ⟨rfl, rfl⟩))))
      · refine Ok.eq ?_
        unfold FX12_cuts
        exact Ok.bq (twoM0 hs hn hr hbc) (Ok.ifT rfl (Ok.ret ⟨rfl, rfl⟩))
  · refine BOTH.no (v := -2) hI ?_ ?_
    · unfold FX11_cuts
      exact net0 ha
    · refine Ok.eq ?_
      unfold FX12_cuts
      exact Ok.bq (twoMN ha) (Ok.ifT rfl (Ok.ret ⟨rfl, rfl⟩))
theorem z3_merges {σ : St} (hI : INV3 σ) (a b c : Int32) : BOTH (FX11_merges a b c σ) (fun u => FX12_merges a b c u) := by
  obtain ⟨h2, ⟨K, m, hG, hC, hM⟩, hF, hO⟩ := id hI
  rcases r3 (a := a) with ⟨s, hs, rfl⟩ | ha
  · have hv := hG.2 m (Nat.le_refl _) s hs
    have hn : (K m s).1 < 10 := hv.1.1
    have h0 := (hC.1 s hs).1.1
    have hr := hM.2.1.rn hs
    by_cases hbc : IsR (K m s).1 b ∧ IsR (K m s).1 c ∧ b ≠ c
    · obtain ⟨⟨i, hi, rfl⟩, ⟨j, hj, rfl⟩, ne⟩ := hbc
      have hij : i ≠ j := fun q => ne (by rw [q])
      by_cases z : (K m s).2.2.1 i j = 0
      · exact BOTH.no (v := -6) hI (c_merges0 hG hs hC hi hj hij z) (m_merges0 hG hs hM hi hj hij z)
      · refine act3 hI hM (z_merges hI.1 _ _ _) (fo_FX11_merges (P := PA1) _ _ _ (fun c i h => by unfold PA1 at h; omega)) (fun u => fo_FX12_merges (P := PA2) _ _ _ (fun c i h => by unfold PA2 at h; omega)) ((c_merges hG hs hC hi hj hij z).pc.mono ?_)
        rintro _ u ⟨rfl, gm, u1, u2⟩
        exact CNX.go (σ := u) hG gm u1 (hF.af u2 hs) (fun K' m' hN t hMt => (m_merges hG hs hMt hi hj hij z gm hN).pc)
    · refine BOTH.no (v := -2) hI ?_ ?_
      · unfold FX11_merges
        exact Ok.eq (netI hs hn h0 (fun _ => ⟨rfl, rfl⟩) (fun h1 g => Ok.bq (two0 g hn h0 hbc) (Ok.ifT rfl (Ok.ret ⟨rfl, rfl⟩))))
      · refine Ok.eq ?_
        unfold FX12_merges
        exact Ok.bq (twoM0 hs hn hr hbc) (Ok.ifT rfl (Ok.ret ⟨rfl, rfl⟩))
  · refine BOTH.no (v := -2) hI ?_ ?_
    · unfold FX11_merges
      exact net0 ha
    · refine Ok.eq ?_
      unfold FX12_merges
      exact Ok.bq (twoMN ha) (Ok.ifT rfl (Ok.ret ⟨rfl, rfl⟩))
theorem z3_adds {σ : St} (hI : INV3 σ) (a b c d : Int32) : BOTH (FX11_adds a b c d σ) (fun u => FX12_adds a b c d u) := by
  obtain ⟨h2, ⟨K, m, hG, hC, hM⟩, hF, hO⟩ := id hI
  rcases r3 (a := a) with ⟨s, hs, rfl⟩ | ha
  · have hv := hG.2 m (Nat.le_refl _) s hs
    have hn : (K m s).1 < 10 := hv.1.1
    have h0 := (hC.1 s hs).1.1
    have hr := hM.2.1.rn hs
    by_cases hbc : IsR (K m s).1 b ∧ IsR (K m s).1 c ∧ b ≠ c
    · obtain ⟨⟨i, hi, rfl⟩, ⟨j, hj, rfl⟩, ne⟩ := hbc
      have hij : i ≠ j := fun q => ne (by rw [q])
      by_cases hd : 1 ≤ d.toInt ∧ d.toInt ≤ 9
      · obtain ⟨k, k1, k9, rfl⟩ := one9 hd
        by_cases z : (K m s).2.2.1 i j = 0 ∧ (K m s).2.1 = 30
        · exact BOTH.no (v := -5) hI (c_adds0 hG hs hC hi hj hij k1 k9 z) (m_adds0 hG hs hM hi hj hij k1 k9 z)
        · refine act3 hI hM (z_adds hI.1 _ _ _ _) (fo_FX11_adds (P := PA1) _ _ _ _ (fun c i h => by unfold PA1 at h; omega)) (fun u => fo_FX12_adds (P := PA2) _ _ _ _ (fun c i h => by unfold PA2 at h; omega)) ((c_adds hG hs hC hi hj hij k1 k9 z).pc.mono ?_)
          rintro _ u ⟨rfl, u1, u2⟩
          refine CNX.go (σ := u) hG (hv.vws hi hj hij k9 ?_) u1 (hF.af u2 hs) (fun K' m' hN t hMt => (m_adds hG hs hMt hi hj hij k1 k9 z hN).pc)
          have hp := (gn_set (d := k) hv.1 hi hj hij k9).1
          have hl := hv.2.1
          rw [if_pos (c := 0 < k) (by omega)]
          by_cases c : 0 < (K m s).2.2.1 i j
          · rw [if_pos c]; have := hp c; omega
          · rw [if_neg c]; omega
      · refine BOTH.no (v := -2) hI ?_ ?_
        · unfold FX11_adds
          refine Ok.eq (netI hs hn h0 (fun _ => ⟨rfl, rfl⟩) (fun h1 g => Ok.bq (q_hasTwo g hn h0 hi hj hij) (Ok.ifF (by decide) (Ok.ite (fun _ => Ok.ret ⟨rfl, rfl⟩) (fun c1 => Ok.ifF (fun c2 => hd ?_) (Ok.ret ⟨rfl, rfl⟩))))))
          rw [Int32.lt_iff_toInt_lt, show (1 : Int32).toInt = 1 by decide] at c1
          rw [Int32.le_iff_toInt_le, show (9 : Int32).toInt = 9 by decide] at c2
          omega
        · refine Ok.eq ?_
          unfold FX12_adds
          refine Ok.bq (q_areTwo hs hn hr hi hj hij) (Ok.ifF (by decide) (Ok.bd (fun r u => σ = u ∧ r = 0) (e_in (fun g1 g2 => absurd ?_ hd) (fun _ => ⟨rfl, rfl⟩)) ?_))
          · rw [Int32.toInt_toInt64, show (1 : Int64).toInt = 1 by decide] at g1
            rw [Int32.toInt_toInt64, show (9 : Int64).toInt = 9 by decide] at g2
            exact ⟨g1, g2⟩
          · rintro _ _ ⟨rfl, rfl⟩
            exact Ok.ifT rfl (Ok.ret ⟨rfl, rfl⟩)
    · refine BOTH.no (v := -2) hI ?_ ?_
      · unfold FX11_adds
        exact Ok.eq (netI hs hn h0 (fun _ => ⟨rfl, rfl⟩) (fun h1 g => Ok.bq (two0 g hn h0 hbc) (Ok.ifT rfl (Ok.ret ⟨rfl, rfl⟩))))
      · refine Ok.eq ?_
        unfold FX12_adds
        exact Ok.bq (twoM0 hs hn hr hbc) (Ok.ifT rfl (Ok.ret ⟨rfl, rfl⟩))
  · refine BOTH.no (v := -2) hI ?_ ?_
    · unfold FX11_adds
      exact net0 ha
    · refine Ok.eq ?_
      unfold FX12_adds
      exact Ok.bq (twoMN ha) (Ok.ifT rfl (Ok.ret ⟨rfl, rfl⟩))
theorem z3_drops {σ : St} (hI : INV3 σ) (a : Int32) : BOTH (FX11_drops a σ) (fun u => FX12_drops a u) := by
  obtain ⟨h2, ⟨K, m, hG, hC, hM⟩, hF, hO⟩ := id hI
  rcases r3 (a := a) with ⟨s, hs, rfl⟩ | ha
  · have hv := hG.2 m (Nat.le_refl _) s hs
    have hn : (K m s).1 < 10 := hv.1.1
    have h0 := (hC.1 s hs).1.1
    have hr := hM.2.1.rn hs
    by_cases h1 : 1 ≤ (K m s).1
    · refine act3 hI hM (z_drops hI.1 _) (fo_FX11_drops (P := PA1) _ (fun c i h => by unfold PA1 at h; omega)) (fun u => fo_FX12_drops (P := PA2) _ (fun c i h => by unfold PA2 at h; omega)) ((c_drops hG hs hC h1).pc.mono ?_)
      rintro _ u ⟨rfl, u1, u2⟩
      exact CNX.go (σ := u) hG gv0 u1 (hF.af u2 hs) (fun K' m' hN t hMt => (m_drops hG hs hMt h1 hN).pc)
    · exact BOTH.no (v := 0) hI (c_drops0 hs hC (by omega)) (m_drops0 hG hs hM (by omega))
  · refine BOTH.no (v := -2) hI ?_ ?_
    · refine Ok.eq ?_
      unfold FX11_drops
      exact Ok.bq (g_slot0 ha) (Ok.ifT rfl (Ok.ret ⟨rfl, rfl⟩))
    · refine Ok.eq ?_
      unfold FX12_drops
      exact Ok.bq (g_slotM0 ha) (Ok.ifT rfl (Ok.ret ⟨rfl, rfl⟩))
theorem z3_undo {σ : St} (hI : INV3 σ) : BOTH (FX11_undo σ) (fun u => FX12_undo u) := by
  obtain ⟨h2, ⟨K, m, hG, hC, hM⟩, hF, hO⟩ := id hI
  cases m with
  | zero => exact BOTH.no (v := -1) hI (e_undo0 hC.2.1) (m_undo0 hM.1)
  | succ m =>
    have hm := hG.1
    refine act3 hI hM (z_undo hI.1) (fo_FX11_undo (P := PA1)  (fun c i h => by unfold PA1 at h; omega)) (fun u => fo_FX12_undo (P := PA2)  (fun c i h => by unfold PA2 at h; omega)) ((e_undo hG hC).pc.mono ?_)
    rintro _ u ⟨rfl, u1, u2⟩
    exact ⟨K, m, ⟨by omega, fun j hj => hG.2 j (by omega)⟩, u1, ⟨fun r hr => (hF.1 r hr).fr (fun c c1 c2 => u2 c (fun s hs => by omega) (by omega)), hF.2.fr (fun c c1 c2 => u2 c (fun s hs => by omega) (by omega))⟩, fun t hMt => (m_undo (by omega) hMt).pc⟩
theorem out_told {k : Nat} {bt : Nat → Nat} {σ u : St} {s : Nat} {r : Int32} (hs : s < 3) (h : CT k bt σ) (e : FX11_told (nI s) σ = some (r, u)) : ∀ c, (c = 3 ∨ c = 4) → u c = σ c := by
  have : Pc (FX11_told (nI s) σ) (fun _ u => ∀ c, (c = 3 ∨ c = 4) → u c = σ c) := by
    unfold FX11_told
    refine Pc.bq (g_slot hs) (Pc.ifF (by decide) (Pc.bd _ (e_readAll h).pc ?_))
    intro r t1 hr
    refine PcwrE ?_
    cases e : ptext k bt with
    | inl f =>
      obtain ⟨rfl, -, -, a3⟩ := hr.gl e
      exact Pc.ifT rfl (Pc.ret (fun c hc => by rw [wr_off c (by omega)]; exact a3 c (by omega)))
    | inr v =>
      obtain ⟨rfl, -, -, n1, o1, d1⟩ := hr.gr e
      refine Pc.ifF (by decide) (Pc.ck (fun _ => Pc.ck (fun _ => ?_)))
      rw [el10 hs]
      refine Pc.bd _ (e_copyFrom (t := wr t1 1 1 0) n_141 (n_sl hs) (by omega)).pc ?_
      rintro _ t2 ⟨f2, -⟩
      refine Pc.bd _ (e_copyFrom (t := t2) (n_sl hs) n6 (by omega)).pc ?_
      rintro _ t3 ⟨f3, -, l3, -⟩
      refine Pc.bd _ (fr_noteAct (P := fun c _ => c < 98 ∨ 140 < c) (fun _ _ h => h)).pc ?_
      rintro _ t4 f4
      refine Pc.rdE rfl (Pc.ret (fun c hc => ?_))
      have q4 : t4 c = t3 c := funext (fun i => f4 c i (by omega))
      rw [q4, f3 c (by omega), f2 c (by omega), wr_off c (by omega)]
      exact d1 c (by omega)
  exact this r u e
theorem fo_told_out {k : Nat} {bt : Nat → Nat} {u w : St} {s : Nat} {r : Int32} (hs : s < 3) (h : MT k bt u) (e : FX12_told (nI s) u = some (r, w)) : w 162 = u 162 ∧ w 149 25 = u 149 25 := by
  have : Pc (FX12_told (nI s) u) (fun _ w => w 162 = u 162 ∧ w 149 25 = u 149 25) := by
    unfold FX12_told
    refine Pc.bq (g_slotM hs) (Pc.ifF (by decide) (PcwrE (PcwrE (PcwrE (PcwrE ?_)))))
    have gf : ∀ c, c ≠ 149 → wr (wr (wr (wr u 149 6 0) 149 7 (-1)) 149 12 0) 149 8 0 c = u c := fun c hc => by rw [wr_off c hc, wr_off c hc, wr_off c hc, wr_off c hc]
    have g25 : wr (wr (wr (wr u 149 6 0) 149 7 (-1)) 149 12 0) 149 8 0 149 25 = u 149 25 := by rw [wrn (by decide), wrn (by decide), wrn (by decide), wrn (by decide)]
    have g12 : wr (wr (wr (wr u 149 6 0) 149 7 (-1)) 149 12 0) 149 8 0 149 12 = 0 := by rw [wrn (by decide), wrs]
    have g8 : wr (wr (wr (wr u 149 6 0) 149 7 (-1)) 149 12 0) 149 8 0 149 8 = nI 0 := wrs
    have gM : MT k bt (wr (wr (wr (wr u 149 6 0) 149 7 (-1)) 149 12 0) 149 8 0) := by
      refine ⟨h.1, ?_, fun i hi => ?_⟩
      · rw [wrn (by decide), wrn (by decide), wrn (by decide), wrn (by decide)]; exact h.2.1
      · rw [gf 153 (by decide)]; exact h.2.2 i hi
    generalize wr (wr (wr (wr u 149 6 0) 149 7 (-1)) 149 12 0) 149 8 0 = y at gf g25 g12 g8 gM ⊢
    refine Pc.bd _ m_remembers.pc ?_
    rintro _ y1 ⟨r1, r2⟩
    have M1 : MT k bt y1 := ⟨gM.1, by rw [r1 149 (by decide)]; exact gM.2.1, fun i hi => by rw [r1 153 (by decide)]; exact gM.2.2 i hi⟩
    refine Pc.bd _ (m_next M1 (Nat.zero_le _) (by rw [r1 149 (by decide)]; exact g8)).pc ?_
    rintro _ y2 ⟨R2, K2⟩
    have b2 : y2 149 12 = 0 := by rw [K2.2 12 (by omega), r1 149 (by decide)]; exact g12
    refine Pc.bd _ (m_readsNetX R2 b2 hs).pc ?_
    rintro _ y3 ⟨F3, -⟩
    refine PcwrE ?_
    have z1 : wr y3 149 5 0 162 = u 162 := by rw [wr_off 162 (by decide), F3.1 162 (by decide) (by decide), K2.1 162 (by decide), r1 162 (by decide)]; exact gf 162 (by decide)
    have z2 : wr y3 149 5 0 149 25 = u 149 25 := by rw [wrn (by decide), F3.2 25 (by omega), K2.2 25 (by omega), r1 149 (by decide)]; exact g25
    generalize wr y3 149 5 0 = z at z1 z2 ⊢
    refine Pc.rdE rfl (Pc.ite (fun _ => ?_) (fun _ => ?_))
    · refine Pc.bd _ (fo_FX12_lines (P := fun c i => c = 162 ∨ (c = 149 ∧ i = 25)) _).pc ?_
      rintro v t1 h1
      refine Pc.bd _ (fo_FX12_done (P := fun c i => c = 162 ∨ (c = 149 ∧ i = 25)) _ (fun c i h => by omega)).pc ?_
      rintro v2 t2 h2
      exact Pc.ret ⟨(funext (fun i => (h2 162 i (Or.inl rfl)).trans (h1 162 i (Or.inl rfl)))).trans z1, ((h2 149 25 (Or.inr ⟨rfl, rfl⟩)).trans (h1 149 25 (Or.inr ⟨rfl, rfl⟩))).trans z2⟩
    · refine Pc.bd (fun _ t1 => t1 162 = z 162 ∧ t1 149 25 = z 149 25) ?_ (fun _ t1 h1 => Pc.ret ⟨h1.1.trans z1, h1.2.trans z2⟩)
      refine (Fo.wh (P := fun c _ => c ≠ 150) (fun c s => ?_)).pc.mono (fun _ u hu => ⟨funext (fun i => hu 162 i (by decide)), hu 149 25 (by decide)⟩)
      unfold SX12_told_57
      exact Fo.ite Fo.ret (Fo.ck (fun _ => Fo.rd (fun _ => Fo.ck (fun _ => Fo.wr (fun c i h q => absurd q h) (fun _ => Fo.ret)))))
  exact this r w e
theorem z3_told {σ : St} (hI : INV3 σ) (a : Int32) : BOTH (FX11_told a σ) (fun u => FX12_told a u) := by
  obtain ⟨h2, ⟨K, m, hG, hC, hM⟩, hF, hO⟩ := id hI
  rcases r3 (a := a) with ⟨s, hs, rfl⟩ | ha
  · obtain ⟨r, u, e1, r2, w, e2, hw, hr⟩ := z_told hI.1 (nI s)
    refine ⟨r, u, e1, r2, w, e2, ?_, hr⟩
    obtain ⟨hI1, ⟨k, bt, hCT, hMT⟩, -, -⟩ := h2
    obtain ⟨c1, c2⟩ := c_toldA hG hs hC hCT r u e1
    have gc : GC (wr σ 1 1 0) u := by
      rcases (gX11_told (GC.refl hI1.1)).out e1 with ⟨h, -⟩ | ⟨-, h⟩
      · exact absurd ⟨s, hs, rfl⟩ h
      · exact h
    have pu : PI u := hI1.2.1.al (fun b h _ => by rw [gc.2 b (by omega), wr_off b (by omega)])
    have gm : GM (wr u 149 5 0) w := by
      rcases (nX12_told (σ := u) ⟨gc.1, fun _ _ => rfl, rfl, pu⟩).out e2 with ⟨h, -⟩ | ⟨-, h⟩
      · exact absurd ⟨s, hs, rfl⟩ h
      · exact h
    have g149 : ∀ b, 149 ≤ b → u b = σ b := fun b hb => by rw [gc.2 b (by omega), wr_off b (by omega)]
    have mu : MT k bt u := ⟨hMT.1, by rw [g149 149 (by omega)]; exact hMT.2.1, fun i hi => by rw [g149 153 (by omega)]; exact hMT.2.2 i hi⟩
    have Mu : MST K m u := hM.fr (by rw [g149 149 (by omega)]) (g149 150 (by omega)) (g149 152 (by omega))
    have d := m_toldA hG hs Mu mu r2 w e2
    have fo := fo_told_out hs mu e2
    have wc : ∀ b, b < 149 → w b = u b := fun b hb => by rw [gm.2.1 b (Or.inl hb), wr_off b (by omega)]
    have Fu : FA u := ⟨fun r hr => (hF.1 r hr).fr (fun c k1 k2 => c2 c (by omega) (by omega) (by omega)), hF.2.fr (fun c k1 k2 => c2 c (by omega) (by omega) (by omega))⟩
    have fin : ∀ K' m', GK K' m' → CST K' m' u → MST K' m' w → INV3 w := fun K' m' q1 q2 q3 => by
      refine ⟨hw, ⟨K', m', q1, q2.fr q1.1 (fun s hs c k1 k2 => wc c (by omega)) (fun c k1 k2 => wc c (by omega)), q3⟩, Fu.fr (fun c hc => wc c (by omega)), hO.fr ?_ ?_ ?_ ?_⟩
      · rw [wc 3 (by omega)]; exact out_told hs hCT e1 3 (Or.inl rfl)
      · rw [wc 4 (by omega)]; exact out_told hs hCT e1 4 (Or.inr rfl)
      · rw [fo.1]; exact g149 162 (by omega)
      · rw [fo.2, g149 149 (by omega)]
    cases e : ptext k bt with
    | inl f =>
      rw [e] at c1 d
      exact fin K m hG c1 d
    | inr v =>
      rw [e] at c1 d
      obtain ⟨K', m', hN, hC'⟩ := c1
      exact fin K' m' (hG.nx (ptext_gv e) hN) hC' (d K' m' hN)
  · refine BOTH.no (v := -2) hI ?_ ?_
    · refine Ok.eq ?_
      unfold FX11_told
      exact Ok.bq (g_slot0 ha) (Ok.ifT rfl (Ok.ret ⟨rfl, rfl⟩))
    · refine Ok.eq ?_
      unfold FX12_told
      exact Ok.bq (g_slotM0 ha) (Ok.ifT rfl (Ok.ret ⟨rfl, rfl⟩))
