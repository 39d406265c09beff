/-! a line that is drawn together: both -/
theorem dcn_8 {n : Nat} {w : Nat → Nat → Nat} (hw : WF n w) (hn : n < 9) : dcn n w ≤ 60 := by
  have h : dcn n w ≤ n * 7 := sm_le (f := fun p => cnt (nr w p) 9) (b := 7) (n := n) (fun p hp => by
    have h1 : (nr w p).testBit p = false := by
      rw [nr_bit (by omega), hw.2.2.1]
      exact decide_eq_false (by omega)
    have h2 : cnt (nr w p ||| 2 ^ p) 9 = cnt (nr w p) 9 + (if p < 9 then 1 else 0) := cnt_or h1
    have h3 : nr w p ||| 2 ^ p < 2 ^ 8 := Nat.or_lt_two_pow (Nat.lt_of_lt_of_le (nr_l hw) (Nat.pow_le_pow_right (by decide) (by omega))) (Nat.pow_lt_pow_right (by decide) (by omega))
    have h5 : cnt (nr w p ||| 2 ^ p) 9 = cnt (nr w p ||| 2 ^ p) 8 + (if (nr w p ||| 2 ^ p).testBit 8 = true then 1 else 0) := cnt_succ _ 8
    rw [lt_pow_bit h3 (Nat.le_refl 8), if_neg (by decide)] at h5
    rw [if_pos (by omega)] at h2
    have h6 : cnt (nr w p ||| 2 ^ p) 8 ≤ 8 := cnt_le
    show cnt (nr w p) 9 ≤ 7
    omega)
  omega
section
variable {K K' : Nat → Nat → V4} {m m' s : Nat} {t : St}
theorem c_merges {a b : Nat} (hG : GK K m) (hs : s < 3) (hC : CST K m t) (ha : a < (K m s).1) (hb : b < (K m s).1) (hab : a ≠ b) (h0 : (K m s).2.2.1 a b ≠ 0) : Ok (FX11_merges (nI s) (nI a) (nI b) t) (fun r u => r = nI ((K m s).1 - 1) ∧ GV (vmg (K m s) a b) ∧ CNX K m s (vmg (K m s) a b) u ∧ AF s t u) := by
  have hv := hG.2 m (Nat.le_refl _) s hs
  have hn : (K m s).1 < 10 := hv.1.1
  have hx := hC.1 s hs
  have g := n_sl hs
  have h9 := hv.1.2.1.1 a b
  unfold FX11_merges
  refine Ok.bq (g_netIn hs hn hx.1.1) ?_
  rw [if_neg (c := (K m s).1 = 0) (by omega)]
  refine Ok.ckT g (Ok.bq (q_hasTwo g hn hx.1.1 ha hb hab) (Ok.ifF (by decide) (Ok.bq (q_weightOf hx.1 g (by omega) (by omega)) (Ok.ifF (by rw [nI_q0 (by omega)]; exact h0) (Ok.bd _ (e_kept hG hs hC) ?_)))))
  rintro _ t1 ⟨k1, x1, f1⟩
  refine Ok.bd _ (e_drawTogether x1.1 g hv.1 x1.2 hv.2.2.1 ha hb hab) ?_
  rintro _ t2 ⟨⟨l', c2, G2⟩, o2, f2⟩
  have hH : Nat.max a b < (K m s).1 := Nat.max_lt.mpr ⟨ha, hb⟩
  have el : l' = dcn ((K m s).1 - 1) (mgw (K m s).1 (K m s).2.2.1 (Nat.min a b) (Nat.max a b)) / 2 := by
    have := G2.2.2
    omega
  rw [el] at c2 G2
  have d8 := dcn_8 (n := (K m s).1 - 1) (w := mgw (K m s).1 (K m s).2.2.1 (Nat.min a b) (Nat.max a b)) G2.2.1 (by omega)
  have hvm : GV (vmg (K m s) a b) := ⟨G2, by show dcn _ _ / 2 ≤ 30; omega, (trm_go (mgo_pfx hn hv.2.2.1 hH)).1, (trm_go (mgo_pfx hn hv.2.2.1 hH)).2⟩
  refine Ok.bd _ (c_note (v := vmg (K m s) a b) hG hs hvm hC (fun c c1 c3 => by rw [f2 c (by omega)]; exact f1 c c3) (k1.fr4 (fun c c1 c3 => f2 c (by omega))) ⟨c2, o2⟩) ?_
  rintro _ u ⟨u1, u2, u3⟩
  exact Ok.rdE (x := nI ((K m s).1 - 1)) (by rw [u2 _ (by omega)]; exact c2.1) (Ok.ret ⟨rfl, hvm, u1, u3⟩)
theorem c_merges0 {a b : Nat} (hG : GK K m) (hs : s < 3) (hC : CST K m t) (ha : a < (K m s).1) (hb : b < (K m s).1) (hab : a ≠ b) (h0 : (K m s).2.2.1 a b = 0) : FX11_merges (nI s) (nI a) (nI b) t = some (-6, t) := by
  have hv := hG.2 m (Nat.le_refl _) s hs
  have hn : (K m s).1 < 10 := hv.1.1
  have hx := hC.1 s hs
  have g := n_sl hs
  refine Ok.eq ?_
  unfold FX11_merges
  refine Ok.bq (g_netIn hs hn hx.1.1) ?_
  rw [if_neg (c := (K m s).1 = 0) (by omega)]
  exact Ok.ckT g (Ok.bq (q_hasTwo g hn hx.1.1 ha hb hab) (Ok.ifF (by decide) (Ok.bq (q_weightOf hx.1 g (by omega) (by omega)) (Ok.ifT (by rw [h0]; rfl) (Ok.ret ⟨rfl, rfl⟩)))))
end
/-! the reference's table -/
def ddn (L H p : Nat) : Nat := if p = H then L else dnn H p
theorem ddn_n (L H p : Nat) : (p = H ∧ ddn L H p = L) ∨ (p < H ∧ ddn L H p = p) ∨ (H < p ∧ ddn L H p = p - 1) := by
  unfold ddn dnn
  by_cases c : p = H
  · rw [if_pos c]; exact Or.inl ⟨c, rfl⟩
  · rw [if_neg c]
    by_cases c2 : H ≤ p
    · rw [if_pos c2]; exact Or.inr (Or.inr ⟨by omega, rfl⟩)
    · rw [if_neg c2]; exact Or.inr (Or.inl ⟨by omega, rfl⟩)
theorem sm_pre {n L H a : Nat} {X : Nat → Nat} (hL : L < H) (hH : H < n) (ha : a < n - 1) : sm n (fun p => if ddn L H p = a then X p else 0) = X (upn H a) + (if a = L then X H else 0) := by
  have ua := upn_n H a
  have e : sm n (fun p => if ddn L H p = a then X p else 0) = sm n (fun p => (if p = upn H a then X p else 0) + (if a = L then (if p = H then X p else 0) else 0)) := by
    refine sm_congr (fun p hp => ?_)
    have d := ddn_n L H p
    by_cases c : ddn L H p = a
    · rw [if_pos c]
      by_cases c2 : p = H
      · rw [if_neg (by omega), if_pos (by omega), if_pos c2, Nat.zero_add]
      · rw [if_pos (by omega)]
        by_cases c3 : a = L
        · rw [if_pos c3, if_neg c2]; rfl
        · rw [if_neg c3]; rfl
    · rw [if_neg c, if_neg (by omega)]
      by_cases c3 : a = L
      · rw [if_pos c3, if_neg (by omega)]
      · rw [if_neg c3]
  rw [e, sm_add, sm_pt (f := fun p => if p = upn H a then X p else 0) (j := upn H a) (fun i _ hne => if_neg hne)]
  rw [if_pos (c := upn H a < n) (by omega), if_pos rfl]
  congr 1
  by_cases c3 : a = L
  · rw [if_pos c3]
    have : sm n (fun p => if a = L then (if p = H then X p else 0) else 0) = sm n (fun p => if p = H then X p else 0) := sm_congr (fun p _ => if_pos c3)
    rw [this, sm_pt (f := fun p => if p = H then X p else 0) (j := H) (fun i _ hne => if_neg hne), if_pos hH, if_pos rfl]
  · rw [if_neg c3]
    exact sm_zero (fun p _ => if_neg c3)
def gpq (w : Nat → Nat → Nat) (L H a b p q : Nat) : Nat := if ddn L H p = a then (if ddn L H q = b then w p q else 0) else 0
/-- what is added so far, at the pair p, k -/
def tpk (n : Nat) (w : Nat → Nat → Nat) (L H p k a b : Nat) : Nat := sm p (fun i => sm n (fun j => gpq w L H a b i j)) + sm k (fun j => gpq w L H a b p j)
def jpk (n : Nat) (w : Nat → Nat → Nat) (L H p k a b : Nat) : Nat := if a = b then 0 else Nat.min 9 (tpk n w L H p k a b)
theorem jpk_9 {n L H p k a b : Nat} {w : Nat → Nat → Nat} : jpk n w L H p k a b ≤ 9 := by
  unfold jpk
  split
  · omega
  · exact Nat.min_le_left _ _
theorem jpk_0 {n L H a b : Nat} {w : Nat → Nat → Nat} : jpk n w L H 0 0 a b = 0 := by
  unfold jpk
  split
  · rfl
  · exact Nat.min_eq_right (Nat.zero_le _)
theorem jpk_r {n L H p : Nat} {w : Nat → Nat → Nat} : jpk n w L H p n = jpk n w L H (p + 1) 0 := by
  funext a b
  rfl
theorem jpk_s {n L H p k : Nat} {w : Nat → Nat → Nat} : jpk n w L H p (k + 1) (ddn L H p) (ddn L H k) = if ddn L H p = ddn L H k then 0 else Nat.min 9 (jpk n w L H p k (ddn L H p) (ddn L H k) + w p k) := by
  have e : tpk n w L H p (k + 1) (ddn L H p) (ddn L H k) = tpk n w L H p k (ddn L H p) (ddn L H k) + w p k := by
    have g : gpq w L H (ddn L H p) (ddn L H k) p k = w p k := by unfold gpq; rw [if_pos rfl, if_pos rfl]
    show _ + (sm k _ + gpq w L H (ddn L H p) (ddn L H k) p k) = _
    rw [g]
    exact (Nat.add_assoc _ _ _).symm
  unfold jpk
  by_cases c : ddn L H p = ddn L H k
  · rw [if_pos c, if_pos c]
  · rw [if_neg c, if_neg c, if_neg c, e]
    generalize tpk n w L H p k (ddn L H p) (ddn L H k) = X
    generalize w p k = y
    by_cases c1 : X ≤ 9
    · rw [show Nat.min 9 X = X from Nat.min_eq_right c1]
    · rw [show Nat.min 9 X = 9 from Nat.min_eq_left (by omega), show Nat.min 9 (X + y) = 9 from Nat.min_eq_left (by omega), show Nat.min 9 (9 + y) = 9 from Nat.min_eq_left (by omega)]
theorem jpk_n {n L H p k a b : Nat} {w : Nat → Nat → Nat} (h : ¬ (a = ddn L H p ∧ b = ddn L H k)) : jpk n w L H p (k + 1) a b = jpk n w L H p k a b := by
  have e : tpk n w L H p (k + 1) a b = tpk n w L H p k a b := by
    have g : gpq w L H a b p k = 0 := by
      unfold gpq
      by_cases c1 : ddn L H p = a
      · rw [if_pos c1]
        by_cases c2 : ddn L H k = b
        · exact absurd ⟨c1.symm, c2.symm⟩ h
        · rw [if_neg c2]
      · rw [if_neg c1]
    show _ + (sm k _ + gpq w L H a b p k) = _
    rw [g]
    rfl
  unfold jpk
  rw [e]
theorem jpk_f {n L H : Nat} {w : Nat → Nat → Nat} (hw : WF n w) (hL : L < H) (hH : H < n) : jpk n w L H n 0 = mgw n w L H := by
  funext a b
  unfold jpk mgw
  by_cases c : a = b
  · rw [if_pos c, if_neg (by omega)]
  · rw [if_neg c]
    by_cases c2 : a < n - 1 ∧ b < n - 1 ∧ a ≠ b
    · rw [if_pos c2]
      congr 1
      have e1 : tpk n w L H n 0 a b = sm n (fun i => if ddn L H i = a then w i (upn H b) + (if b = L then w i H else 0) else 0) := by
        show sm n _ + 0 = _
        rw [Nat.add_zero]
        refine sm_congr (fun i _ => ?_)
        by_cases c3 : ddn L H i = a
        · rw [if_pos c3, ← sm_pre (X := w i) hL hH c2.2.1]
          refine sm_congr (fun j _ => ?_)
          unfold gpq
          rw [if_pos c3]
        · rw [if_neg c3]
          refine sm_zero (fun j _ => ?_)
          unfold gpq
          rw [if_neg c3]
      rw [e1, sm_pre (X := fun i => w i (upn H b) + (if b = L then w i H else 0)) hL hH c2.1]
      by_cases c4 : a = L
      · rw [if_pos c4, if_pos c4, if_neg (c := b = L) (by omega), if_neg (c := b = L) (by omega)]
        rfl
      · rw [if_neg c4, if_neg c4]
    · rw [if_neg c2]
      have e1 : tpk n w L H n 0 a b = 0 := by
        show sm n _ + 0 = _
        rw [Nat.add_zero]
        refine sm_zero (fun i hi => sm_zero (fun j hj => ?_))
        unfold gpq
        have d1 := ddn_n L H i
        have d2 := ddn_n L H j
        by_cases c3 : ddn L H i = a
        · rw [if_pos c3, if_neg (by omega)]
        · rw [if_neg c3]
      rw [e1]
      exact Nat.min_eq_right (Nat.zero_le _)
theorem ddn_e {L H p : Nat} {s : St} (hp : p < 1000) (hH : H < 1000) : (if nI p = nI H then some (nI L, s) else (if nI p ≤ nI H then some (nI p, s) else some (nI p - 1, s))) = some (nI (ddn L H p), s) := by
  have d := ddn_n L H p
  by_cases c : p = H
  · rw [if_pos (by rw [c]), show ddn L H p = L by omega]
  · rw [if_neg (by rw [nI_eqP (by omega) (by omega)]; exact c)]
    by_cases c2 : p ≤ H
    · rw [if_pos (by rw [nI_leP (by omega) (by omega)]; exact c2), show ddn L H p = p by omega]
    · rw [if_neg (by rw [nI_leP (by omega) (by omega)]; exact c2), nI_s1 (by omega), show ddn L H p = p - 1 by omega]
def JT (j : Nat → Nat → Nat) (t : St) : Prop := ∀ a b, a < 9 → b < 9 → t 161 (9 * a + b) = nI (j a b)
theorem m_mg1 {t : St} {w1 w4 w5 w6 : Int32} : Ok (wh (SX12_merges_54 w1 w4 w5 w6) (0 : Int32) t) (fun _ u => (∀ c, c ≠ 161 → u c = t c) ∧ JT (fun _ _ => 0) u) := by
  refine (Ok.count 81 (fun j c s => c = nI j ∧ (∀ c, c ≠ 161 → s c = t c) ∧ ∀ k, k < j → s 161 k = nI 0) (Q := fun _ u => (∀ c, c ≠ 161 → u c = t c) ∧ ∀ k, k < 81 → u 161 k = nI 0) ?_ ?_ (Nat.zero_le _) ⟨rfl, fun _ _ => rfl, fun k hk => by omega⟩).mono (fun _ u h => ⟨h.1, fun a b ha hb => h.2 _ (by omega)⟩)
  · rintro j c s hj ⟨rfl, sf, s1⟩
    unfold SX12_merges_54
    refine Ok.ifF (by rw [li_81, nI_leP (by omega) (by omega)]; omega) (Ok.ckT (inb_n hj (by omega)) (OkwrE (Ok.ret ⟨nI_1 j, fun c hc => by rw [wr_off c hc]; exact sf c hc, fun k hk => ?_⟩)))
    rw [nI_cl (by omega)]
    by_cases e : k = j
    · subst e; rw [wrs]; rfl
    · rw [wrn e]; exact s1 k (by omega)
  · rintro c s ⟨rfl, sf, s1⟩
    unfold SX12_merges_54
    exact Ok.ifT (by rw [li_81, nI_leP (by omega) (by omega)]; omega) (Ok.ret ⟨sf, s1⟩)
theorem m_mg2 {s n L H p : Nat} {w : Nat → Nat → Nat} {t : St} (h : RN s n w t) (hs : s < 3) (hw : WF n w) (hn : n < 10) (hL : L < H) (hH : H < n) (hp : p < n) (hJ : JT (jpk n w L H p 0) t) : Ok (wh (SX12_merges_88 (nI s) (nI L) (nI H) (nI n) (nI p)) (0 : Int32) t) (fun _ u => (∀ c, c ≠ 161 → u c = t c) ∧ JT (jpk n w L H (p + 1) 0) u) := by
  refine Ok.count n (fun k c s' => c = nI k ∧ (∀ c, c ≠ 161 → s' c = t c) ∧ JT (jpk n w L H p k) s') ?_ ?_ (Nat.zero_le _) ⟨rfl, fun _ _ => rfl, hJ⟩
  · rintro k c s' hk ⟨rfl, sf, s1⟩
    unfold SX12_merges_88
    have dp := ddn_n L H p
    have dk := ddn_n L H k
    have p9 : ddn L H p < 9 := by omega
    have k9 : ddn L H k < 9 := by omega
    have wk9 := hw.1 p k
    have j9 := jpk_9 (n := n) (w := w) (L := L) (H := H) (p := p) (k := k) (a := ddn L H p) (b := ddn L H k)
    refine Ok.ifF (by rw [nI_leP (by omega) (by omega)]; omega) ?_
    refine Ok.bq (ddn_e (by omega) (by omega)) (Ok.bq (ddn_e (by omega) (by omega)) (Ok.bd (fun r u => s' = u ∧ r = nI (jpk n w L H p (k + 1) (ddn L H p) (ddn L H k))) ?_ ?_))
    · rw [jpk_s]
      refine Ok.cv (nI_eqP (by omega) (by omega)) (Ok.ite (fun c => Ok.ret ⟨rfl, by rw [if_pos c]; rfl⟩) (fun c => ?_))
      rw [if_neg c, li_9, nI_mul, nI_add]
      refine Ok.ckT (inb_n (by omega) (by omega)) ?_
      rw [nI_cl (by omega)]
      refine Ok.rdE (s1 _ _ p9 k9) (Ok.bq (q_weight (h.fr (sf 150 (by decide))) hs (by omega) (by omega)) (Ok.ret ⟨rfl, ?_⟩))
      rw [nI_add, mnI_n (by omega) (by omega)]
    · rintro _ _ ⟨rfl, rfl⟩
      rw [li_9, nI_mul, nI_add]
      refine Ok.ckT (inb_n (by omega) (by omega)) (OkwrE (Ok.ret ⟨nI_1 k, fun c hc => by rw [wr_off c hc]; exact sf c hc, fun a b ha hb => ?_⟩))
      rw [nI_cl (by omega)]
      by_cases e : a = ddn L H p ∧ b = ddn L H k
      · rw [e.1, e.2, wrs]
      · rw [wrn (by omega), jpk_n e]
        exact s1 a b ha hb
  · rintro c s' ⟨rfl, sf, s1⟩
    unfold SX12_merges_88
    rw [jpk_r] at s1
    exact Ok.ifT (by rw [nI_leP (by omega) (by omega)]; omega) (Ok.ret ⟨sf, s1⟩)
theorem m_mg3 {s n L H : Nat} {w : Nat → Nat → Nat} {t : St} (h : RN s n w t) (hs : s < 3) (hw : WF n w) (hn : n < 10) (hL : L < H) (hH : H < n) (hJ : JT (fun _ _ => 0) t) : Ok (wh (SX12_merges_78 (nI s) (nI L) (nI H) (nI n)) (0 : Int32) t) (fun _ u => (∀ c, c ≠ 161 → u c = t c) ∧ JT (mgw n w L H) u) := by
  refine Ok.count n (fun p c s' => c = nI p ∧ (∀ c, c ≠ 161 → s' c = t c) ∧ JT (jpk n w L H p 0) s') ?_ ?_ (Nat.zero_le _) ⟨rfl, fun _ _ => rfl, fun a b ha hb => by rw [jpk_0]; exact hJ a b ha hb⟩
  · rintro p c s' hp ⟨rfl, sf, s1⟩
    unfold SX12_merges_78
    refine Ok.ifF (by rw [nI_leP (by omega) (by omega)]; omega) (Ok.bd _ (m_mg2 (h.fr (sf 150 (by decide))) hs hw hn hL hH hp s1) ?_)
    rintro _ u ⟨u1, u2⟩
    exact Ok.ret ⟨nI_1 p, fun c hc => by rw [u1 c hc]; exact sf c hc, u2⟩
  · rintro c s' ⟨rfl, sf, s1⟩
    unfold SX12_merges_78
    rw [jpk_f hw hL hH] at s1
    exact Ok.ifT (by rw [nI_leP (by omega) (by omega)]; omega) (Ok.ret ⟨sf, s1⟩)
theorem m_mg4 {s n H : Nat} {o : Nat → Nat} {t : St} (hs : s < 3) (hn : n < 10) (ho : RO s n o t) (hP : PFX n n o) (hH : H < n) : Ok (wh (SX12_merges_223 (nI s) (nI H) (nI n)) ((0 : Int32), (0 : Int32)) t) (fun _ u => (∀ c, c ≠ 154 → u c = t c) ∧ MO (n - 1) (mgo n o H) u) := by
  obtain ⟨p1, p2, p3⟩ := plc_in hn hP hH
  refine Ok.count n (fun i c s' => c = (nI (flc (plc n o H) i), nI i) ∧ (∀ c, c ≠ 154 → s' c = t c) ∧ ∀ k, k < flc (plc n o H) i → s' 154 k = nI (mgo n o H k)) ?_ ?_ (Nat.zero_le _) ⟨by unfold flc; rw [if_pos (Nat.zero_le _)]; rfl, fun _ _ => rfl, fun k hk => by have := flc_n (plc n o H) 0; omega⟩
  · rintro i c s' hi ⟨rfl, sf, s1⟩
    unfold SX12_merges_223
    dsimp only
    have hf := flc_n (plc n o H) i
    have hf1 := flc_n (plc n o H) (i + 1)
    have o9 := hP.1 i hi
    have ho' : RO s n o s' := fun i hi => by rw [sf 150 (by decide)]; exact ho i hi
    refine Ok.ifF (by rw [nI_leP (by omega) (by omega)]; omega) (Ok.bq (q_at ho' hs hn hi) (Ok.bd (fun r u => r = nI (flc (plc n o H) (i + 1)) ∧ (∀ c, c ≠ 154 → u c = t c) ∧ ∀ k, k < flc (plc n o H) (i + 1) → u 154 k = nI (mgo n o H k)) ?_ ?_))
    · refine Ok.cv (nI_eqP (by omega) (by omega)) (Ok.ite (fun c => Ok.ret ?_) (fun c => ?_))
      · have := (p3 i hi).mp c
        have e : flc (plc n o H) (i + 1) = flc (plc n o H) i := by omega
        rw [e]
        exact ⟨rfl, sf, s1⟩
      · have hne : i ≠ plc n o H := fun q => c ((p3 i hi).mpr q)
        have e : flc (plc n o H) (i + 1) = flc (plc n o H) i + 1 := by omega
        have d := ddn_e (L := 0) (H := H) (p := o i) (s := s') (by omega) (by omega)
        rw [if_neg (by rw [nI_eqP (by omega) (by omega)]; exact c)] at d
        rw [d, e]
        refine Ok.bq rfl (Ok.ckT (inb_n (by omega) (by omega)) ?_)
        rw [nI_cl (by omega)]
        refine OkwrE (Ok.ret ⟨nI_1 _, fun c hc => by rw [wr_off c hc]; exact sf c hc, fun k hk => ?_⟩)
        by_cases q : k = flc (plc n o H) i
        · rw [q, wrs]
          unfold mgo ddn
          have := upn_n (plc n o H) (flc (plc n o H) i)
          rw [show upn (plc n o H) (flc (plc n o H) i) = i by omega, if_neg c]
        · rw [wrn q]
          exact s1 k (by omega)
    · rintro _ u ⟨rfl, u1, u2⟩
      exact Ok.ret ⟨by rw [nI_1], u1, u2⟩
  · rintro c s' ⟨rfl, sf, s1⟩
    unfold SX12_merges_223
    dsimp only
    have hf := flc_n (plc n o H) n
    exact Ok.ifT (by rw [nI_leP (by omega) (by omega)]; omega) (Ok.ret ⟨sf, fun k hk => s1 k (by omega)⟩)
section
variable {K K' : Nat → Nat → V4} {m m' s : Nat} {t : St}
theorem m_merges {a b : Nat} (hG : GK K m) (hs : s < 3) (hM : MST K m t) (ha : a < (K m s).1) (hb : b < (K m s).1) (hab : a ≠ b) (h0 : (K m s).2.2.1 a b ≠ 0) (hvm : GV (vmg (K m s) a b)) (hN : NXT K m s (vmg (K m s) a b) K' m') : Ok (FX12_merges (nI s) (nI a) (nI b) t) (fun r u => r = nI ((K m s).1 - 1) ∧ MST K' m' u) := by
  have hv := hG.2 m (Nat.le_refl _) s hs
  have hn : (K m s).1 < 10 := hv.1.1
  have hw := hv.1.2.1
  have hr := hM.2.1.rn hs
  have hro := hM.2.1.ro hs hv
  have h9 := hw.1 a b
  have hLH : Nat.min a b < Nat.max a b := by
    rcases (show a < b ∨ b < a by omega) with c | c
    · rw [show Nat.min a b = a from Nat.min_eq_left (by omega), show Nat.max a b = b from Nat.max_eq_right (by omega)]; exact c
    · rw [show Nat.min a b = b from Nat.min_eq_right (by omega), show Nat.max a b = a from Nat.max_eq_left (by omega)]; exact c
  have hH : Nat.max a b < (K m s).1 := Nat.max_lt.mpr ⟨ha, hb⟩
  have hne : vmg (K m s) a b ≠ K m s := fun q => by
    have : (K m s).1 - 1 = (K m s).1 := congrArg (fun v : V4 => v.1) q
    omega
  unfold FX12_merges
  refine Ok.bq (q_areTwo hs hn hr ha hb hab) (Ok.ifF (by decide) (Ok.bq (q_weight hr hs (by omega) (by omega)) (Ok.ifF (by rw [nI_q0 (by omega)]; exact h0) (Ok.bq (q_points hr hs) (Ok.bd _ m_remembers ?_)))))
  rintro _ t1 ⟨r1, r2⟩
  rw [mnI_n (by omega) (by omega), mxI_n (by omega) (by omega)]
  refine Ok.bd _ m_mg1 ?_
  rintro _ t2 ⟨f2, j2⟩
  refine Ok.bd _ (m_mg3 (hr.fr (by rw [f2 150 (by decide), r1 150 (by decide)])) hs hw hn hLH hH j2) ?_
  rintro _ t3 ⟨f3, j3⟩
  have e3 : t3 150 = t 150 := by rw [f3 150 (by decide), f2 150 (by decide), r1 150 (by decide)]
  refine Ok.bd _ (m_mg4 (o := (K m s).2.2.2) hs hn (fun i hi => by rw [e3]; exact hro i hi) hv.2.2.1 hH) ?_
  rintro _ t4 ⟨f4, o4⟩
  refine Ok.bd _ (xX12_empties hs) ?_
  rintro _ t5 e5
  have f5 : ∀ c, c ≠ 150 → t5 c = t4 c := fun c hc => by rw [e5, stp_off hc]
  have z5 : ∀ k, 91 * s ≤ k → k < 91 * s + 91 → t5 150 k = 0 := fun k k1 k2 => by rw [e5, stp_at, if_pos ⟨k1, k2⟩]
  have g5 : ∀ j, (j < 91 * s ∨ 91 * s + 91 ≤ j) → t5 150 j = t 150 j := fun j hj => by rw [e5, stp_at, if_neg (by omega), f4 150 (by decide), e3]
  clear e5
  rw [li_91, nI_mul]
  refine Ok.ckT (inb_n (by omega) (by omega)) (OkwrE ?_)
  rw [nI_cl (by omega), nI_s1 (by omega)]
  refine Ok.bd (fun _ u => (∀ c, c ≠ 150 → u c = t5 c) ∧ u 150 (91 * s) = nI ((K m s).1 - 1) ∧ (∀ k, k < 81 → u 150 (91 * s + 1 + k) = t5 161 k) ∧ ∀ j, (j < 91 * s ∨ 91 * s + 82 ≤ j) → u 150 j = t5 150 j) ?_ ?_
  · refine Ok.count 81 (fun j c u => c = nI j ∧ (∀ c, c ≠ 150 → u c = t5 c) ∧ u 150 (91 * s) = nI ((K m s).1 - 1) ∧ (∀ k, k < j → u 150 (91 * s + 1 + k) = t5 161 k) ∧ ∀ j, (j < 91 * s ∨ 91 * s + 82 ≤ j) → u 150 j = t5 150 j) ?_ ?_ (Nat.zero_le _) ⟨rfl, fun c hc => wr_off c hc, wrs, fun k hk => by omega, fun j hj => wrn (by omega)⟩
    · rintro j c u hj ⟨rfl, uf, u0, u1, u2⟩
      unfold SX12_merges_299
      refine Ok.ifF (by rw [li_81, nI_leP (by omega) (by omega)]; omega) (Ok.ckT (inb_n hj (by omega)) ?_)
      rw [nI_cl (by omega)]
      refine Ok.rdE (x := t5 161 j) (by rw [uf 161 (by decide)]) ?_
      rw [li_91, nI_mul, nI_1, nI_add]
      refine Ok.ckT (inb_n (by omega) (by omega)) ?_
      rw [nI_cl (by omega)]
      refine OkwrE (Ok.ret ⟨nI_1 j, fun c hc => by rw [wr_off c hc]; exact uf c hc, by rw [wrn (by omega)]; exact u0, fun k hk => ?_, fun i hi => by rw [wrn (by omega)]; exact u2 i hi⟩)
      by_cases e : k = j
      · subst e; rw [wrs]
      · rw [wrn (by omega)]; exact u1 k (by omega)
    · rintro c u ⟨rfl, uf, u0, u1, u2⟩
      unfold SX12_merges_299
      exact Ok.ifT (by rw [li_81, nI_leP (by omega) (by omega)]; omega) (Ok.ret ⟨uf, u0, u1, u2⟩)
  · rintro _ t6 ⟨f6, a6, b6, c6⟩
    refine Ok.bd (fun _ u => (∀ c, c ≠ 150 → u c = t5 c) ∧ (∀ i, i < (K m s).1 - 1 → u 150 (91 * s + 82 + i) = nI (mgo (K m s).1 (K m s).2.2.2 (Nat.max a b) i)) ∧ ∀ j, (j < 91 * s + 82 ∨ 91 * s + 82 + ((K m s).1 - 1) ≤ j) → u 150 j = t6 150 j) ?_ ?_
    · refine Ok.count ((K m s).1 - 1) (fun j c u => c = nI j ∧ (∀ c, c ≠ 150 → u c = t5 c) ∧ (∀ i, i < j → u 150 (91 * s + 82 + i) = nI (mgo (K m s).1 (K m s).2.2.2 (Nat.max a b) i)) ∧ ∀ j, (j < 91 * s + 82 ∨ 91 * s + 82 + ((K m s).1 - 1) ≤ j) → u 150 j = t6 150 j) ?_ ?_ (Nat.zero_le _) ⟨rfl, f6, fun i hi => by omega, fun _ _ => rfl⟩
      · rintro j c u hj ⟨rfl, uf, u1, u2⟩
        unfold SX12_merges_336
        rw [nI_s1 (by omega)]
        refine Ok.ifF (by rw [nI_leP (by omega) (by omega)]; omega) (Ok.ckT (inb_n (by omega) (by omega)) ?_)
        rw [nI_cl (by omega)]
        refine Ok.rdE (x := nI (mgo (K m s).1 (K m s).2.2.2 (Nat.max a b) j)) (by rw [uf 154 (by decide), f5 154 (by decide)]; exact o4 j hj) (Ok.bd _ (m_puts (Q := fun _ v => v = wr u 150 (91 * s + 82 + j) (nI (mgo (K m s).1 (K m s).2.2.2 (Nat.max a b) j))) hs (by omega) rfl) ?_)
        rintro _ _ rfl
        refine Ok.ret ⟨nI_1 j, fun c hc => by rw [wr_off c hc]; exact uf c hc, fun i hi => ?_, fun i hi => by rw [wrn (by omega)]; exact u2 i hi⟩
        by_cases e : i = j
        · subst e; rw [wrs]
        · rw [wrn (by omega)]; exact u1 i (by omega)
      · rintro c u ⟨rfl, uf, u1, u2⟩
        unfold SX12_merges_336
        rw [nI_s1 (by omega)]
        exact Ok.ifT (by rw [nI_leP (by omega) (by omega)]; omega) (Ok.ret ⟨uf, u1, u2⟩)
    · rintro _ t7 ⟨f7, a7, c7⟩
      have w1 : ∀ c, c ≠ 154 → c ≠ 161 → c ≠ 150 → t7 c = t1 c := fun c k1 k2 k3 => by rw [f7 c k3, f5 c k3, f4 c k1, f3 c k2, f2 c k2]
      have h150 : RA 150 0 (upA (K m) s (vmg (K m s) a b)) t7 := by
        refine hM.2.1.up hs ⟨?_, fun p q hp hq => ?_⟩ (fun i hi => ?_) hvm (fun j hj => ?_)
        · rw [c7 _ (by omega)]; exact a6
        · rw [c7 _ (by omega)]
          have := b6 (9 * p + q) (by omega)
          rw [show 91 * s + 1 + (9 * p + q) = 91 * s + 1 + 9 * p + q by omega] at this
          rw [this, f5 161 (by decide), f4 161 (by decide)]
          exact j3 p q hp hq
        · show _ = nI (if i < (K m s).1 - 1 then trm ((K m s).1 - 1) (mgo (K m s).1 (K m s).2.2.2 (Nat.max a b)) i else 0)
          by_cases c : i < (K m s).1 - 1
          · rw [if_pos c, trm_in c]; exact a7 i c
          · rw [if_neg c, c7 _ (by omega), c6 _ (by omega), z5 _ (by omega) (by omega)]
            rfl
        · rw [c7 _ (by omega), c6 _ (by omega)]; exact g5 j hj
      refine Ok.bd (fun r u => r = nI ((K m s).1 - 1) ∧ MST K' m' u) ?_ (fun _ _ hu => Ok.ret hu)
      refine (m_keeps (K := K) (m := m) (A := upA (K m) s (vmg (K m s) a b)) (a := nI ((K m s).1 - 1)) hG.1 (by rw [w1 149 (by decide) (by decide) (by decide), r1 149 (by decide)]; exact hM.1) (fun k hk' => ?_) (fun j hj => (hM.2.2 j hj).fr (fun k _ => by rw [w1 152 (by decide) (by decide) (by decide), r1 152 (by decide)]))).mono ?_
      · rw [w1 151 (by decide) (by decide) (by decide), Nat.zero_add, r2 k hk']
        have := hM.2.1 k hk'
        rw [Nat.zero_add] at this
        exact this
      · rintro r u ⟨rfl, u1, u2, u3, u4⟩
        rcases hN with ⟨q, -⟩ | ⟨-, rfl, rfl⟩
        · exact absurd q hne
        · refine ⟨rfl, u1, ?_, u2⟩
          rw [kpu_cur]
          exact h150.fr (fun k _ => by rw [u3 150 (by decide) (by decide)])
theorem m_merges0 {a b : Nat} (hG : GK K m) (hs : s < 3) (hM : MST K m t) (ha : a < (K m s).1) (hb : b < (K m s).1) (hab : a ≠ b) (h0 : (K m s).2.2.1 a b = 0) : FX12_merges (nI s) (nI a) (nI b) t = some (-6, t) := by
  have hv := hG.2 m (Nat.le_refl _) s hs
  have hn : (K m s).1 < 10 := hv.1.1
  have hr := hM.2.1.rn hs
  refine Ok.eq ?_
  unfold FX12_merges
  exact Ok.bq (q_areTwo hs hn hr ha hb hab) (Ok.ifF (by decide) (Ok.bq (q_weight hr hs (by omega) (by omega)) (Ok.ifT (by rw [h0]; rfl) (Ok.ret ⟨rfl, rfl⟩))))
end
