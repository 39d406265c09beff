/-! points changed over, moved, turned round -/
def swp (o : Nat → Nat) (i j : Nat) : Nat → Nat := fun k => if k = j then o i else if k = i then o j else o k
theorem amk_bit {o : Nat → Nat} {q : Nat} : ∀ {n : Nat}, (amk o n).testBit q = true ↔ ∃ k, k < n ∧ o k = q
  | 0 => by
    show (0 : Nat).testBit q = true ↔ _
    rw [Nat.zero_testBit]
    exact ⟨fun h => (by cases h), fun ⟨k, hk, _⟩ => by omega⟩
  | n + 1 => by
    show (amk o n ||| 2 ^ o n).testBit q = true ↔ _
    rw [or_b, amk_bit, pow_bit, decide_eq_true_eq]
    constructor
    · rintro (⟨k, a, b⟩ | h)
      · exact ⟨k, by omega, b⟩
      · exact ⟨n, by omega, h⟩
    · rintro ⟨k, a, b⟩
      by_cases e : k = n
      · subst e; exact Or.inr b
      · exact Or.inl ⟨k, by omega, b⟩
theorem amk_lt2 {n : Nat} {o : Nat → Nat} : ∀ {i : Nat}, (∀ k, k < i → o k < n) → amk o i < 2 ^ n
  | 0, _ => Nat.two_pow_pos n
  | i + 1, h => Nat.or_lt_two_pow (amk_lt2 (fun k hk => h k (by omega))) (Nat.pow_lt_pow_right (by omega) (h i (by omega)))
/-- a row whose points are those of another -/
theorem pfx_perm {n : Nat} {o o' : Nat → Nat} (h : PFX n n o) (h1 : ∀ k, k < n → o' k < n) (h2 : ∀ k, k < n → ∃ j, j < n ∧ o' j = o k) : PFX n n o' := by
  refine ⟨h1, amk_lt2 h1, ?_⟩
  have a : cnt (amk o n) n ≤ cnt (amk o' n) n := cnt_mn (fun q hq => by
    obtain ⟨k, hk, rfl⟩ := amk_bit.mp hq
    obtain ⟨j, hj, e⟩ := h2 k hk
    exact amk_bit.mpr ⟨j, hj, e⟩)
  have b : cnt (amk o' n) n ≤ n := cnt_le
  have c := h.2.2
  omega
def GO (n : Nat) (o : Nat → Nat) : Prop := PFX n n o ∧ ∀ i, n ≤ i → o i = 0
theorem GO.swp {n : Nat} {o : Nat → Nat} (h : GO n o) {i j : Nat} (hi : i < n) (hj : j < n) : GO n (swp o i j) := by
  refine ⟨pfx_perm h.1 (fun k hk => ?_) (fun k hk => ?_), fun k hk => ?_⟩
  · show (if k = j then o i else if k = i then o j else o k) < n
    split
    · exact h.1.1 i hi
    · split
      · exact h.1.1 j hj
      · exact h.1.1 k hk
  · by_cases e1 : k = i
    · exact ⟨j, hj, by show (if j = j then o i else _) = o k; rw [if_pos rfl, e1]⟩
    · by_cases e2 : k = j
      · refine ⟨i, hi, ?_⟩
        show (if i = j then o i else if i = i then o j else o i) = o k
        by_cases e3 : i = j
        · rw [if_pos e3, e2, e3]
        · rw [if_neg e3, if_pos rfl, e2]
      · exact ⟨k, hk, by show (if k = j then o i else if k = i then o j else o k) = o k; rw [if_neg e2, if_neg e1]⟩
  · show (if k = j then o i else if k = i then o j else o k) = 0
    rw [if_neg (by omega), if_neg (by omega)]
    exact h.2 k hk
theorem swp_b {o : Nat → Nat} {i j : Nat} : swp o i j j = o i := if_pos rfl
theorem GV.go {v : V4} (h : GV v) : GO v.1 v.2.2.2 := ⟨h.2.2.1, h.2.2.2⟩
theorem GV.vwo {v : V4} (h : GV v) {o : Nat → Nat} (ho : GO v.1 o) : GV (v.1, v.2.1, v.2.2.1, o) := ⟨h.1, h.2.1, ho.1, ho.2⟩
theorem GO.lt {n : Nat} {o : Nat → Nat} (h : GO n o) (hn : n < 10) (i : Nat) : o i < 9 := by
  by_cases c : i < n
  · have := h.1.1 i c; omega
  · rw [h.2 i (by omega)]; omega
theorem e_changeOver {x n i j : Nat} {o : Nat → Nat} {t : St} (g : netAt x = true) (hn : n < 10) (h : CO x n o t) (hi : i < n) (hj : j < n) : Ok (FX5_changeOver x (nI i) (nI j) t) (fun _ u => (∀ c, c ≠ x + 2 → u c = t c) ∧ CO x n (swp o i j) u) := by
  unfold FX5_changeOver
  refine Ok.ckT g (Ok.ckT (inb_n (by omega) (by omega)) ?_)
  rw [nI_cl (by omega), nI_cl (by omega)]
  refine Ok.rdE (h i hi) (Ok.ckT (inb_n (by omega) (by omega)) (Ok.rdE (h j hj) (Ok.ckT (inb_n (by omega) (by omega)) (OkwrE (Ok.ckT (inb_n (by omega) (by omega)) (OkwrE (Ok.ret ⟨fun c hc => by rw [wr_off c hc, wr_off c hc], fun k hk => ?_⟩)))))))
  show _ = nI (if k = j then o i else if k = i then o j else o k)
  by_cases e1 : k = j
  · subst e1; rw [wrs, if_pos rfl]
  · rw [wrn e1, if_neg e1]
    by_cases e2 : k = i
    · subst e2; rw [wrs, if_pos rfl]
    · rw [wrn e2, if_neg e2]; exact h k hk
theorem m_exch {n i j : Nat} {o : Nat → Nat} {t : St} (hn : n < 10) (h : MO n o t) (hi : i < n) (hj : j < n) : Ok (FX12_exchanges (nI i) (nI j) t) (fun _ u => (∀ c, c ≠ 154 → u c = t c) ∧ MO n (swp o i j) u) := by
  unfold FX12_exchanges
  refine Ok.ckT (inb_n (by omega) (by omega)) ?_
  rw [nI_cl (by omega), nI_cl (by omega)]
  refine Ok.rdE (h i hi) (Ok.ckT (inb_n (by omega) (by omega)) (Ok.rdE (h j hj) (Ok.ckT (inb_n (by omega) (by omega)) (OkwrE (Ok.ckT (inb_n (by omega) (by omega)) (OkwrE (Ok.ret ⟨fun c hc => by rw [wr_off c hc, wr_off c hc], fun k hk => ?_⟩)))))))
  show _ = nI (if k = j then o i else if k = i then o j else o k)
  by_cases e1 : k = j
  · subst e1; rw [wrs, if_pos rfl]
  · rw [wrn e1, if_neg e1]
    by_cases e2 : k = i
    · subst e2; rw [wrs, if_pos rfl]
    · rw [wrn e2, if_neg e2]; exact h k hk
theorem m_laysRow {s n : Nat} {w : Nat → Nat → Nat} {o : Nat → Nat} {t : St} (hs : s < 3) (hn : n < 10) (h : RN s n w t) (ho : RO s n o t) : Ok (FX12_laysRow (nI s) t) (fun _ u => (∀ c, c ≠ 154 → u c = t c) ∧ MO n o u) := by
  unfold FX12_laysRow
  refine Ok.bd (fun _ u => (∀ c, c ≠ 154 → u c = t c) ∧ MO n o u) ?_ (fun _ u hu => Ok.ret hu)
  refine Ok.count n (fun j c s' => c = nI j ∧ (∀ c, c ≠ 154 → s' c = t c) ∧ ∀ k, k < j → s' 154 k = nI (o k)) ?_ ?_ (Nat.zero_le _) ⟨rfl, fun _ _ => rfl, fun k hk => by omega⟩
  · rintro j c s' hj ⟨rfl, sf, s1⟩
    unfold SX12_laysRow_2
    have e150 : s' 150 = t 150 := sf 150 (by decide)
    refine Ok.bq (q_points (h.fr e150) hs) (Ok.ifF (by rw [nI_leP (by omega) (by omega)]; omega) (Ok.bq (q_at (o := o) (n := n) (fun i hi => by rw [e150]; exact ho i hi) hs hn hj) (Ok.ckT (inb_n (by omega) (by omega)) (OkwrE (Ok.ret ⟨nI_1 j, fun c hc => by rw [wr_off c hc]; exact sf c hc, fun k hk => ?_⟩)))))
    rw [nI_cl (by omega)]
    by_cases e : k = j
    · subst e; rw [wrs]
    · rw [wrn e]; exact s1 k (by omega)
  · rintro c s' ⟨rfl, sf, s1⟩
    unfold SX12_laysRow_2
    exact Ok.bq (q_points (h.fr (sf 150 (by decide))) hs) (Ok.ifT (by rw [nI_leP (by omega) (by omega)]; omega) (Ok.ret ⟨sf, s1⟩))
/-- what an act of the class on slot s may change -/
def AF (s : Nat) (t u : St) : Prop := ∀ c, (c < 12 + 24 * s ∨ 12 + 24 * s + 3 < c) → (c < 98 ∨ 144 < c) → u c = t c
/-- slot s becomes v -/
def CNX (K : Nat → Nat → V4) (m s : Nat) (v : V4) (u : St) : Prop := ∃ K' m', NXT K m s v K' m' ∧ CST K' m' u
theorem c_note {K : Nat → Nat → V4} {m s : Nat} {v : V4} {t t2 : St} (hG : GK K m) (hs : s < 3) (hv : GV v) (hC : CST K m t) (f : ∀ c, (c < 12 + 24 * s ∨ 12 + 24 * s + 3 < c) → (c < 141 ∨ 144 < c) → t2 c = t c) (h141 : CS 141 (K m s) t2) (hx : CS (12 + 24 * s) v t2) : Ok (FX11_noteAct (nI s) t2) (fun _ u => CNX K m s v u ∧ (∀ c, (c < 98 ∨ 140 < c) → u c = t2 c) ∧ AF s t u) := by
  refine (e_noteAct hG hs hv h141 hx (fun r hr hrs => (hC.1 r hr).fr4 (fun c c1 c2 => f c (by omega) (by omega))) (hC.2.fr hG.1 (fun c c1 c2 => f c (by omega) (by omega)))).mono ?_
  rintro _ u ⟨u1, u2⟩
  exact ⟨u1, u2, fun c c1 c2 => by rw [u2 c (by omega)]; exact f c c1 (by omega)⟩
theorem e_kept {K : Nat → Nat → V4} {m s : Nat} {t : St} (hG : GK K m) (hs : s < 3) (hC : CST K m t) : Ok (FX5_copyFrom 141 (12 + 24 * s) t) (fun _ u => CS 141 (K m s) u ∧ CS (12 + 24 * s) (K m s) u ∧ ∀ c, (c < 141 ∨ 144 < c) → u c = t c) := by
  refine (e_copyFrom n_141 (n_sl hs) (by omega)).mono ?_
  rintro _ u ⟨f1, a0, a1, a2, a4, a3⟩
  exact ⟨(hC.1 s hs).cp (hG.2 m (Nat.le_refl _) s hs).1.1 a0 a1 a2 a4 a3, (hC.1 s hs).fr4 (fun c c1 c2 => f1 c (by omega)), fun c hc => f1 c (by omega)⟩
def vwo (v : V4) (o : Nat → Nat) : V4 := (v.1, v.2.1, v.2.2.1, o)
theorem CS.vwo {x : Nat} {v : V4} {o : Nat → Nat} {t u : St} (h : CS x v t) (f : ∀ c, c ≠ x + 2 → u c = t c) (ho : CO x v.1 o u) : CS x (vwo v o) u := ⟨h.1.fr (f _ (by omega)) (f _ (by omega)) (f _ (by omega)), ho⟩
section
variable {K K' : Nat → Nat → V4} {m m' s : Nat} {t : St}
theorem c_swaps (hG : GK K m) (hs : s < 3) (hC : CST K m t) {i j : Nat} (hi : i < (K m s).1) (hj : j < (K m s).1) : Ok (FX11_swaps (nI s) (nI i) (nI j) t) (fun r u => r = nI ((K m s).2.2.2 i) ∧ CNX K m s (vwo (K m s) (swp (K m s).2.2.2 i j)) u ∧ AF s t u) := by
  have hv := hG.2 m (Nat.le_refl _) s hs
  have hn := hv.1.1
  have hx := hC.1 s hs
  have g := n_sl hs
  unfold FX11_swaps
  refine Ok.bq (g_netIn hs hn hx.1.1) ?_
  rw [if_neg (c := (K m s).1 = 0) (by omega)]
  refine Ok.ckT g (Ok.bq (g_has g hn hx.1.1 hi) (Ok.ifF (by decide) (Ok.bq (g_has g hn hx.1.1 hj) (Ok.ifF (by decide) (Ok.bd _ (e_kept hG hs hC) ?_)))))
  rintro _ t1 ⟨k1, x1, f1⟩
  refine Ok.bd _ (e_changeOver g hn x1.2 hi hj) ?_
  rintro _ t2 ⟨f2, o2⟩
  refine Ok.bd _ (c_note (v := vwo (K m s) (swp (K m s).2.2.2 i j)) hG hs (hv.vwo (hv.go.swp hi hj)) hC (fun c c1 c2 => by rw [f2 c (by omega)]; exact f1 c c2) (k1.fr4 (fun c c1 c2 => f2 c (by omega))) (x1.vwo f2 o2)) ?_
  rintro _ u ⟨u1, u2, u3⟩
  refine Ok.ckT (inb_n (by omega) (by omega)) (Ok.rdE (x := nI ((K m s).2.2.2 i)) ?_ (Ok.ret ⟨rfl, u1, u3⟩))
  rw [nI_cl (by omega), u2 143 (by omega), f2 143 (by omega)]
  exact k1.2 i hi
theorem m_swaps (hG : GK K m) (hs : s < 3) (hM : MST K m t) {i j : Nat} (hi : i < (K m s).1) (hj : j < (K m s).1) (hN : NXT K m s (vwo (K m s) (swp (K m s).2.2.2 i j)) K' m') : Ok (FX12_swaps (nI s) (nI i) (nI j) t) (fun r u => r = nI ((K m s).2.2.2 i) ∧ MST K' m' u) := by
  have hv := hG.2 m (Nat.le_refl _) s hs
  have hn := hv.1.1
  have h1 := hM.2.1.rn hs
  have h2 := hM.2.1.ro hs hv
  unfold FX12_swaps
  refine Ok.bq (g_isPt hs hn h1 hi) (Ok.ifF (by decide) (Ok.bq (g_isPt hs hn h1 hj) (Ok.ifF (by decide) (Ok.bq (q_at h2 hs hn hi) (Ok.bd _ (m_laysRow hs hn h1 h2) ?_)))))
  rintro _ t1 ⟨f1, o1⟩
  refine Ok.bd _ (m_exch hn o1 hi hj) ?_
  rintro _ t2 ⟨f2, o2⟩
  have M2 : MST K m t2 := hM.fr (by rw [f2 149 (by decide), f1 149 (by decide)]) (by rw [f2 150 (by decide), f1 150 (by decide)]) (by rw [f2 152 (by decide), f1 152 (by decide)])
  refine Ok.bd _ (m_takesRow hG hs M2 (hv.vwo (hv.go.swp hi hj)) hN o2) ?_
  rintro _ u ⟨-, u1, -⟩
  exact Ok.ret ⟨rfl, u1⟩
end
def mvU (o : Nat → Nat) (f : Nat) : Nat → Nat → Nat
  | 0 => o
  | k + 1 => swp (mvU o f k) (f + k) (f + k + 1)
def mvD (o : Nat → Nat) (f : Nat) : Nat → Nat → Nat
  | 0 => o
  | k + 1 => swp (mvD o f k) (f - k) (f - k - 1)
def mvo (o : Nat → Nat) (f g : Nat) : Nat → Nat := if g ≤ f then mvD o f (f - g) else mvU o f (g - f)
theorem mvU_go {n : Nat} {o : Nat → Nat} (h : GO n o) {f : Nat} : ∀ {k : Nat}, f + k < n → GO n (mvU o f k)
  | 0, _ => h
  | k + 1, hk => (mvU_go h (k := k) (by omega)).swp (by omega) (by omega)
theorem mvD_go {n : Nat} {o : Nat → Nat} (h : GO n o) {f : Nat} (hf : f < n) : ∀ {k : Nat}, GO n (mvD o f k)
  | 0 => h
  | k + 1 => (mvD_go h hf (k := k)).swp (by omega) (by omega)
theorem mvo_go {n : Nat} {o : Nat → Nat} (h : GO n o) {f g : Nat} (hf : f < n) (hg : g < n) : GO n (mvo o f g) := by
  unfold mvo
  split
  · exact mvD_go h hf
  · exact mvU_go h (by omega)
theorem mvo_at {o : Nat → Nat} {f g : Nat} : mvo o f g g = o f := by
  have hU : ∀ k, mvU o f k (f + k) = o f := by
    intro k
    induction k with
    | zero => rfl
    | succ k ih => exact swp_b.trans ih
  have hD : ∀ k, k ≤ f → mvD o f k (f - k) = o f := by
    intro k
    induction k with
    | zero => intro _; rfl
    | succ k ih =>
      intro hk
      have : swp (mvD o f k) (f - k) (f - k - 1) (f - k - 1) = mvD o f k (f - k) := swp_b
      rw [show f - (k + 1) = f - k - 1 by omega]
      exact this.trans (ih (by omega))
  unfold mvo
  by_cases c : g ≤ f
  · rw [if_pos c]
    have := hD (f - g) (by omega)
    rw [show f - (f - g) = g by omega] at this
    exact this
  · rw [if_neg c]
    have := hU (g - f)
    rw [show f + (g - f) = g by omega] at this
    exact this
theorem e_shift {x n f g : Nat} {o : Nat → Nat} {t : St} (gx : netAt x = true) (hn : n < 10) (h : CO x n o t) (hf : f < n) (hg : g < n) : Ok (FX5_shift x (nI f) (nI g) t) (fun _ u => (∀ c, c ≠ x + 2 → u c = t c) ∧ CO x n (mvo o f g) u) := by
  unfold FX5_shift
  by_cases c : g ≤ f
  · refine Ok.ckT gx (Ok.bq (a := ()) (t := t) (wh_last (Ok.eq ?_)) ?_)
    · unfold SX5_shift_2
      exact Ok.ifT (by rw [nI_leP (by omega) (by omega)]; exact c) (Ok.ret ⟨rfl, rfl⟩)
    · refine Ok.bd (fun _ u => (∀ c, c ≠ x + 2 → u c = t c) ∧ CO x n (mvo o f g) u) ?_ (fun _ u hu => Ok.ret hu)
      refine Ok.count (f - g) (fun j d s => d = nI (f - j) ∧ (∀ c, c ≠ x + 2 → s c = t c) ∧ CO x n (mvD o f j) s) ?_ ?_ (Nat.zero_le _) ⟨rfl, fun _ _ => rfl, h⟩
      · rintro j d s hj ⟨rfl, sf, s1⟩
        unfold SX5_shift_23
        rw [nI_s1 (by omega)]
        refine Ok.ifF (by rw [nI_leP (by omega) (by omega)]; omega) (Ok.bd _ (e_changeOver gx hn s1 (by omega) (by omega)) ?_)
        rintro _ u ⟨uf, u1⟩
        exact Ok.ret ⟨by rw [nI_m1 (by omega), show f - j - 1 = f - (j + 1) by omega], fun c hc => by rw [uf c hc]; exact sf c hc, u1⟩
      · rintro d s ⟨rfl, sf, s1⟩
        unfold SX5_shift_23
        refine Ok.ifT (by rw [nI_leP (by omega) (by omega)]; omega) (Ok.ret ⟨sf, ?_⟩)
        unfold mvo
        rw [if_pos c]
        exact s1
  · refine Ok.ckT gx (Ok.bd (fun _ u => (∀ c, c ≠ x + 2 → u c = t c) ∧ CO x n (mvo o f g) u) ?_ ?_)
    · refine Ok.count (g - f) (fun j d s => d = nI (f + j) ∧ (∀ c, c ≠ x + 2 → s c = t c) ∧ CO x n (mvU o f j) s) ?_ ?_ (Nat.zero_le _) ⟨rfl, fun _ _ => rfl, h⟩
      · rintro j d s hj ⟨rfl, sf, s1⟩
        unfold SX5_shift_2
        rw [nI_1]
        refine Ok.ifF (by rw [nI_leP (by omega) (by omega)]; omega) (Ok.bd _ (e_changeOver gx hn s1 (by omega) (by omega)) ?_)
        rintro _ u ⟨uf, u1⟩
        exact Ok.ret ⟨by rw [show f + (j + 1) = f + j + 1 by omega], fun c hc => by rw [uf c hc]; exact sf c hc, u1⟩
      · rintro d s ⟨rfl, sf, s1⟩
        unfold SX5_shift_2
        refine Ok.ifT (by rw [nI_leP (by omega) (by omega)]; omega) (Ok.ret ⟨sf, ?_⟩)
        unfold mvo
        rw [if_neg c]
        exact s1
    · rintro _ u hu
      refine Ok.bq (a := ()) (t := u) (wh_last (Ok.eq ?_)) (Ok.ret hu)
      unfold SX5_shift_23
      exact Ok.ifT (by rw [nI_leP (by omega) (by omega)]; omega) (Ok.ret ⟨rfl, rfl⟩)
def rvo (n : Nat) (o : Nat → Nat) : Nat → Nat → Nat
  | 0 => o
  | k + 1 => swp (rvo n o k) k (n - 1 - k)
theorem rvo_go {n : Nat} {o : Nat → Nat} (h : GO n o) : ∀ {k : Nat}, 2 * k ≤ n → GO n (rvo n o k)
  | 0, _ => h
  | k + 1, hk => (rvo_go h (k := k) (by omega)).swp (by omega) (by omega)
theorem rvc_all : ∀ n, n < 10 → 1 ≤ n → ∀ k, k < 6 → decide (nI n - 1 - nI k ≤ nI k) = decide (n ≤ 2 * k + 1) := by decide +kernel
theorem rvc {n k : Nat} (hn : n < 10) (h1 : 1 ≤ n) (hk : k < 6) : (nI n - 1 - nI k ≤ nI k) = (n ≤ 2 * k + 1) := by
  have := rvc_all n hn h1 k hk
  exact propext ⟨fun h => of_decide_eq_true (by rw [← this]; exact decide_eq_true h), fun h => of_decide_eq_true (by rw [this]; exact decide_eq_true h)⟩
theorem e_turnRound {x n : Nat} {o : Nat → Nat} {t : St} (gx : netAt x = true) (hn : n < 10) (h1 : 1 ≤ n) (h0 : t x 0 = nI n) (h : CO x n o t) : Ok (FX5_turnRound x t) (fun _ u => (∀ c, c ≠ x + 2 → u c = t c) ∧ CO x n (rvo n o (n / 2)) u) := by
  unfold FX5_turnRound
  refine Ok.ckT gx (Ok.bd (fun _ u => (∀ c, c ≠ x + 2 → u c = t c) ∧ CO x n (rvo n o (n / 2)) u) ?_ (fun _ u hu => Ok.ret hu))
  refine Ok.count (n / 2) (fun j d s => d = nI j ∧ (∀ c, c ≠ x + 2 → s c = t c) ∧ CO x n (rvo n o j) s) ?_ ?_ (Nat.zero_le _) ⟨rfl, fun _ _ => rfl, h⟩
  · rintro j d s hj ⟨rfl, sf, s1⟩
    unfold SX5_turnRound_2
    have e0 : s x 0 = nI n := by rw [sf x (by omega)]; exact h0
    refine Ok.rdE e0 (Ok.ifF (by rw [rvc hn h1 (by omega)]; omega) (Ok.rdE e0 ?_))
    rw [nI_s1 h1, nI_sub (by omega)]
    refine Ok.bd _ (e_changeOver gx hn s1 (by omega) (by omega)) ?_
    rintro _ u ⟨uf, u1⟩
    exact Ok.ret ⟨nI_1 j, fun c hc => by rw [uf c hc]; exact sf c hc, u1⟩
  · rintro d s ⟨rfl, sf, s1⟩
    unfold SX5_turnRound_2
    have e0 : s x 0 = nI n := by rw [sf x (by omega)]; exact h0
    exact Ok.rdE e0 (Ok.ifT (by rw [rvc hn h1 (by omega)]; omega) (Ok.ret ⟨sf, s1⟩))
section
variable {K K' : Nat → Nat → V4} {m m' s : Nat} {t : St}
theorem c_moves (hG : GK K m) (hs : s < 3) (hC : CST K m t) {i j : Nat} (hi : i < (K m s).1) (hj : j < (K m s).1) : Ok (FX11_moves (nI s) (nI i) (nI j) t) (fun r u => r = nI ((K m s).2.2.2 i) ∧ CNX K m s (vwo (K m s) (mvo (K m s).2.2.2 i j)) u ∧ AF s t u) := by
  have hv := hG.2 m (Nat.le_refl _) s hs
  have hn := hv.1.1
  have hx := hC.1 s hs
  have g := n_sl hs
  unfold FX11_moves
  refine Ok.bq (g_netIn hs hn hx.1.1) ?_
  rw [if_neg (c := (K m s).1 = 0) (by omega)]
  refine Ok.ckT g (Ok.bq (g_has g hn hx.1.1 hi) (Ok.ifF (by decide) (Ok.bq (g_has g hn hx.1.1 hj) (Ok.ifF (by decide) (Ok.bd _ (e_kept hG hs hC) ?_)))))
  rintro _ t1 ⟨k1, x1, f1⟩
  refine Ok.bd _ (e_shift g hn x1.2 hi hj) ?_
  rintro _ t2 ⟨f2, o2⟩
  refine Ok.bd _ (c_note (v := vwo (K m s) (mvo (K m s).2.2.2 i j)) hG hs (hv.vwo (mvo_go hv.go hi hj)) hC (fun c c1 c2 => by rw [f2 c (by omega)]; exact f1 c c2) (k1.fr4 (fun c c1 c2 => f2 c (by omega))) (x1.vwo f2 o2)) ?_
  rintro _ u ⟨u1, u2, u3⟩
  refine Ok.ckT (inb_n (by omega) (by omega)) (Ok.rdE (x := nI ((K m s).2.2.2 i)) ?_ (Ok.ret ⟨rfl, u1, u3⟩))
  rw [nI_cl (by omega), u2 143 (by omega), f2 143 (by omega)]
  exact k1.2 i hi
theorem c_reverse (hG : GK K m) (hs : s < 3) (hC : CST K m t) (h1 : 1 ≤ (K m s).1) : Ok (FX11_reverse (nI s) t) (fun r u => r = nI (rvo (K m s).1 (K m s).2.2.2 ((K m s).1 / 2) 0) ∧ CNX K m s (vwo (K m s) (rvo (K m s).1 (K m s).2.2.2 ((K m s).1 / 2))) u ∧ AF s t u) := by
  have hv := hG.2 m (Nat.le_refl _) s hs
  have hn := hv.1.1
  have hx := hC.1 s hs
  have g := n_sl hs
  unfold FX11_reverse
  refine Ok.bq (g_netIn hs hn hx.1.1) ?_
  rw [if_neg (c := (K m s).1 = 0) (by omega)]
  refine Ok.ckT g (Ok.bd _ (e_kept hG hs hC) ?_)
  rintro _ t1 ⟨k1, x1, f1⟩
  refine Ok.bd _ (e_turnRound g hn h1 x1.1.1 x1.2) ?_
  rintro _ t2 ⟨f2, o2⟩
  refine Ok.bd _ (c_note (v := vwo (K m s) (rvo (K m s).1 (K m s).2.2.2 ((K m s).1 / 2))) hG hs (hv.vwo (rvo_go hv.go (by omega))) hC (fun c c1 c2 => by rw [f2 c (by omega)]; exact f1 c c2) (k1.fr4 (fun c c1 c2 => f2 c (by omega))) (x1.vwo f2 o2)) ?_
  rintro _ u ⟨u1, u2, u3⟩
  refine Ok.ckT (by decide) (Ok.rdE (x := nI (rvo (K m s).1 (K m s).2.2.2 ((K m s).1 / 2) 0)) ?_ (Ok.ret ⟨rfl, u1, u3⟩))
  rw [cl0, u2 _ (by omega)]
  exact o2 0 (by omega)
theorem m_moves (hG : GK K m) (hs : s < 3) (hM : MST K m t) {i j : Nat} (hi : i < (K m s).1) (hj : j < (K m s).1) (hN : NXT K m s (vwo (K m s) (mvo (K m s).2.2.2 i j)) K' m') : Ok (FX12_moves (nI s) (nI i) (nI j) t) (fun r u => r = nI ((K m s).2.2.2 i) ∧ MST K' m' u) := by
  have hv := hG.2 m (Nat.le_refl _) s hs
  have hn := hv.1.1
  have h1 := hM.2.1.rn hs
  have h2 := hM.2.1.ro hs hv
  unfold FX12_moves
  refine Ok.bq (g_isPt hs hn h1 hi) (Ok.ifF (by decide) (Ok.bq (g_isPt hs hn h1 hj) (Ok.ifF (by decide) (Ok.bd _ (m_laysRow hs hn h1 h2) ?_))))
  rintro _ t1 ⟨f1, o1⟩
  refine Ok.bd (fun r u => t1 = u ∧ r = if j ≤ i then (-1 : Int32) else 1) (Ok.cv (nI_leP (by omega) (by omega)) (Ok.ite (fun c => Ok.ret ⟨rfl, by rw [if_pos c]⟩) (fun c => Ok.ret ⟨rfl, by rw [if_neg c]⟩))) ?_
  rintro _ _ ⟨rfl, rfl⟩
  refine Ok.bd (fun _ u => (∀ c, c ≠ 154 → u c = t1 c) ∧ MO (K m s).1 (mvo (K m s).2.2.2 i j) u) ?_ ?_
  · unfold mvo
    by_cases c : j ≤ i
    · rw [if_pos c, if_pos c]
      refine Ok.count (i - j) (fun q d s' => d = nI (i - q) ∧ (∀ c, c ≠ 154 → s' c = t1 c) ∧ MO (K m s).1 (mvD (K m s).2.2.2 i q) s') ?_ ?_ (Nat.zero_le _) ⟨rfl, fun _ _ => rfl, o1⟩
      · rintro q d s' hq ⟨rfl, sf, s1⟩
        unfold SX12_moves_41
        rw [nI_m1 (by omega)]
        refine Ok.ifF (by rw [nI_eqP (by omega) (by omega)]; omega) (Ok.bd _ (m_exch hn s1 (by omega) (by omega)) ?_)
        rintro _ u ⟨uf, u1⟩
        exact Ok.ret ⟨by rw [show i - q - 1 = i - (q + 1) by omega], fun c hc => by rw [uf c hc]; exact sf c hc, u1⟩
      · rintro d s' ⟨rfl, sf, s1⟩
        unfold SX12_moves_41
        exact Ok.ifT (by rw [nI_eqP (by omega) (by omega)]; omega) (Ok.ret ⟨sf, s1⟩)
    · rw [if_neg c, if_neg c]
      refine Ok.count (j - i) (fun q d s' => d = nI (i + q) ∧ (∀ c, c ≠ 154 → s' c = t1 c) ∧ MO (K m s).1 (mvU (K m s).2.2.2 i q) s') ?_ ?_ (Nat.zero_le _) ⟨rfl, fun _ _ => rfl, o1⟩
      · rintro q d s' hq ⟨rfl, sf, s1⟩
        unfold SX12_moves_41
        rw [nI_1]
        refine Ok.ifF (by rw [nI_eqP (by omega) (by omega)]; omega) (Ok.bd _ (m_exch hn s1 (by omega) (by omega)) ?_)
        rintro _ u ⟨uf, u1⟩
        exact Ok.ret ⟨by rw [show i + (q + 1) = i + q + 1 by omega], fun c hc => by rw [uf c hc]; exact sf c hc, u1⟩
      · rintro d s' ⟨rfl, sf, s1⟩
        unfold SX12_moves_41
        exact Ok.ifT (by rw [nI_eqP (by omega) (by omega)]; omega) (Ok.ret ⟨sf, s1⟩)
  · rintro _ t2 ⟨f2, o2⟩
    have M2 : MST K m t2 := hM.fr (by rw [f2 149 (by decide), f1 149 (by decide)]) (by rw [f2 150 (by decide), f1 150 (by decide)]) (by rw [f2 152 (by decide), f1 152 (by decide)])
    have hgo := mvo_go hv.go hi hj
    refine Ok.bd _ (m_takesRow hG hs M2 (hv.vwo hgo) hN o2) ?_
    rintro _ u ⟨-, u1, -⟩
    have hK := hG.nx (hv.vwo hgo) hN
    have hro := u1.2.1.ro hs (hK.2 m' (Nat.le_refl _) s hs)
    rw [hN.cur, upA_s] at hro
    refine Ok.bq (q_at hro hs hn hj) (Ok.ret ⟨?_, u1⟩)
    show nI (mvo (K m s).2.2.2 i j j) = _
    rw [mvo_at]
theorem m_reverse (hG : GK K m) (hs : s < 3) (hM : MST K m t) (hp : 1 ≤ (K m s).1) (hN : NXT K m s (vwo (K m s) (rvo (K m s).1 (K m s).2.2.2 ((K m s).1 / 2))) K' m') : Ok (FX12_reverse (nI s) t) (fun r u => r = nI (rvo (K m s).1 (K m s).2.2.2 ((K m s).1 / 2) 0) ∧ MST K' m' u) := by
  have hv := hG.2 m (Nat.le_refl _) s hs
  have hn := hv.1.1
  have h1 := hM.2.1.rn hs
  have h2 := hM.2.1.ro hs hv
  unfold FX12_reverse
  refine Ok.bq (g_isNet hs hn h1) ?_
  rw [if_neg (c := (K m s).1 = 0) (by omega)]
  refine Ok.ifF (by decide) (Ok.bd _ (m_laysRow hs hn h1 h2) ?_)
  rintro _ t1 ⟨f1, o1⟩
  refine Ok.bd (fun _ u => (∀ c, c ≠ 154 → u c = t1 c) ∧ MO (K m s).1 (rvo (K m s).1 (K m s).2.2.2 ((K m s).1 / 2)) u) ?_ ?_
  · refine Ok.count ((K m s).1 / 2) (fun q d s' => d = nI q ∧ (∀ c, c ≠ 154 → s' c = t1 c) ∧ MO (K m s).1 (rvo (K m s).1 (K m s).2.2.2 q) s') ?_ ?_ (Nat.zero_le _) ⟨rfl, fun _ _ => rfl, o1⟩
    · rintro q d s' hq ⟨rfl, sf, s1⟩
      unfold SX12_reverse_18
      have hs' := h1.fr (u := s') (by rw [sf 150 (by decide), f1 150 (by decide)])
      refine Ok.bq (q_points hs' hs) (Ok.ifF (by rw [rvc hn hp (by omega)]; omega) (Ok.bq (q_points hs' hs) ?_))
      rw [nI_s1 hp, nI_sub (by omega)]
      refine Ok.bd _ (m_exch hn s1 (by omega) (by omega)) ?_
      rintro _ u ⟨uf, u1⟩
      exact Ok.ret ⟨nI_1 q, fun c hc => by rw [uf c hc]; exact sf c hc, u1⟩
    · rintro d s' ⟨rfl, sf, s1⟩
      unfold SX12_reverse_18
      have hs' := h1.fr (u := s') (by rw [sf 150 (by decide), f1 150 (by decide)])
      exact Ok.bq (q_points hs' hs) (Ok.ifT (by rw [rvc hn hp (by omega)]; omega) (Ok.ret ⟨sf, s1⟩))
  · rintro _ t2 ⟨f2, o2⟩
    have M2 : MST K m t2 := hM.fr (by rw [f2 149 (by decide), f1 149 (by decide)]) (by rw [f2 150 (by decide), f1 150 (by decide)]) (by rw [f2 152 (by decide), f1 152 (by decide)])
    have hgo := rvo_go (k := (K m s).1 / 2) hv.go (by omega)
    refine Ok.bd _ (m_takesRow hG hs M2 (hv.vwo hgo) hN o2) ?_
    rintro _ u ⟨-, u1, -⟩
    have hK := hG.nx (hv.vwo hgo) hN
    have hro := u1.2.1.ro hs (hK.2 m' (Nat.le_refl _) s hs)
    rw [hN.cur, upA_s] at hro
    exact Ok.bq (q_at (i := 0) hro hs hn hp) (Ok.ret ⟨rfl, u1⟩)
end
