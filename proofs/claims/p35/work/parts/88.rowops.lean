section
/-! points changed over, moved, turned round -/
def swp (o : Nat → Nat) (i j : Nat) : Nat → Nat := fun k => if k = j then o i else if k = i then o j else o k
theorem amk_bit {o : Nat → Nat} {q : Nat} : ∀ {n : Nat}, (amk o n).testBit q = true ↔ ∃ k, k < n ∧ o k = q
  | 0 => by
    show (0 : Nat).testBit q = true ↔ _
    rw [Nat.zero_testBit]
    exact ⟨fun h => (by cases h), fun ⟨k, hk, _⟩ => by omega⟩
  | n + 1 => by
    show (amk o n ||| 2 ^ o n).testBit q = true ↔ _
    rw [or_b, amk_bit, pow_bit, decide_eq_true_eq]
    constructor
    · rintro (⟨k, a, b⟩ | h)
      · exact ⟨k, by omega, b⟩
      · exact ⟨n, by omega, h⟩
    · rintro ⟨k, a, b⟩
      by_cases e : k = n
      · subst e; exact Or.inr b
      · exact Or.inl ⟨k, by omega, b⟩
theorem amk_lt2 {n : Nat} {o : Nat → Nat} : ∀ {i : Nat}, (∀ k, k < i → o k < n) → amk o i < 2 ^ n
  | 0, _ => Nat.two_pow_pos n
  | i + 1, h => Nat.or_lt_two_pow (amk_lt2 (fun k hk => h k (by omega))) (Nat.pow_lt_pow_right (by omega) (h i (by omega)))
/-- a row whose points are those of another -/
theorem pfx_perm {n : Nat} {o o' : Nat → Nat} (h : PFX n n o) (h1 : ∀ k, k < n → o' k < n) (h2 : ∀ k, k < n → ∃ j, j < n ∧ o' j = o k) : PFX n n o' := by
  refine ⟨h1, amk_lt2 h1, ?_⟩
  have a : cnt (amk o n) n ≤ cnt (amk o' n) n := cnt_mn (fun q hq => by
    obtain ⟨k, hk, rfl⟩ := amk_bit.mp hq
    obtain ⟨j, hj, e⟩ := h2 k hk
    exact amk_bit.mpr ⟨j, hj, e⟩)
  have b : cnt (amk o' n) n ≤ n := cnt_le
  have c := h.2.2
  omega
def GO (n : Nat) (o : Nat → Nat) : Prop := PFX n n o ∧ ∀ i, n ≤ i → o i = 0
theorem GO.swp {n : Nat} {o : Nat → Nat} (h : GO n o) {i j : Nat} (hi : i < n) (hj : j < n) : GO n (swp o i j) := by
  refine ⟨pfx_perm h.1 (fun k hk => ?_) (fun k hk => ?_), fun k hk => ?_⟩
  · show (if k = j then o i else if k = i then o j else o k) < n
    split
    · exact h.1.1 i hi
    · split
      · exact h.1.1 j hj
      · exact h.1.1 k hk
  · by_cases e1 : k = i
    · exact ⟨j, hj, by show (if j = j then o i else _) = o k; rw [if_pos rfl, e1]⟩
    · by_cases e2 : k = j
      · refine ⟨i, hi, ?_⟩
        show (if i = j then o i else if i = i then o j else o i) = o k
        by_cases e3 : i = j
        · rw [if_pos e3, e2, e3]
        · rw [if_neg e3, if_pos rfl, e2]
      · exact ⟨k, hk, by show (if k = j then o i else if k = i then o j else o k) = o k; rw [if_neg e2, if_neg e1]⟩
  · show (if k = j then o i else if k = i then o j else o k) = 0
    rw [if_neg (by omega), if_neg (by omega)]
    exact h.2 k hk
theorem swp_b {o : Nat → Nat} {i j : Nat} : swp o i j j = o i := if_pos rfl
theorem GV.go {v : V4} (h : GV v) : GO v.1 v.2.2.2 := ⟨h.2.2.1, h.2.2.2⟩
theorem GV.vwo {v : V4} (h : GV v) {o : Nat → Nat} (ho : GO v.1 o) : GV (v.1, v.2.1, v.2.2.1, o) := ⟨h.1, h.2.1, ho.1, ho.2⟩
theorem GO.lt {n : Nat} {o : Nat → Nat} (h : GO n o) (hn : n < 10) (i : Nat) : o i < 9 := by
  by_cases c : i < n
  · have := h.1.1 i c; omega
  · rw [h.2 i (by omega)]; omega
theorem e_changeOver {x n i j : Nat} {o : Nat → Nat} {t : St} (g : netAt x = true) (hn : n < 10) (h : CO x n o t) (hi : i < n) (hj : j < n) : Ok (FX5_changeOver x (nI i) (nI j) t) (fun _ u => (∀ c, c ≠ x + 2 → u c = t c) ∧ CO x n (swp o i j) u) := by
  unfold FX5_changeOver
  refine Ok.ckT g (Ok.ckT (inb_n (by omega) (by omega)) ?_)
  rw [nI_cl (by omega), nI_cl (by omega)]
  refine Ok.rdE (h i hi) (Ok.ckT (inb_n (by omega) (by omega)) (Ok.rdE (h j hj) (Ok.ckT (inb_n (by omega) (by omega)) (OkwrE (Ok.ckT (inb_n (by omega) (by omega)) (OkwrE (Ok.ret ⟨fun c hc => by rw [wr_off c hc, wr_off c hc], fun k hk => ?_⟩)))))))
  show _ = nI (if k = j then o i else if k = i then o j else o k)
  by_cases e1 : k = j
  · subst e1; rw [wrs, if_pos rfl]
  · rw [wrn e1, if_neg e1]
    by_cases e2 : k = i
    · subst e2; rw [wrs, if_pos rfl]
    · rw [wrn e2, if_neg e2]; exact h k hk
theorem m_exch {n i j : Nat} {o : Nat → Nat} {t : St} (hn : n < 10) (h : MO n o t) (hi : i < n) (hj : j < n) : Ok (FX12_exchanges (nI i) (nI j) t) (fun _ u => (∀ c, c ≠ 154 → u c = t c) ∧ MO n (swp o i j) u) := by
  unfold FX12_exchanges
  refine Ok.ckT (inb_n (by omega) (by omega)) ?_
  rw [nI_cl (by omega), nI_cl (by omega)]
  refine Ok.rdE (h i hi) (Ok.ckT (inb_n (by omega) (by omega)) (Ok.rdE (h j hj) (Ok.ckT (inb_n (by omega) (by omega)) (OkwrE (Ok.ckT (inb_n (by omega) (by omega)) (OkwrE (Ok.ret ⟨fun c hc => by rw [wr_off c hc, wr_off c hc], fun k hk => ?_⟩)))))))
  show _ = nI (if k = j then o i else if k = i then o j else o k)
  by_cases e1 : k = j
  · subst e1; rw [wrs, if_pos rfl]
  · rw [wrn e1, if_neg e1]
    by_cases e2 : k = i
    · subst e2; rw [wrs, if_pos rfl]
    · rw [wrn e2, if_neg e2]; exact h k hk
theorem m_laysRow {s n : Nat} {w : Nat → Nat → Nat} {o : Nat → Nat} {t : St} (hs : s < 3) (hn : n < 10) (h : RN s n w t) (ho : RO s n o t) : Ok (FX12_laysRow (nI s) t) (fun _ u => (∀ c, c ≠ 154 → u c = t c) ∧ MO n o u) := by
  unfold FX12_laysRow
  refine Ok.bd (fun _ u => (∀ c, c ≠ 154 → u c = t c) ∧ MO n o u) ?_ (fun _ u hu => Ok.ret hu)
  refine Ok.count n (fun j c s' => c = nI j ∧ (∀ c, c ≠ 154 → s' c = t c) ∧ ∀ k, k < j → s' 154 k = nI (o k)) ?_ ?_ (Nat.zero_le _) ⟨rfl, fun _ _ => rfl, fun k hk => by omega⟩
  · rintro j c s' hj ⟨rfl, sf, s1⟩
    unfold SX12_laysRow_2
    have e150 : s' 150 = t 150 := sf 150 (by decide)
    refine Ok.bq (q_points (h.fr e150) hs) (Ok.ifF (by rw [nI_leP (by omega) (by omega)]; omega) (Ok.bq (q_at (o := o) (n := n) (fun i hi => by rw [e150]; exact ho i hi) hs hn hj) (Ok.ckT (inb_n (by omega) (by omega)) (OkwrE (Ok.ret ⟨nI_1 j, fun c hc => by rw [wr_off c hc]; exact sf c hc, fun k hk => ?_⟩)))))
    rw [nI_cl (by omega)]
    by_cases e : k = j
    · subst e; rw [wrs]
    · rw [wrn e]; exact s1 k (by omega)
  · rintro c s' ⟨rfl, sf, s1⟩
    unfold SX12_laysRow_2
    exact Ok.bq (q_points (h.fr (sf 150 (by decide))) hs) (Ok.ifT (by rw [nI_leP (by omega) (by omega)]; omega) (Ok.ret ⟨sf, s1⟩))
/-- what an act of the class on slot s may change -/
def AF (s : Nat) (t u : St) : Prop := ∀ c, (c < 12 + 24 * s ∨ 12 + 24 * s + 3 < c) → (c < 98 ∨ 144 < c) → u c = t c
/-- slot s becomes v -/
def CNX (K : Nat → Nat → V4) (m s : Nat) (v : V4) (u : St) : Prop := ∃ K' m', NXT K m s v K' m' ∧ CST K' m' u
theorem c_note {K : Nat → Nat → V4} {m s : Nat} {v : V4} {t t2 : St} (hG : GK K m) (hs : s < 3) (hv : GV v) (hC : CST K m t) (f : ∀ c, (c < 12 + 24 * s ∨ 12 + 24 * s + 3 < c) → (c < 141 ∨ 144 < c) → t2 c = t c) (h141 : CS 141 (K m s) t2) (hx : CS (12 + 24 * s) v t2) : Ok (FX11_noteAct (nI s) t2) (fun _ u => CNX K m s v u ∧ (∀ c, (c < 98 ∨ 140 < c) → u c = t2 c) ∧ AF s t u) := by
  refine (e_noteAct hG hs hv h141 hx (fun r hr hrs => (hC.1 r hr).fr4 (fun c c1 c2 => f c (by omega) (by omega))) (hC.2.fr hG.1 (fun c c1 c2 => f c (by omega) (by omega)))).mono ?_
  rintro _ u ⟨u1, u2⟩
  exact ⟨u1, u2, fun c c1 c2 => by rw [u2 c (by omega)]; exact f c c1 (by omega)⟩
theorem e_kept {K : Nat → Nat → V4} {m s : Nat} {t : St} (hG : GK K m) (hs : s < 3) (hC : CST K m t) : Ok (FX5_copyFrom 141 (12 + 24 * s) t) (fun _ u => CS 141 (K m s) u ∧ CS (12 + 24 * s) (K m s) u ∧ ∀ c, (c < 141 ∨ 144 < c) → u c = t c) := by
  refine (e_copyFrom n_141 (n_sl hs) (by omega)).mono ?_
  rintro _ u ⟨f1, a0, a1, a2, a4, a3⟩
  exact ⟨(hC.1 s hs).cp (hG.2 m (Nat.le_refl _) s hs).1.1 a0 a1 a2 a4 a3, (hC.1 s hs).fr4 (fun c c1 c2 => f1 c (by omega)), fun c hc => f1 c (by omega)⟩
def vwo (v : V4) (o : Nat → Nat) : V4 := (v.1, v.2.1, v.2.2.1, o)
theorem CS.vwo {x : Nat} {v : V4} {o : Nat → Nat} {t u : St} (h : CS x v t) (f : ∀ c, c ≠ x + 2 → u c = t c) (ho : CO x v.1 o u) : CS x (vwo v o) u := ⟨h.1.fr (f _ (by omega)) (f _ (by omega)) (f _ (by omega)), ho⟩
section
variable {K K' : Nat → Nat → V4} {m m' s : Nat} {t : St}
theorem c_swaps (hG : GK K m) (hs : s < 3) (hC : CST K m t) {i j : Nat} (hi : i < (K m s).1) (hj : j < (K m s).1) : Ok (FX11_swaps (nI s) (nI i) (nI j) t) (fun r u => r = nI ((K m s).2.2.2 i) ∧ CNX K m s (vwo (K m s) (swp (K m s).2.2.2 i j)) u ∧ AF s t u) := by
  have hv := hG.2 m (Nat.le_refl _) s hs
  have hn := hv.1.1
  have hx := hC.1 s hs
  have g := n_sl hs
  unfold FX11_swaps
  refine Ok.bq (g_netIn hs hn hx.1.1) ?_
  rw [if_neg (c := (K m s).1 = 0) (by omega)]
  refine Ok.ckT g (Ok.bq (g_has g hn hx.1.1 hi) (Ok.ifF (by decide) (Ok.bq (g_has g hn hx.1.1 hj) (Ok.ifF (by decide) (Ok.bd _ (e_kept hG hs hC) ?_)))))
  rintro _ t1 ⟨k1, x1, f1⟩
  refine Ok.bd _ (e_changeOver g hn x1.2 hi hj) ?_
  rintro _ t2 ⟨f2, o2⟩
  refine Ok.bd _ (c_note (v := vwo (K m s) (swp (K m s).2.2.2 i j)) hG hs (hv.vwo (hv.go.swp hi hj)) hC (fun c c1 c2 => by rw [f2 c (by omega)]; exact f1 c c2) (k1.fr4 (fun c c1 c2 => f2 c (by omega))) (x1.vwo f2 o2)) ?_
  rintro _ u ⟨u1, u2, u3⟩
  refine Ok.ckT (inb_n (by omega) (by omega)) (Ok.rdE (x := nI ((K m s).2.2.2 i)) ?_ (Ok.ret ⟨rfl, u1, u3⟩))
  rw [nI_cl (by omega), u2 143 (by omega), f2 143 (by omega)]
  exact k1.2 i hi
theorem m_swaps (hG : GK K m) (hs : s < 3) (hM : MST K m t) {i j : Nat} (hi : i < (K m s).1) (hj : j < (K m s).1) (hN : NXT K m s (vwo (K m s) (swp (K m s).2.2.2 i j)) K' m') : Ok (FX12_swaps (nI s) (nI i) (nI j) t) (fun r u => r = nI ((K m s).2.2.2 i) ∧ MST K' m' u) := by
  have hv := hG.2 m (Nat.le_refl _) s hs
  have hn := hv.1.1
  have h1 := hM.2.1.rn hs
  have h2 := hM.2.1.ro hs hv
  unfold FX12_swaps
  refine Ok.bq (g_isPt hs hn h1 hi) (Ok.ifF (by decide) (Ok.bq (g_isPt hs hn h1 hj) (Ok.ifF (by decide) (Ok.bq (q_at h2 hs hn hi) (Ok.bd _ (m_laysRow hs hn h1 h2) ?_)))))
  rintro _ t1 ⟨f1, o1⟩
  refine Ok.bd _ (m_exch hn o1 hi hj) ?_
  rintro _ t2 ⟨f2, o2⟩
  have M2 : MST K m t2 := hM.fr (by rw [f2 149 (by decide), f1 149 (by decide)]) (by rw [f2 150 (by decide), f1 150 (by decide)]) (by rw [f2 152 (by decide), f1 152 (by decide)])
  refine Ok.bd _ (m_takesRow hG hs M2 (hv.vwo (hv.go.swp hi hj)) hN o2) ?_
  rintro _ u ⟨-, u1, -⟩
  exact Ok.ret ⟨rfl, u1⟩
end
def mvU (o : Nat → Nat) (f : Nat) : Nat → Nat → Nat
  | 0 => o
  | k + 1 => swp (mvU o f k) (f + k) (f + k + 1)
def mvD (o : Nat → Nat) (f : Nat) : Nat → Nat → Nat
  | 0 => o
  | k + 1 => swp (mvD o f k) (f - k) (f - k - 1)
def mvo (o : Nat → Nat) (f g : Nat) : Nat → Nat := if g ≤ f then mvD o f (f - g) else mvU o f (g - f)
theorem mvU_go {n : Nat} {o : Nat → Nat} (h : GO n o) {f : Nat} : ∀ {k : Nat}, f + k < n → GO n (mvU o f k)
  | 0, _ => h
  | k + 1, hk => (mvU_go h (k := k) (by omega)).swp (by omega) (by omega)
theorem mvD_go {n : Nat} {o : Nat → Nat} (h : GO n o) {f : Nat} (hf : f < n) : ∀ {k : Nat}, GO n (mvD o f k)
  | 0 => h
  | k + 1 => (mvD_go h hf (k := k)).swp (by omega) (by omega)
theorem mvo_go {n : Nat} {o : Nat → Nat} (h : GO n o) {f g : Nat} (hf : f < n) (hg : g < n) : GO n (mvo o f g) := by
  unfold mvo
  split
  · exact mvD_go h hf
  · exact mvU_go h (by omega)
theorem mvo_at {o : Nat → Nat} {f g : Nat} : mvo o f g g = o f := by
  have hU : ∀ k, mvU o f k (f + k) = o f := by
    intro k
    induction k with
    | zero => rfl
    | succ k ih => exact swp_b.trans ih
  have hD : ∀ k, k ≤ f → mvD o f k (f - k) = o f := by
    intro k
    induction k with
    | zero => intro _; rfl
    | succ k ih =>
      intro hk
      have : swp (mvD o f k) (f - k) (f - k - 1) (f - k - 1) = mvD o f k (f - k) := swp_b
      rw [show f - (k + 1) = f - k - 1 by omega]
      exact this.trans (ih (by omega))
  unfold mvo
  by_cases c : g ≤ f
  · rw [if_pos c]
    have := hD (f - g) (by omega)
    rw [show f - (f - g) = g by omega] at this
    exact this
  · rw [if_neg c]
    have := hU (g - f)
    rw [show f + (g - f) = g by omega] at this
    exact this
theorem e_shift {x n f g : Nat} {o : Nat → Nat} {t : St} (gx : netAt x = true) (hn : n < 10) (h : CO x n o t) (hf : f < n) (hg : g < n) : Ok (FX5_shift x (nI f) (nI g) t) (fun _ u => (∀ c, c ≠ x + 2 → u c = t c) ∧ CO x n (mvo o f g) u) := by
  unfold FX5_shift
  by_cases c : g ≤ f
  · refine Ok.ckT gx (Ok.bq (a := ()) (t := t) (wh_last (Ok.eq ?_)) ?_)
    · unfold SX5_shift_2
      exact Ok.ifT (by rw [nI_leP (by omega) (by omega)]; exact c) (Ok.ret ⟨rfl, rfl⟩)
    · refine Ok.bd (fun _ u => (∀ c, c ≠ x + 2 → u c = t c) ∧ CO x n (mvo o f g) u) ?_ (fun _ u hu => Ok.ret hu)
      refine Ok.count (f - g) (fun j d s => d = nI (f - j) ∧ (∀ c, c ≠ x + 2 → s c = t c) ∧ CO x n (mvD o f j) s) ?_ ?_ (Nat.zero_le _) ⟨rfl, fun _ _ => rfl, h⟩
      · rintro j d s hj ⟨rfl, sf, s1⟩
        unfold SX5_shift_23
        rw [nI_s1 (by omega)]
        refine Ok.ifF (by rw [nI_leP (by omega) (by omega)]; omega) (Ok.bd _ (e_changeOver gx hn s1 (by omega) (by omega)) ?_)
        rintro _ u ⟨uf, u1⟩
        exact Ok.ret ⟨by rw [nI_m1 (by omega), show f - j - 1 = f - (j + 1) by omega], fun c hc => by rw [uf c hc]; exact sf c hc, u1⟩
      · rintro d s ⟨rfl, sf, s1⟩
        unfold SX5_shift_23
        refine Ok.ifT (by rw [nI_leP (by omega) (by omega)]; omega) (Ok.ret ⟨sf, ?_⟩)
        unfold mvo
        rw [if_pos c]
        exact s1
  · refine Ok.ckT gx (Ok.bd (fun _ u => (∀ c, c ≠ x + 2 → u c = t c) ∧ CO x n (mvo o f g) u) ?_ ?_)
    · refine Ok.count (g - f) (fun j d s => d = nI (f + j) ∧ (∀ c, c ≠ x + 2 → s c = t c) ∧ CO x n (mvU o f j) s) ?_ ?_ (Nat.zero_le _) ⟨rfl, fun _ _ => rfl, h⟩
      · rintro j d s hj ⟨rfl, sf, s1⟩
        unfold SX5_shift_2
        rw [nI_1]
        refine Ok.ifF (by rw [nI_leP (by omega) (by omega)]; omega) (Ok.bd _ (e_changeOver gx hn s1 (by omega) (by omega)) ?_)
        rintro _ u ⟨uf, u1⟩
        exact Ok.ret ⟨by rw [show f + (j + 1) = f + j + 1 by omega], fun c hc => by rw [uf c hc]; exact sf c hc, u1⟩
      · rintro d s ⟨rfl, sf, s1⟩
        unfold SX5_shift_2
        refine Ok.ifT (by rw [nI_leP (by omega) (by omega)]; omega) (Ok.ret ⟨sf, ?_⟩)
        unfold mvo
        rw [if_neg c]
        exact s1
    · rintro _ u hu
      refine Ok.bq (a := ()) (t := u) (wh_last (Ok.eq ?_)) (Ok.ret hu)
      unfold SX5_shift_23
      exact Ok.ifT (by rw [nI_leP (by omega) (by omega)]; omega) (Ok.ret ⟨rfl, rfl⟩)
def rvo (n : Nat) (o : Nat → Nat) : Nat → Nat → Nat
  | 0 => o
  | k + 1 => swp (rvo n o k) k (n - 1 - k)
theorem rvo_go {n : Nat} {o : Nat → Nat} (h : GO n o) : ∀ {k : Nat}, 2 * k ≤ n → GO n (rvo n o k)
  | 0, _ => h
  | k + 1, hk => (rvo_go h (k := k) (by omega)).swp (by omega) (by omega)
theorem rvc_all : ∀ n, n < 10 → 1 ≤ n → ∀ k, k < 6 → decide (nI n - 1 - nI k ≤ nI k) = decide (n ≤ 2 * k + 1) := by decide +kernel
theorem rvc {n k : Nat} (hn : n < 10) (h1 : 1 ≤ n) (hk : k < 6) : (nI n - 1 - nI k ≤ nI k) = (n ≤ 2 * k + 1) := by
  have := rvc_all n hn h1 k hk
  exact propext ⟨fun h => of_decide_eq_true (by rw [← this]; exact decide_eq_true h), fun h => of_decide_eq_true (by rw [this]; exact decide_eq_true h)⟩
theorem e_turnRound {x n : Nat} {o : Nat → Nat} {t : St} (gx : netAt x = true) (hn : n < 10) (h1 : 1 ≤ n) (h0 : t x 0 = nI n) (h : CO x n o t) : Ok (FX5_turnRound x t) (fun _ u => (∀ c, c ≠ x + 2 → u c = t c) ∧ CO x n (rvo n o (n / 2)) u) := by
  unfold FX5_turnRound
  refine Ok.ckT gx (Ok.bd (fun _ u => (∀ c, c ≠ x + 2 → u c = t c) ∧ CO x n (rvo n o (n / 2)) u) ?_ (fun _ u hu => Ok.ret hu))
  refine Ok.count (n / 2) (fun j d s => d = nI j ∧ (∀ c, c ≠ x + 2 → s c = t c) ∧ CO x n (rvo n o j) s) ?_ ?_ (Nat.zero_le _) ⟨rfl, fun _ _ => rfl, h⟩
  · rintro j d s hj ⟨rfl, sf, s1⟩
    unfold SX5_turnRound_2
    have e0 : s x 0 = nI n := by rw [sf x (by omega)]; exact h0
    refine Ok.rdE e0 (Ok.ifF (by rw [rvc hn h1 (by omega)]; omega) (Ok.rdE e0 ?_))
    rw [nI_s1 h1, nI_sub (by omega)]
    refine Ok.bd _ (e_changeOver gx hn s1 (by omega) (by omega)) ?_
    rintro _ u ⟨uf, u1⟩
    exact Ok.ret ⟨nI_1 j, fun c hc => by rw [uf c hc]; exact sf c hc, u1⟩
  · rintro d s ⟨rfl, sf, s1⟩
    unfold SX5_turnRound_2
    have e0 : s x 0 = nI n := by rw [sf x (by omega)]; exact h0
    exact Ok.rdE e0 (Ok.ifT (by rw [rvc hn h1 (by omega)]; omega) (Ok.ret ⟨sf, s1⟩))
section
variable {K K' : Nat → Nat → V4} {m m' s : Nat} {t : St}
theorem c_moves (hG : GK K m) (hs : s < 3) (hC : CST K m t) {i j : Nat} (hi : i < (K m s).1) (hj : j < (K m s).1) : Ok (FX11_moves (nI s) (nI i) (nI j) t) (fun r u => r = nI ((K m s).2.2.2 i) ∧ CNX K m s (vwo (K m s) (mvo (K m s).2.2.2 i j)) u ∧ AF s t u) := by
  have hv := hG.2 m (Nat.le_refl _) s hs
  have hn := hv.1.1
  have hx := hC.1 s hs
  have g := n_sl hs
  unfold FX11_moves
  refine Ok.bq (g_netIn hs hn hx.1.1) ?_
  rw [if_neg (c := (K m s).1 = 0) (by omega)]
  refine Ok.ckT g (Ok.bq (g_has g hn hx.1.1 hi) (Ok.ifF (by decide) (Ok.bq (g_has g hn hx.1.1 hj) (Ok.ifF (by decide) (Ok.bd _ (e_kept hG hs hC) ?_)))))
  rintro _ t1 ⟨k1, x1, f1⟩
  refine Ok.bd _ (e_shift g hn x1.2 hi hj) ?_
  rintro _ t2 ⟨f2, o2⟩
  refine Ok.bd _ (c_note (v := vwo (K m s) (mvo (K m s).2.2.2 i j)) hG hs (hv.vwo (mvo_go hv.go hi hj)) hC (fun c c1 c2 => by rw [f2 c (by omega)]; exact f1 c c2) (k1.fr4 (fun c c1 c2 => f2 c (by omega))) (x1.vwo f2 o2)) ?_
  rintro _ u ⟨u1, u2, u3⟩
  refine Ok.ckT (inb_n (by omega) (by omega)) (Ok.rdE (x := nI ((K m s).2.2.2 i)) ?_ (Ok.ret ⟨rfl, u1, u3⟩))
  rw [nI_cl (by omega), u2 143 (by omega), f2 143 (by omega)]
  exact k1.2 i hi
theorem c_reverse (hG : GK K m) (hs : s < 3) (hC : CST K m t) (h1 : 1 ≤ (K m s).1) : Ok (FX11_reverse (nI s) t) (fun r u => r = nI (rvo (K m s).1 (K m s).2.2.2 ((K m s).1 / 2) 0) ∧ CNX K m s (vwo (K m s) (rvo (K m s).1 (K m s).2.2.2 ((K m s).1 / 2))) u ∧ AF s t u) := by
  have hv := hG.2 m (Nat.le_refl _) s hs
  have hn := hv.1.1
  have hx := hC.1 s hs
  have g := n_sl hs
  unfold FX11_reverse
  refine Ok.bq (g_netIn hs hn hx.1.1) ?_
  rw [if_neg (c := (K m s).1 = 0) (by omega)]
  refine Ok.ckT g (Ok.bd _ (e_kept hG hs hC) ?_)
  rintro _ t1 ⟨k1, x1, f1⟩
  refine Ok.bd _ (e_turnRound g hn h1 x1.1.1 x1.2) ?_
  rintro _ t2 ⟨f2, o2⟩
  refine Ok.bd _ (c_note (v := vwo (K m s) (rvo (K m s).1 (K m s).2.2.2 ((K m s).1 / 2))) hG hs (hv.vwo (rvo_go hv.go (by omega))) hC (fun c c1 c2 => by rw [f2 c (by omega)]; exact f1 c c2) (k1.fr4 (fun c c1 c2 => f2 c (by omega))) (x1.vwo f2 o2)) ?_
  rintro _ u ⟨u1, u2, u3⟩
  refine Ok.ckT (by decide) (Ok.rdE (x := nI (rvo (K m s).1 (K m s).2.2.2 ((K m s).1 / 2) 0)) ?_ (Ok.ret ⟨rfl, u1, u3⟩))
  rw [cl0, u2 _ (by omega)]
  exact o2 0 (by omega)
theorem m_moves (hG : GK K m) (hs : s < 3) (hM : MST K m t) {i j : Nat} (hi : i < (K m s).1) (hj : j < (K m s).1) (hN : NXT K m s (vwo (K m s) (mvo (K m s).2.2.2 i j)) K' m') : Ok (FX12_moves (nI s) (nI i) (nI j) t) (fun r u => r = nI ((K m s).2.2.2 i) ∧ MST K' m' u) := by
  have hv := hG.2 m (Nat.le_refl _) s hs
  have hn := hv.1.1
  have h1 := hM.2.1.rn hs
  have h2 := hM.2.1.ro hs hv
  unfold FX12_moves
  refine Ok.bq (g_isPt hs hn h1 hi) (Ok.ifF (by decide) (Ok.bq (g_isPt hs hn h1 hj) (Ok.ifF (by decide) (Ok.bd _ (m_laysRow hs hn h1 h2) ?_))))
  rintro _ t1 ⟨f1, o1⟩
  refine Ok.bd (fun r u => t1 = u ∧ r = if j ≤ i then (-1 : Int32) else 1) (Ok.cv (nI_leP (by omega) (by omega)) (Ok.ite (fun c => Ok.ret ⟨rfl, by rw [if_pos c]⟩) (fun c => Ok.ret ⟨rfl, by rw [if_neg c]⟩))) ?_
  rintro _ _ ⟨rfl, rfl⟩
  refine Ok.bd (fun _ u => (∀ c, c ≠ 154 → u c = t1 c) ∧ MO (K m s).1 (mvo (K m s).2.2.2 i j) u) ?_ ?_
  · unfold mvo
    by_cases c : j ≤ i
    · rw [if_pos c, if_pos c]
      refine Ok.count (i - j) (fun q d s' => d = nI (i - q) ∧ (∀ c, c ≠ 154 → s' c = t1 c) ∧ MO (K m s).1 (mvD (K m s).2.2.2 i q) s') ?_ ?_ (Nat.zero_le _) ⟨rfl, fun _ _ => rfl, o1⟩
      · rintro q d s' hq ⟨rfl, sf, s1⟩
        unfold SX12_moves_41
        rw [nI_m1 (by omega)]
        refine Ok.ifF (by rw [nI_eqP (by omega) (by omega)]; omega) (Ok.bd _ (m_exch hn s1 (by omega) (by omega)) ?_)
        rintro _ u ⟨uf, u1⟩
        exact Ok.ret ⟨by rw [show i - q - 1 = i - (q + 1) by omega], fun c hc => by rw [uf c hc]; exact sf c hc, u1⟩
      · rintro d s' ⟨rfl, sf, s1⟩
        unfold SX12_moves_41
        exact Ok.ifT (by rw [nI_eqP (by omega) (by omega)]; omega) (Ok.ret ⟨sf, s1⟩)
    · rw [if_neg c, if_neg c]
      refine Ok.count (j - i) (fun q d s' => d = nI (i + q) ∧ (∀ c, c ≠ 154 → s' c = t1 c) ∧ MO (K m s).1 (mvU (K m s).2.2.2 i q) s') ?_ ?_ (Nat.zero_le _) ⟨rfl, fun _ _ => rfl, o1⟩
      · rintro q d s' hq ⟨rfl, sf, s1⟩
        unfold SX12_moves_41
        rw [nI_1]
        refine Ok.ifF (by rw [nI_eqP (by omega) (by omega)]; omega) (Ok.bd _ (m_exch hn s1 (by omega) (by omega)) ?_)
        rintro _ u ⟨uf, u1⟩
        exact Ok.ret ⟨by rw [show i + (q + 1) = i + q + 1 by omega], fun c hc => by rw [uf c hc]; exact sf c hc, u1⟩
      · rintro d s' ⟨rfl, sf, s1⟩
        unfold SX12_moves_41
        exact Ok.ifT (by rw [nI_eqP (by omega) (by omega)]; omega) (Ok.ret ⟨sf, s1⟩)
  · rintro _ t2 ⟨f2, o2⟩
    have M2 : MST K m t2 := hM.fr (by rw [f2 149 (by decide), f1 149 (by decide)]) (by rw [f2 150 (by decide), f1 150 (by decide)]) (by rw [f2 152 (by decide), f1 152 (by decide)])
    have hgo := mvo_go hv.go hi hj
    refine Ok.bd _ (m_takesRow hG hs M2 (hv.vwo hgo) hN o2) ?_
    rintro _ u ⟨-, u1, -⟩
    have hK := hG.nx (hv.vwo hgo) hN
    have hro := u1.2.1.ro hs (hK.2 m' (Nat.le_refl _) s hs)
    rw [hN.cur, upA_s] at hro
    refine Ok.bq (q_at hro hs hn hj) (Ok.ret ⟨?_, u1⟩)
    show nI (mvo (K m s).2.2.2 i j j) = _
    rw [mvo_at]
theorem m_reverse (hG : GK K m) (hs : s < 3) (hM : MST K m t) (hp : 1 ≤ (K m s).1) (hN : NXT K m s (vwo (K m s) (rvo (K m s).1 (K m s).2.2.2 ((K m s).1 / 2))) K' m') : Ok (FX12_reverse (nI s) t) (fun r u => r = nI (rvo (K m s).1 (K m s).2.2.2 ((K m s).1 / 2) 0) ∧ MST K' m' u) := by
  have hv := hG.2 m (Nat.le_refl _) s hs
  have hn := hv.1.1
  have h1 := hM.2.1.rn hs
  have h2 := hM.2.1.ro hs hv
  unfold FX12_reverse
  refine Ok.bq (g_isNet hs hn h1) ?_
  rw [if_neg (c := (K m s).1 = 0) (by omega)]
  refine Ok.ifF (by decide) (Ok.bd _ (m_laysRow hs hn h1 h2) ?_)
  rintro _ t1 ⟨f1, o1⟩
  refine Ok.bd (fun _ u => (∀ c, c ≠ 154 → u c = t1 c) ∧ MO (K m s).1 (rvo (K m s).1 (K m s).2.2.2 ((K m s).1 / 2)) u) ?_ ?_
  · refine Ok.count ((K m s).1 / 2) (fun q d s' => d = nI q ∧ (∀ c, c ≠ 154 → s' c = t1 c) ∧ MO (K m s).1 (rvo (K m s).1 (K m s).2.2.2 q) s') ?_ ?_ (Nat.zero_le _) ⟨rfl, fun _ _ => rfl, o1⟩
    · rintro q d s' hq ⟨rfl, sf, s1⟩
      unfold SX12_reverse_18
      have hs' := h1.fr (u := s') (by rw [sf 150 (by decide), f1 150 (by decide)])
      refine Ok.bq (q_points hs' hs) (Ok.ifF (by rw [rvc hn hp (by omega)]; omega) (Ok.bq (q_points hs' hs) ?_))
      rw [nI_s1 hp, nI_sub (by omega)]
      refine Ok.bd _ (m_exch hn s1 (by omega) (by omega)) ?_
      rintro _ u ⟨uf, u1⟩
      exact Ok.ret ⟨nI_1 q, fun c hc => by rw [uf c hc]; exact sf c hc, u1⟩
    · rintro d s' ⟨rfl, sf, s1⟩
      unfold SX12_reverse_18
      have hs' := h1.fr (u := s') (by rw [sf 150 (by decide), f1 150 (by decide)])
      exact Ok.bq (q_points hs' hs) (Ok.ifT (by rw [rvc hn hp (by omega)]; omega) (Ok.ret ⟨sf, s1⟩))
  · rintro _ t2 ⟨f2, o2⟩
    have M2 : MST K m t2 := hM.fr (by rw [f2 149 (by decide), f1 149 (by decide)]) (by rw [f2 150 (by decide), f1 150 (by decide)]) (by rw [f2 152 (by decide), f1 152 (by decide)])
    have hgo := rvo_go (k := (K m s).1 / 2) hv.go (by omega)
    refine Ok.bd _ (m_takesRow hG hs M2 (hv.vwo hgo) hN o2) ?_
    rintro _ u ⟨-, u1, -⟩
    have hK := hG.nx (hv.vwo hgo) hN
    have hro := u1.2.1.ro hs (hK.2 m' (Nat.le_refl _) s hs)
    rw [hN.cur, upA_s] at hro
    exact Ok.bq (q_at (i := 0) hro hs hn hp) (Ok.ret ⟨rfl, u1⟩)
end
end
section
/-! takes, greedy: of both -/
theorem PccpE {α : Type} {σ : St} {a b n : Nat} {f : St → Option (α × St)} {Q : α → St → Prop} (k : Pc (f (cpy σ a b n)) Q) : Pc (cpb σ a b n f) Q := k
theorem cpy_n {σ : St} {a b n c : Nat} (h : c ≠ b) : cpy σ a b n c = σ c := by unfold cpy; rw [if_neg h]
theorem Pc.an {α : Type} {m : Option (α × St)} {Q R : α → St → Prop} (h : Pc m Q) (g : Pc m R) : Pc m (fun v u => Q v u ∧ R v u) := fun v u e => ⟨h v u e, g v u e⟩
def trm (n : Nat) (o : Nat → Nat) : Nat → Nat := fun i => if i < n then o i else 0
theorem trm_in {n i : Nat} {o : Nat → Nat} (h : i < n) : trm n o i = o i := if_pos h
theorem trm_go {n : Nat} {o : Nat → Nat} (h : PFX n n o) : GO n (trm n o) := ⟨pfx_perm h (fun k hk => by rw [trm_in hk]; exact h.1 k hk) (fun k hk => ⟨k, hk, trm_in hk⟩), fun i hi => if_neg (by omega)⟩
section
variable {K K' : Nat → Nat → V4} {m m' s : Nat} {t : St}
/-- the places that an act of the class with its searches may change -/
def AG (s : Nat) (t u : St) : Prop := ∀ c, (c < 12 + 24 * s ∨ 36 + 24 * s ≤ c) → (c < 84 ∨ 144 < c) → u c = t c
theorem c_takes {q : Nat} (hG : GK K m) (hs : s < 3) (hC : CST K m t) (hq : q < 7) (h1 : 1 ≤ (K m s).1) (hF : FI (16 + 24 * s) t) (hB : BI t) : Pc (FX11_takes (nI s) (nI q) t) (fun r u => r = nI (dfo (K m s).1 (K m s).2.2.2 (trm (K m s).1 (frw (K m s).1 (K m s).2.2.1 q))) ∧ CNX K m s (vwo (K m s) (trm (K m s).1 (frw (K m s).1 (K m s).2.2.1 q))) u ∧ FI (16 + 24 * s) u ∧ BI u ∧ AG s t u) := by
  have hv := hG.2 m (Nat.le_refl _) s hs
  have hn : (K m s).1 < 10 := hv.1.1
  have g := n_sl hs
  have hgo : GO (K m s).1 (trm (K m s).1 (frw (K m s).1 (K m s).2.2.1 q)) := trm_go (frw_pfx hv.1.2.1 hn h1)
  have hw : GV (vwo (K m s) (trm (K m s).1 (frw (K m s).1 (K m s).2.2.1 q))) := hv.vwo hgo
  unfold FX11_takes
  refine Pc.bd _ (r_findingOf hs hq (hC.1 s hs).1 hv.1 h1 hF hB) ?_
  rintro _ t1 ⟨rfl, z1, F1, B1, f1⟩
  show Pc (chk _ _) _
  refine Pc.ck (fun _ => Pc.ck (fun _ => Pc.ck (fun _ => ?_)))
  rw [el10 hs]
  have hC1 : CST K m t1 := hC.fr hG.1 (fun r hr c c1 c2 => f1 c (by omega) (by omega)) (fun c c1 c2 => f1 c (by omega) (by omega))
  refine Pc.bd _ (e_kept hG hs hC1).pc ?_
  rintro _ t2 ⟨k1, x1, f2⟩
  refine PccpE ?_
  have o3 : CO (12 + 24 * s) (K m s).1 (trm (K m s).1 (frw (K m s).1 (K m s).2.2.1 q)) (cpy t2 (22 + 24 * s + 2 * q + 1) (12 + 24 * s + 2) 9) := fun i hi => by
    rw [cpyi (by omega), trm_in hi, f2 _ (by omega)]
    exact z1.2.2.2 i hi
  have f3 : ∀ c, c ≠ 12 + 24 * s + 2 → cpy t2 (22 + 24 * s + 2 * q + 1) (12 + 24 * s + 2) 9 c = t2 c := fun c hc => cpy_n hc
  generalize cpy t2 (22 + 24 * s + 2 * q + 1) (12 + 24 * s + 2) 9 = t3 at o3 f3 ⊢
  have k3 : CS 141 (K m s) t3 := k1.fr4 (fun c c1 c2 => f3 c (by omega))
  refine Pc.bd _ (c_note (v := vwo (K m s) (trm (K m s).1 (frw (K m s).1 (K m s).2.2.1 q))) hG hs hw hC1 (fun c c1 c2 => by rw [f3 c (by omega)]; exact f2 c c2) k3 (x1.vwo f3 o3)).pc ?_
  rintro _ u ⟨u1, u2, u3⟩
  have x0 : u (12 + 24 * s) 0 = nI (K m s).1 := by
    rw [u2 _ (by omega), f3 _ (by omega)]
    exact x1.1.1
  have xo : CO (12 + 24 * s) (K m s).1 (trm (K m s).1 (frw (K m s).1 (K m s).2.2.1 q)) u := fun i hi => by
    rw [u2 _ (by omega)]
    exact o3 i hi
  have ko : CO 141 (K m s).1 (K m s).2.2.2 u := fun i hi => by
    rw [u2 _ (by omega)]
    exact k3.2 i hi
  refine Pc.bq (q_placesUnlike g n_141 hn x0 xo ko (fun i _ => hgo.lt hn i) (fun i _ => hv.o9 i)) (Pc.ret ⟨by rw [dfo_sy], u1, F1.fr (fun c c1 c2 => u3 c (by omega) (by omega)), B1.fr (fun c c1 c2 => u3 c (by omega) (by omega)), fun c c1 c2 => ?_⟩)
  rw [u3 c (by omega) (by omega)]
  exact f1 c (by omega) (by omega)
theorem m_takes {q : Nat} (hG : GK K m) (hs : s < 3) (hM : MST K m t) (hq : q < 7) (h1 : 1 ≤ (K m s).1) (hN : NXT K m s (vwo (K m s) (trm (K m s).1 (frw (K m s).1 (K m s).2.2.1 q))) K' m') : Pc (FX12_takes (nI s) (nI q) t) (fun r u => r = nI (dfo (K m s).1 (K m s).2.2.2 (trm (K m s).1 (frw (K m s).1 (K m s).2.2.1 q))) ∧ MST K' m' u) := by
  have hv := hG.2 m (Nat.le_refl _) s hs
  have hn : (K m s).1 < 10 := hv.1.1
  have hr := hM.2.1.rn hs
  have hgo : GO (K m s).1 (trm (K m s).1 (frw (K m s).1 (K m s).2.2.1 q)) := trm_go (frw_pfx hv.1.2.1 hn h1)
  unfold FX12_takes
  refine Pc.bq (g_isNet hs hn hr) ?_
  rw [if_neg (c := (K m s).1 = 0) (by omega)]
  refine Pc.ifF (by decide) (Pc.bq (g_msM hq) (Pc.ifF (by decide) (Pc.bd _ ((a_laysBest hr hs hv.1.2.1 hn h1 hq).an (Fo.pc (fo_FX12_laysBest (P := fun c i => c = 150 ∨ c = 152 ∨ (c = 149 ∧ i = 3)) (nI s) (nI q) (fun c i h => by omega)))) ?_)))
  rintro _ t1 ⟨b1, f1⟩
  have M1 : MST K m t1 := hM.fr (f1 149 3 (Or.inr (Or.inr ⟨rfl, rfl⟩))) (funext (fun i => f1 150 i (Or.inl rfl))) (funext (fun i => f1 152 i (Or.inr (Or.inl rfl))))
  have hr1 := M1.2.1.rn hs
  refine Pc.bd (fun _ u => (∀ c, c ≠ 154 → u c = t1 c) ∧ MO (K m s).1 (trm (K m s).1 (frw (K m s).1 (K m s).2.2.1 q)) u) (Ok.pc ?_) ?_
  · refine Ok.count (K m s).1 (fun j c s' => c = nI j ∧ (∀ c, c ≠ 154 → s' c = t1 c) ∧ ∀ i, i < j → s' 154 i = nI (trm (K m s).1 (frw (K m s).1 (K m s).2.2.1 q) i)) ?_ ?_ (Nat.zero_le _) ⟨rfl, fun _ _ => rfl, fun i hi => by omega⟩
    · rintro j c s' hj ⟨rfl, sf, s1⟩
      unfold SX12_takes_26
      refine Ok.bq (q_points (hr1.fr (sf 150 (by decide))) hs) (Ok.ifF (by rw [nI_leP (by omega) (by omega)]; omega) (Ok.ckT (inb_n (by omega) (by omega)) ?_))
      rw [nI_cl (by omega)]
      refine Ok.rdE (x := nI (frw (K m s).1 (K m s).2.2.1 q j)) (by rw [sf 159 (by decide)]; exact b1 j hj) (Ok.ckT (inb_n (by omega) (by omega)) (OkwrE (Ok.ret ⟨nI_1 j, fun c hc => by rw [wr_off c hc]; exact sf c hc, fun i hi => ?_⟩)))
      by_cases e : i = j
      · subst e; rw [wrs, trm_in hj]
      · rw [wrn e]; exact s1 i (by omega)
    · rintro c s' ⟨rfl, sf, s1⟩
      unfold SX12_takes_26
      exact Ok.bq (q_points (hr1.fr (sf 150 (by decide))) hs) (Ok.ifT (by rw [nI_leP (by omega) (by omega)]; omega) (Ok.ret ⟨sf, s1⟩))
  · rintro _ t2 ⟨f2, o2⟩
    have M2 : MST K m t2 := M1.fr (by rw [f2 149 (by decide)]) (f2 150 (by decide)) (f2 152 (by decide))
    refine Pc.bd _ (m_takesRow hG hs M2 (hv.vwo hgo) hN o2).pc ?_
    rintro _ u ⟨rfl, u1, -⟩
    exact Pc.ret ⟨rfl, u1⟩
end
/-! greedy: pure -/
def gch (c : Nat → Nat) (S : Nat) : Nat → Option Nat
  | 0 => none
  | p + 1 => if S.testBit p = true then gch c S p else Option.elim (gch c S p) (some p) (fun b => if c p < c b then some p else some b)
theorem gch_in {c : Nat → Nat} {S b : Nat} : ∀ {n : Nat}, gch c S n = some b → b < n ∧ S.testBit b = false
  | 0, h => by cases h
  | p + 1, h => by
    have ih : ∀ {b}, gch c S p = some b → b < p ∧ S.testBit b = false := fun h => gch_in h
    rw [gch] at h
    by_cases e : S.testBit p = true
    · rw [if_pos e] at h
      have := ih h
      exact ⟨by omega, this.2⟩
    · rw [if_neg e] at h
      cases g : gch c S p with
      | none =>
        rw [g] at h
        have h : some p = some b := h
        obtain rfl := Option.some.inj h
        exact ⟨by omega, bF e⟩
      | some d =>
        rw [g] at h
        have h : (if c p < c d then some p else some d) = some b := h
        have := ih g
        by_cases q : c p < c d
        · rw [if_pos q] at h
          obtain rfl := Option.some.inj h
          exact ⟨by omega, bF e⟩
        · rw [if_neg q] at h
          obtain rfl := Option.some.inj h
          exact ⟨by omega, this.2⟩
theorem gch_ex {c : Nat → Nat} {S : Nat} : ∀ {n : Nat}, (∃ p, p < n ∧ S.testBit p = false) → ∃ b, gch c S n = some b
  | 0, ⟨p, h, _⟩ => by omega
  | n + 1, ⟨p, h, hb⟩ => by
    rw [gch]
    by_cases e : S.testBit n = true
    · rw [if_pos e]
      have : p ≠ n := fun q => by rw [q, e] at hb; cases hb
      exact gch_ex ⟨p, by omega, hb⟩
    · rw [if_neg e]
      cases g : gch c S n with
      | none => exact ⟨n, rfl⟩
      | some d =>
        show ∃ b, (if c n < c d then some n else some d) = some b
        by_cases q : c n < c d
        · exact ⟨n, if_pos q⟩
        · exact ⟨d, if_neg q⟩
noncomputable def gsl (n : Nat) (w : Nat → Nat → Nat) (q S : Nat) : Nat := (gch (cst n w q S) S n).getD 0
noncomputable def gmk (n : Nat) (w : Nat → Nat → Nat) (q : Nat) : Nat → Nat
  | 0 => 0
  | i + 1 => gmk n w q i ||| 2 ^ gsl n w q (gmk n w q i)
noncomputable def gro (n : Nat) (w : Nat → Nat → Nat) (q i : Nat) : Nat := gsl n w q (gmk n w q i)
theorem amk_gro {n q : Nat} {w : Nat → Nat → Nat} : ∀ i, amk (gro n w q) i = gmk n w q i
  | 0 => rfl
  | i + 1 => by
    show amk (gro n w q) i ||| 2 ^ gro n w q i = _
    rw [amk_gro i]
    rfl
theorem pfx_s {n i : Nat} {P : Nat → Nat} (h : PFX n i P) (h1 : P i < n) (h2 : (amk P i).testBit (P i) = false) : PFX n (i + 1) P := by
  obtain ⟨-, a2, a3⟩ := set_up h.2.1 h1 h2
  refine ⟨fun j hj => ?_, a2, by show cnt (amk P i ||| 2 ^ P i) n = i + 1; rw [a3, h.2.2]⟩
  by_cases e : j = i
  · rw [e]; exact h1
  · exact h.1 j (by omega)
theorem gro_s {n q i : Nat} {w : Nat → Nat → Nat} (h : PFX n i (gro n w q)) (hi : i < n) : gch (cst n w q (amk (gro n w q) i)) (amk (gro n w q) i) n = some (gro n w q i) ∧ gro n w q i < n ∧ (amk (gro n w q) i).testBit (gro n w q i) = false := by
  obtain ⟨b, hb⟩ := gch_ex (c := cst n w q (amk (gro n w q) i)) (no_bit (S := amk (gro n w q) i) (n := n) (by rw [h.2.2]; exact hi))
  have e : gro n w q i = b := by
    show (gch (cst n w q (gmk n w q i)) (gmk n w q i) n).getD 0 = b
    rw [← amk_gro, hb]
    rfl
  have := gch_in hb
  rw [e]
  exact ⟨hb, this⟩
theorem gro_pfx {n q : Nat} {w : Nat → Nat → Nat} : ∀ {i : Nat}, i ≤ n → PFX n i (gro n w q)
  | 0, _ => pfx_0
  | i + 1, hi => by
    have h := gro_pfx (n := n) (q := q) (w := w) (i := i) (by omega)
    obtain ⟨-, a, b⟩ := gro_s h (by omega)
    exact pfx_s h a b
theorem n1n {a : Nat} (h : a < 2147483648) : ¬ nI a = -1 := by rw [li_m1, nI_eqP (by omega) (by omega)]; omega
def oI (o : Option Nat) : Int32 := Option.elim o (-1) nI
def oV (c : Nat → Nat) (o : Option Nat) : Int32 := Option.elim o (nI 1048576) (fun b => nI (c b))
theorem e_greedyIn {x n l q S : Nat} {w : Nat → Nat → Nat} {t : St} {w3 : Int32} (h : CN x n l w t) (g : netAt x = true) (hw : WF n w) (hn : n < 10) (hq : q < 7) (hS : S < 512) : wh (SX8_makeGreedy_22 x (nI q) (nI S) w3) ((-1 : Int32), (1048576 : Int32), (0 : Int32)) t = some (oI (gch (cst n w q S) S n), t) := by
  refine wq0 n (fun j => (oI (gch (cst n w q S) S j), oV (cst n w q S) (gch (cst n w q S) S j), nI j)) rfl (fun j hj => ?_) ?_
  · unfold SX8_makeGreedy_22
    dsimp only
    refine Ok.rdE h.1 (Ok.ifF (by rw [nI_leP (by omega) (by omega)]; omega) ?_)
    refine Ok.bq (a := (oI (gch (cst n w q S) S (j + 1)), oV (cst n w q S) (gch (cst n w q S) S (j + 1)))) (t := t) (Ok.eq ?_) (Ok.ret ⟨rfl, by rw [nI_1]⟩)
    rw [gch]
    refine Ok.cv (bitn (by omega) (by omega)) (Ok.ite (fun c => ?_) (fun c => Ok.ret ⟨rfl, ?_⟩))
    · rw [if_neg (by rw [c]; decide)]
      refine Ok.bq (q_ast hq (by omega)) (Ok.bq (q_of h g hw hn hq (ast_lt hS (by omega)) (fun _ => ⟨rfl, by omega⟩)) ?_)
      have hc : prc n w q (ast q S j) j ≤ 729 := prc_le hw hn
      show Ok (if oV (cst n w q S) (gch (cst n w q S) S j) ≤ nI (cst n w q S j) then _ else _) _
      have hc : cst n w q S j ≤ 729 := hc
      cases e : gch (cst n w q S) S j with
      | none =>
        refine Ok.ifF ?_ (Ok.ret ⟨rfl, rfl⟩)
        show ¬ nI 1048576 ≤ _
        rw [nI_leP (by omega) (by omega)]
        omega
      | some b =>
        have hb : cst n w q S b ≤ 729 := cst_le hw hn
        show Ok (if nI (cst n w q S b) ≤ nI (cst n w q S j) then _ else _) (fun r u => t = u ∧ r = (oI (if cst n w q S j < cst n w q S b then some j else some b), oV (cst n w q S) (if cst n w q S j < cst n w q S b then some j else some b)))
        refine Ok.cv (nI_leP (by omega) (by omega)) (Ok.ite (fun c => Ok.ret ⟨rfl, ?_⟩) (fun c => Ok.ret ⟨rfl, ?_⟩))
        · rw [if_neg (by omega)]
        · rw [if_pos (by omega)]; rfl
    · rw [if_pos (bT c)]
  · unfold SX8_makeGreedy_22
    dsimp only
    exact Ok.rdE h.1 (Ok.ifT (by rw [nI_leP (by omega) (by omega)]; omega) (Ok.ret ⟨rfl, rfl⟩))
theorem m_greedyIn {s n q S : Nat} {w : Nat → Nat → Nat} {t : St} {w4 : Int32} (h : RN s n w t) (hs : s < 3) (hw : WF n w) (hn : n < 10) (hq : q < 7) (hS : S < 512) : wh (SX12_greedy_44 (nI s) (nI q) (nI S) w4) ((-1 : Int32), (0 : Int32)) t = some (oI (gch (cst n w q S) S n), t) := by
  refine wq0 n (fun j => (oI (gch (cst n w q S) S j), nI j)) rfl (fun j hj => ?_) ?_
  · unfold SX12_greedy_44
    dsimp only
    refine Ok.bq (q_points h hs) (Ok.ifF (by rw [nI_leP (by omega) (by omega)]; omega) (Ok.bq (q_has (by omega) (by omega)) ?_))
    refine Ok.bq (a := oI (gch (cst n w q S) S (j + 1))) (t := t) (Ok.eq ?_) (Ok.ret ⟨rfl, by rw [nI_1]⟩)
    rw [gch]
    refine Ok.cv b01 (Ok.ite (fun c => ?_) (fun c => Ok.ret ⟨rfl, ?_⟩))
    · rw [if_neg (c := S.testBit j = true) (by rw [c]; decide)]
      have hc : cst n w q S j ≤ 729 := cst_le hw hn
      cases e : gch (cst n w q S) S j with
      | none => exact Ok.ifT rfl (Ok.ret ⟨rfl, rfl⟩)
      | some b =>
        have hb : cst n w q S b ≤ 729 := cst_le hw hn
        have hbn := (gch_in e).1
        show Ok (if nI b = -1 then _ else _) (fun r u => t = u ∧ r = oI (if cst n w q S j < cst n w q S b then some j else some b))
        refine Ok.ifF (n1n (by omega)) (Ok.bq (q_cost h hs hw hn hq hS (by omega)) (Ok.bq (q_cost h hs hw hn hq hS (by omega)) ?_))
        refine Ok.cv (nI_leP (by omega) (by omega)) (Ok.ite (fun c => Ok.ret ⟨rfl, ?_⟩) (fun c => Ok.ret ⟨rfl, ?_⟩))
        · rw [if_neg (by omega)]
        · rw [if_pos (by omega)]; rfl
    · rw [if_pos (bT c)]
  · unfold SX12_greedy_44
    dsimp only
    exact Ok.bq (q_points h hs) (Ok.ifT (by rw [nI_leP (by omega) (by omega)]; omega) (Ok.ret ⟨rfl, rfl⟩))
theorem e_makeGreedy {x n l q : Nat} {w : Nat → Nat → Nat} {t : St} (h : CN x n l w t) (g : netAt x = true) (hw : WF n w) (hn : n < 10) (hq : q < 7) : Ok (FX8_makeGreedy x (nI q) t) (fun _ u => (∀ c, c ≠ x + 2 → u c = t c) ∧ CO x n (trm n (gro n w q)) u) := by
  unfold FX8_makeGreedy
  refine Ok.ckT g (Ok.bd (fun _ u => (∀ c, c ≠ x + 2 → u c = t c) ∧ CO x n (trm n (gro n w q)) u) ?_ (fun _ u hu => Ok.ret hu))
  refine Ok.count n (fun j c s' => c = (nI (amk (gro n w q) j), nI j) ∧ (∀ c, c ≠ x + 2 → s' c = t c) ∧ ∀ i, i < j → s' (x + 2) i = nI (gro n w q i)) ?_ ?_ (Nat.zero_le _) ⟨rfl, fun _ _ => rfl, fun i hi => by omega⟩
  · rintro j c s' hj ⟨rfl, sf, s1⟩
    unfold SX8_makeGreedy_4
    dsimp only
    have hx : CN x n l w s' := h.fr (sf x (by omega)) (sf _ (by omega)) (sf _ (by omega))
    have hp := gro_pfx (n := n) (q := q) (w := w) (i := j) (by omega)
    obtain ⟨a1, a2, a3⟩ := gro_s hp hj
    have hS : amk (gro n w q) j < 512 := Nat.lt_of_lt_of_le hp.2.1 (pow9 (by omega))
    refine Ok.rdE hx.1 (Ok.ifF (by rw [nI_leP (by omega) (by omega)]; omega) (Ok.bq (e_greedyIn hx g hw hn hq hS) ?_))
    rw [a1]
    refine Ok.ckT (inb_n (by omega) (by omega)) (OkwrE (Ok.ret ⟨?_, fun c hc => by rw [wr_off c hc]; exact sf c hc, fun i hi => ?_⟩))
    · show (nI (amk (gro n w q) j) ||| shl 1 (nI (gro n w q j)), nI j + 1) = _
      rw [shl_1 (by omega), nI_or, nI_1]
      rfl
    · rw [nI_cl (by omega)]
      by_cases e : i = j
      · subst e; rw [wrs]; rfl
      · rw [wrn e]; exact s1 i (by omega)
  · rintro c s' ⟨rfl, sf, s1⟩
    unfold SX8_makeGreedy_4
    dsimp only
    exact Ok.rdE (x := nI n) (by rw [sf x (by omega)]; exact h.1) (Ok.ifT (by rw [nI_leP (by omega) (by omega)]; omega) (Ok.ret ⟨sf, fun i hi => by rw [trm_in hi]; exact s1 i hi⟩))
section
variable {K K' : Nat → Nat → V4} {m m' s : Nat} {t : St}
theorem c_greedy {q : Nat} (hG : GK K m) (hs : s < 3) (hC : CST K m t) (hq : q < 7) (h2 : q ≠ 2) (h1 : 1 ≤ (K m s).1) : Ok (FX11_greedy (nI s) (nI q) t) (fun r u => r = nI (val (K m s).1 (K m s).2.2.1 q (trm (K m s).1 (gro (K m s).1 (K m s).2.2.1 q))) ∧ CNX K m s (vwo (K m s) (trm (K m s).1 (gro (K m s).1 (K m s).2.2.1 q))) u ∧ AF s t u) := by
  have hv := hG.2 m (Nat.le_refl _) s hs
  have hn : (K m s).1 < 10 := hv.1.1
  have hx := hC.1 s hs
  have g := n_sl hs
  have hgo : GO (K m s).1 (trm (K m s).1 (gro (K m s).1 (K m s).2.2.1 q)) := trm_go (gro_pfx (Nat.le_refl _))
  unfold FX11_greedy
  refine Ok.bq (g_netIn hs hn hx.1.1) ?_
  rw [if_neg (c := (K m s).1 = 0) (by omega)]
  refine Ok.ckT g (Ok.bq (g_pr hq) ?_)
  rw [if_neg h2]
  refine Ok.ifF (by decide) (Ok.bd _ (e_kept hG hs hC) ?_)
  rintro _ t1 ⟨k1, x1, f1⟩
  refine Ok.bd _ (e_makeGreedy x1.1 g hv.1.2.1 hn hq) ?_
  rintro _ t2 ⟨f2, o2⟩
  refine Ok.bd _ (c_note (v := vwo (K m s) (trm (K m s).1 (gro (K m s).1 (K m s).2.2.1 q))) hG hs (hv.vwo hgo) hC (fun c c1 c2 => by rw [f2 c (by omega)]; exact f1 c c2) (k1.fr4 (fun c c1 c2 => f2 c (by omega))) (x1.vwo f2 o2)) ?_
  rintro _ u ⟨u1, u2, u3⟩
  have xu : CS (12 + 24 * s) (vwo (K m s) (trm (K m s).1 (gro (K m s).1 (K m s).2.2.1 q))) u := (x1.vwo f2 o2).fr4 (fun c c1 c2 => u2 c (by omega))
  exact Ok.bq (q_measured xu.1 g hv.1.2.1 hn xu.2 (fun i _ => hgo.lt hn i) hq) (Ok.ret ⟨rfl, u1, u3⟩)
theorem m_greedy {q : Nat} (hG : GK K m) (hs : s < 3) (hM : MST K m t) (hq : q < 7) (h2 : q ≠ 2) (h1 : 1 ≤ (K m s).1) (hN : NXT K m s (vwo (K m s) (trm (K m s).1 (gro (K m s).1 (K m s).2.2.1 q))) K' m') : Ok (FX12_greedy (nI s) (nI q) t) (fun r u => r = nI (val (K m s).1 (K m s).2.2.1 q (trm (K m s).1 (gro (K m s).1 (K m s).2.2.1 q))) ∧ MST K' m' u) := by
  have hv := hG.2 m (Nat.le_refl _) s hs
  have hn : (K m s).1 < 10 := hv.1.1
  have hr := hM.2.1.rn hs
  have hgo : GO (K m s).1 (trm (K m s).1 (gro (K m s).1 (K m s).2.2.1 q)) := trm_go (gro_pfx (Nat.le_refl _))
  unfold FX12_greedy
  refine Ok.bq (g_isNet hs hn hr) ?_
  rw [if_neg (c := (K m s).1 = 0) (by omega)]
  refine Ok.ifF (by decide) (Ok.bq (g_msM hq) (Ok.ifF (by decide) (Ok.ifF (by rw [li_2, nI_lit hq (by omega)]; exact h2) ?_)))
  refine Ok.bd (fun _ u => (∀ c, c ≠ 154 → u c = t c) ∧ MO (K m s).1 (trm (K m s).1 (gro (K m s).1 (K m s).2.2.1 q)) u) ?_ ?_
  · refine Ok.count (K m s).1 (fun j c s' => c = (nI (amk (gro (K m s).1 (K m s).2.2.1 q) j), nI j) ∧ (∀ c, c ≠ 154 → s' c = t c) ∧ ∀ i, i < j → s' 154 i = nI (gro (K m s).1 (K m s).2.2.1 q i)) ?_ ?_ (Nat.zero_le _) ⟨rfl, fun _ _ => rfl, fun i hi => by omega⟩
    · rintro j c s' hj ⟨rfl, sf, s1⟩
      unfold SX12_greedy_28
      dsimp only
      have hx := hr.fr (sf 150 (by decide))
      have hp := gro_pfx (n := (K m s).1) (q := q) (w := (K m s).2.2.1) (i := j) (by omega)
      obtain ⟨a1, a2, a3⟩ := gro_s hp hj
      have hS : amk (gro (K m s).1 (K m s).2.2.1 q) j < 512 := Nat.lt_of_lt_of_le hp.2.1 (pow9 (by omega))
      refine Ok.bq (q_points hx hs) (Ok.ifF (by rw [nI_leP (by omega) (by omega)]; omega) (Ok.bq (m_greedyIn hx hs hv.1.2.1 hn hq hS) ?_))
      rw [a1]
      refine Ok.ckT (inb_n (by omega) (by omega)) (OkwrE (Ok.ret ⟨?_, fun c hc => by rw [wr_off c hc]; exact sf c hc, fun i hi => ?_⟩))
      · show (nI (amk (gro (K m s).1 (K m s).2.2.1 q) j) ||| shl 1 (nI (gro (K m s).1 (K m s).2.2.1 q j)), nI j + 1) = _
        rw [shl_1 (by omega), nI_or, nI_1]
        rfl
      · rw [nI_cl (by omega)]
        by_cases e : i = j
        · subst e; rw [wrs]; rfl
        · rw [wrn e]; exact s1 i (by omega)
    · rintro c s' ⟨rfl, sf, s1⟩
      unfold SX12_greedy_28
      dsimp only
      exact Ok.bq (q_points (hr.fr (sf 150 (by decide))) hs) (Ok.ifT (by rw [nI_leP (by omega) (by omega)]; omega) (Ok.ret ⟨sf, fun i hi => by rw [trm_in hi]; exact s1 i hi⟩))
  · rintro _ t2 ⟨f2, o2⟩
    have M2 : MST K m t2 := hM.fr (by rw [f2 149 (by decide)]) (f2 150 (by decide)) (f2 152 (by decide))
    refine Ok.bd _ (m_takesRow hG hs M2 (hv.vwo hgo) hN o2) ?_
    rintro _ u ⟨-, u1, u2, -⟩
    have hK := u1.2.1.rn hs
    rw [hN.cur, upA_s] at hK
    have ou : MO (K m s).1 (trm (K m s).1 (gro (K m s).1 (K m s).2.2.1 q)) u := fun i hi => by
      rw [u2 154 (by decide) (by decide) (by decide) (by decide)]
      exact o2 i hi
    exact Ok.bq (q_valueOf hK hs hv.1.2.1 hn ou (fun i _ => hgo.lt hn i) hq) (Ok.ret ⟨rfl, u1⟩)
end
end
section
/-! all that is near a set; how far points are -/
def grw (n : Nat) (w : Nat → Nat → Nat) (S : Nat) : Nat := S ||| orw S (nr w) n
theorem nr_l {n a : Nat} {w : Nat → Nat → Nat} (hw : WF n w) : nr w a < 2 ^ n := by
  refine Nat.lt_pow_two_of_testBit _ (fun i hi => ?_)
  by_cases c : i < 9
  · rw [nr_bit c, hw.r hi]
    exact decide_eq_false (by omega)
  · exact lt_pow_bit (n := 9) nr_lt (by omega)
theorem orw_n {n W : Nat} {f : Nat → Nat} (hf : ∀ i, f i < 2 ^ n) : ∀ {m : Nat}, orw W f m < 2 ^ n
  | 0 => Nat.two_pow_pos n
  | m + 1 => by
    refine Nat.or_lt_two_pow (orw_n hf) ?_
    by_cases c : W.testBit m = true
    · rw [if_pos c]; exact hf m
    · rw [if_neg c]; exact Nat.two_pow_pos n
theorem grw_n {n S : Nat} {w : Nat → Nat → Nat} (hw : WF n w) (hS : S < 2 ^ n) : grw n w S < 2 ^ n := Nat.or_lt_two_pow hS (orw_n (fun _ => nr_l hw))
theorem grw_b {n S k : Nat} {w : Nat → Nat → Nat} : (grw n w S).testBit k = true ↔ S.testBit k = true ∨ ∃ i, i < n ∧ S.testBit i = true ∧ (nr w i).testBit k = true := by
  unfold grw
  rw [or_b, orw_bit]
def gsq (n : Nat) (w : Nat → Nat → Nat) (S : Nat) : Nat → Nat
  | 0 => S
  | k + 1 => grw n w (gsq n w S k)
theorem gsq_n {n S : Nat} {w : Nat → Nat → Nat} (hw : WF n w) (hS : S < 2 ^ n) : ∀ {k : Nat}, gsq n w S k < 2 ^ n
  | 0 => hS
  | k + 1 => grw_n hw (gsq_n hw hS)
theorem gsq_up {n S j q : Nat} {w : Nat → Nat → Nat} (h : (gsq n w S j).testBit q = true) : ∀ {k : Nat}, j ≤ k → (gsq n w S k).testBit q = true
  | 0, hk => by
    have : j = 0 := by omega
    subst this
    exact h
  | k + 1, hk => by
    by_cases e : j = k + 1
    · subst e; exact h
    · exact grw_b.mpr (Or.inl (gsq_up h (by omega)))
theorem gsq_st {n S k : Nat} {w : Nat → Nat → Nat} (h : gsq n w S (k + 1) = gsq n w S k) : ∀ {j : Nat}, gsq n w S (k + j) = gsq n w S k
  | 0 => rfl
  | j + 1 => by
    show grw n w (gsq n w S (k + j)) = _
    rw [gsq_st h]
    exact h
theorem cnt_st {S T n : Nat} (h : ∀ k, S.testBit k = true → T.testBit k = true) (hS : S < 2 ^ n) (hT : T < 2 ^ n) (hne : T ≠ S) : cnt S n + 1 ≤ cnt T n := by
  have a := cnt_mn h (n := n)
  by_cases e : cnt S n = cnt T n
  · exact absurd (bit_ext hT hS (fun k hk => (cnt_eqb h e k hk).symm)) hne
  · omega
theorem gsq_cnt {n S : Nat} {w : Nat → Nat → Nat} (hw : WF n w) (hS : S < 2 ^ n) (h1 : 1 ≤ cnt S n) : ∀ {k : Nat}, (∀ i, i < k → gsq n w S (i + 1) ≠ gsq n w S i) → k + 1 ≤ cnt (gsq n w S k) n
  | 0, _ => by
    show 0 + 1 ≤ cnt S n
    omega
  | k + 1, h => by
    have ih := gsq_cnt hw hS h1 (k := k) (fun i hi => h i (by omega))
    have := cnt_st (S := gsq n w S k) (T := gsq n w S (k + 1)) (n := n) (fun q hq => grw_b.mpr (Or.inl hq)) (gsq_n hw hS) (gsq_n hw hS) (h k (by omega))
    omega
/-- the first k below n of which P is true; 9 without -/
def fsf (P : Nat → Bool) : Nat → Nat
  | 0 => 9
  | k + 1 => if fsf P k < 9 then fsf P k else if P k = true then k else 9
theorem fsf_in {P : Nat → Bool} : ∀ {n : Nat}, n ≤ 9 → (fsf P n = 9 ∧ ∀ j, j < n → P j = false) ∨ (fsf P n < n ∧ P (fsf P n) = true ∧ ∀ j, j < fsf P n → P j = false)
  | 0, _ => Or.inl ⟨rfl, fun j hj => by omega⟩
  | n + 1, hn => by
    rw [fsf]
    rcases fsf_in (P := P) (n := n) (by omega) with ⟨a, b⟩ | ⟨a, b, c⟩
    · rw [if_neg (by omega)]
      by_cases e : P n = true
      · rw [if_pos e]; exact Or.inr ⟨by omega, e, b⟩
      · rw [if_neg e]
        refine Or.inl ⟨rfl, fun j hj => ?_⟩
        by_cases q : j = n
        · rw [q]; exact bF e
        · exact b j (by omega)
    · rw [if_pos (by omega)]
      exact Or.inr ⟨by omega, b, c⟩
theorem fsf_eq {P : Nat → Bool} {n k : Nat} (hn : n ≤ 9) (hk : k < n) (h : P k = true) (h0 : ∀ j, j < k → P j = false) : fsf P n = k := by
  rcases fsf_in (P := P) hn with ⟨-, b⟩ | ⟨a, b, c⟩
  · rw [b k hk] at h; cases h
  · rcases (show fsf P n < k ∨ fsf P n = k ∨ k < fsf P n by omega) with q | q | q
    · rw [h0 _ q] at b; cases b
    · exact q
    · rw [c k q] at h; cases h
theorem fsf_no {P : Nat → Bool} {n : Nat} (hn : n ≤ 9) (h0 : ∀ j, j < n → P j = false) : fsf P n = 9 := by
  rcases fsf_in (P := P) hn with ⟨a, -⟩ | ⟨a, b, -⟩
  · exact a
  · rw [h0 _ a] at b; cases b
/-- how many lines it is from a to b; 9: there is no way -/
def dst (n : Nat) (w : Nat → Nat → Nat) (a b : Nat) : Nat := fsf (fun k => (gsq n w (2 ^ a) k).testBit b) n
theorem dst_in {n a b : Nat} {w : Nat → Nat → Nat} (hn : n < 10) : (dst n w a b = 9 ∧ ∀ j, j < n → (gsq n w (2 ^ a) j).testBit b = false) ∨ (dst n w a b < n ∧ (gsq n w (2 ^ a) (dst n w a b)).testBit b = true ∧ ∀ j, j < dst n w a b → (gsq n w (2 ^ a) j).testBit b = false) := fsf_in (P := fun k => (gsq n w (2 ^ a) k).testBit b) (by omega)
theorem dst_le {n a b : Nat} {w : Nat → Nat → Nat} (hn : n < 10) : dst n w a b ≤ 9 := by
  rcases dst_in (a := a) (b := b) (w := w) hn with ⟨h, -⟩ | ⟨h, -⟩ <;> omega
def dI (d : Nat) : Int32 := if d = 9 then -1 else nI d
theorem dI_eq {c d : Nat} (hc : c ≤ 9) (hd : d ≤ 9) : (dI c = dI d) = (c = d) := by
  refine propext ⟨fun h => ?_, fun h => by rw [h]⟩
  unfold dI at h
  by_cases e : c = 9
  · rw [if_pos e] at h
    by_cases f : d = 9
    · omega
    · rw [if_neg f] at h
      exact absurd h.symm (n1n (by omega))
  · rw [if_neg e] at h
    by_cases f : d = 9
    · rw [if_pos f] at h
      exact absurd h (n1n (by omega))
    · rw [if_neg f] at h
      exact nI_inj h (by omega) (by omega)
theorem q_grown {x n l S : Nat} {w : Nat → Nat → Nat} {t : St} (h : CN x n l w t) (g : netAt x = true) (hn : n < 10) (hS : S < 512) : FX10_grown x (nI S) t = some (nI (grw n w S), t) := by
  refine Ok.eq ?_
  unfold FX10_grown
  refine Ok.ckT g (Ok.bq (a := nI (grw n w S)) (t := t) (wq0 n (fun j => (nI (S ||| orw S (nr w) j), nI j)) (by show _ = (nI (S ||| 0), nI 0); rw [Nat.or_zero]; rfl) (fun j hj => ?_) ?_) (Ok.ret ⟨rfl, rfl⟩))
  · unfold SX10_grown_4
    dsimp only
    refine Ok.rdE h.1 (Ok.ifF (by rw [nI_leP (by omega) (by omega)]; omega) ?_)
    refine Ok.bq (a := nI (S ||| orw S (nr w) (j + 1))) (t := t) (Ok.eq ?_) (Ok.ret ⟨rfl, by rw [nI_1]⟩)
    show Ok _ (fun r u => t = u ∧ r = nI (S ||| (orw S (nr w) j ||| (if S.testBit j = true then nr w j else 0))))
    refine Ok.cv (bitn (by omega) (by omega)) (Ok.ite (fun c => Ok.ret ⟨rfl, ?_⟩) (fun c => Ok.ckT (inb_n (by omega) (by omega)) ?_))
    · rw [if_neg (by rw [c]; decide), Nat.or_zero]
    · rw [nI_cl (by omega)]
      refine Ok.rdE (h.2.2.1 j (by omega)) (Ok.ret ⟨rfl, ?_⟩)
      rw [if_pos (bT c), nI_or, Nat.or_assoc]
  · unfold SX10_grown_4
    dsimp only
    exact Ok.rdE h.1 (Ok.ifT (by rw [nI_leP (by omega) (by omega)]; omega) (Ok.ret ⟨rfl, rfl⟩))
theorem m_grown {s n S : Nat} {w : Nat → Nat → Nat} {t : St} {w3 w5 : Int32} (h : RN s n w t) (hs : s < 3) (hw : WF n w) (hn : n < 10) (hS : S < 512) : wh (SX12_farOf_24 (nI s) w3 (nI S) w5) (nI S, (0 : Int32)) t = some (nI (grw n w S), t) := by
  refine wq0 n (fun j => (nI (S ||| orw S (nr w) j), nI j)) (by show _ = (nI (S ||| 0), nI 0); rw [Nat.or_zero]; rfl) (fun j hj => ?_) ?_
  · unfold SX12_farOf_24
    dsimp only
    refine Ok.bq (q_points h hs) (Ok.ifF (by rw [nI_leP (by omega) (by omega)]; omega) (Ok.bq (q_has (by omega) (by omega)) ?_))
    refine Ok.bq (a := nI (if S.testBit j = true then nr w j else 0)) (t := t) (Ok.eq (Ok.cv b01 (Ok.ite (fun c => Ok.ret ⟨rfl, ?_⟩) (fun c => Ok.bq (q_nearOf h hs hn hw (by omega)) (Ok.ret ⟨rfl, ?_⟩))))) (Ok.ret ⟨rfl, ?_⟩)
    · rw [if_neg (by rw [c]; decide)]; rfl
    · rw [if_pos (bT c)]
    · rw [nI_or, nI_1, Nat.or_assoc]
      rfl
  · unfold SX12_farOf_24
    dsimp only
    exact Ok.bq (q_points h hs) (Ok.ifT (by rw [nI_leP (by omega) (by omega)]; omega) (Ok.ret ⟨rfl, rfl⟩))
theorem pw_n {a n : Nat} (h : a < n) : 2 ^ a < 2 ^ n := Nat.pow_lt_pow_right (by omega) h
theorem cnt_1 {a n : Nat} (h : a < n) : 1 ≤ cnt (2 ^ a) n := by
  have := cnt_st (S := 0) (T := 2 ^ a) (n := n) (fun k hk => by rw [Nat.zero_testBit] at hk; cases hk) (Nat.two_pow_pos n) (pw_n h) (by have := Nat.two_pow_pos a; omega)
  omega
theorem gsq_9 {n S k : Nat} {w : Nat → Nat → Nat} (hw : WF n w) (hn : n < 10) (hS : S < 2 ^ n) : gsq n w S k < 512 := Nat.lt_of_lt_of_le (gsq_n hw hS) (pow9 (by omega))
theorem q_distance {x n l a b : Nat} {w : Nat → Nat → Nat} {t : St} (h : CN x n l w t) (g : netAt x = true) (hw : WF n w) (hn : n < 10) (ha : a < n) (hb : b < n) : FX10_distance x (nI a) (nI b) t = some (dI (dst n w a b), t) := by
  refine Ok.eq ?_
  unfold FX10_distance
  have hS := pw_n ha
  refine Ok.ckT g (Ok.bd (fun r u => t = u ∧ Sum.elim (fun v => v = dI (dst n w a b)) (fun _ => dst n w a b = 9) r) ?_ ?_)
  · refine Ok.count n (fun j c s => t = s ∧ c = (nI (gsq n w (2 ^ a) j), nI j) ∧ ∀ i, i < j → (gsq n w (2 ^ a) i).testBit b = false) ?_ ?_ (Nat.zero_le _) ⟨rfl, by rw [li_1, li_0, shl_1b (by omega)]; rfl, fun i hi => by omega⟩
    · rintro j c s hj ⟨rfl, rfl, hI⟩
      unfold SX10_distance_7
      dsimp only
      have h9 := gsq_9 (k := j) hw hn hS
      refine Ok.rdE h.1 (Ok.ifF (by rw [nI_leP (by omega) (by omega)]; omega) (Ok.cv (bitn (by omega) (by omega)) (Ok.ite (fun c => Ok.bq (q_grown h g hn h9) (Ok.ret ⟨rfl, by rw [nI_1]; rfl, fun i hi => ?_⟩)) (fun c => Ok.ret ⟨rfl, ?_⟩))))
      · by_cases e : i = j
        · rw [e]; exact c
        · exact hI i (by omega)
      · show nI j = dI (dst n w a b)
        have : dst n w a b = j := fsf_eq (by omega) hj (bT c) hI
        rw [this]
        unfold dI
        rw [if_neg (by omega)]
    · rintro c s ⟨rfl, rfl, hI⟩
      unfold SX10_distance_7
      dsimp only
      exact Ok.rdE h.1 (Ok.ifT (by rw [nI_leP (by omega) (by omega)]; omega) (Ok.ret ⟨rfl, fsf_no (by omega) hI⟩))
  · rintro (r | r) _ ⟨rfl, e⟩
    · exact Ok.ret ⟨rfl, e⟩
    · have e : dst n w a b = 9 := e
      refine Ok.ret ⟨rfl, ?_⟩
      unfold dI
      rw [if_pos e]
theorem q_farOf {s n a b : Nat} {w : Nat → Nat → Nat} {t : St} (h : RN s n w t) (hs : s < 3) (hw : WF n w) (hn : n < 10) (ha : a < n) (hb : b < n) : FX12_farOf (nI s) (nI a) (nI b) t = some (dI (dst n w a b), t) := by
  refine Ok.eq ?_
  unfold FX12_farOf
  have hS := pw_n ha
  refine Ok.bd (fun r u => t = u ∧ Sum.elim (fun v => v = dI (dst n w a b)) (fun v => v = dI (dst n w a b)) r) ?_ ?_
  · refine Ok.count n (fun j c s' => t = s' ∧ c = (nI (gsq n w (2 ^ a) j), nI j) ∧ (∀ i, i < j → (gsq n w (2 ^ a) i).testBit b = false) ∧ ∀ i, i < j → gsq n w (2 ^ a) (i + 1) ≠ gsq n w (2 ^ a) i) ?_ ?_ (Nat.zero_le _) ⟨rfl, by rw [li_1, li_0, shl_1b (by omega)]; rfl, fun i hi => by omega, fun i hi => by omega⟩
    · rintro j c s' hj ⟨rfl, rfl, hI, hJ⟩
      unfold SX12_farOf_8
      dsimp only
      have h9 := gsq_9 (k := j) hw hn hS
      have h9' := gsq_9 (k := j + 1) hw hn hS
      refine Ok.bq (q_has (by omega) (by omega)) (Ok.cv b01 (Ok.ite (fun c => Ok.bq (m_grown h hs hw hn h9) ?_) (fun c => Ok.ret ⟨rfl, ?_⟩)))
      · have e1 : grw n w (gsq n w (2 ^ a) j) = gsq n w (2 ^ a) (j + 1) := rfl
        rw [e1]
        have hI1 : ∀ i, i < j + 1 → (gsq n w (2 ^ a) i).testBit b = false := fun i hi => by
          by_cases e : i = j
          · rw [e]; exact c
          · exact hI i (by omega)
        refine Ok.cv (nI_eqP (by omega) (by omega)) (Ok.ite (fun c2 => Ok.ret ⟨rfl, ?_⟩) (fun c2 => Ok.ret ⟨rfl, by rw [nI_1], hI1, fun i hi => ?_⟩))
        · show (-1 : Int32) = dI (dst n w a b)
          have : dst n w a b = 9 := fsf_no (by omega) (fun i hi => by
            show (gsq n w (2 ^ a) i).testBit b = false
            by_cases e : i ≤ j
            · exact hI1 i (by omega)
            · have q := gsq_st c2 (j := i - j)
              rw [show j + (i - j) = i by omega] at q
              rw [q]
              exact c)
          rw [this]
          rfl
        · by_cases e : i = j
          · rw [e]; exact c2
          · exact hJ i (by omega)
      · show nI j = dI (dst n w a b)
        have : dst n w a b = j := fsf_eq (by omega) hj (bT c) hI
        rw [this]
        unfold dI
        rw [if_neg (by omega)]
    · rintro c s' ⟨rfl, rfl, hI, hJ⟩
      have a1 := gsq_cnt hw hS (cnt_1 ha) hJ
      have a2 : cnt (gsq n w (2 ^ a) n) n ≤ n := cnt_le
      omega
  · rintro (r | r) _ ⟨rfl, e⟩
    · exact Ok.ret ⟨rfl, e⟩
    · exact Ok.ret ⟨rfl, e⟩
end
section
/-! layers: the row by how far points are, then by numbers -/
def cky (n : Nat) (d : Nat → Nat) (T : Nat) : Nat := sm n (fun q => if 16 * d q + q < T then 1 else 0)
theorem sm_pt {f : Nat → Nat} {j : Nat} : ∀ {n : Nat}, (∀ i, i < n → i ≠ j → f i = 0) → sm n f = if j < n then f j else 0
  | 0, _ => by rw [if_neg (by omega)]; rfl
  | n + 1, h => by
    show sm n f + f n = _
    rw [sm_pt (n := n) (fun i hi hn => h i (by omega) hn)]
    by_cases e : j = n
    · subst e
      rw [if_neg (by omega), if_pos (by omega), Nat.zero_add]
    · rw [h n (by omega) (fun q => e q.symm)]
      by_cases c : j < n
      · rw [if_pos c, if_pos (by omega)]; rfl
      · rw [if_neg c, if_neg (by omega)]
theorem cky_s {n k j : Nat} {d : Nat → Nat} (hn : n < 10) (hj : j < 16) : cky n d (16 * k + j + 1) = cky n d (16 * k + j) + (if j < n ∧ d j = k then 1 else 0) := by
  have e : cky n d (16 * k + j + 1) = sm n (fun q => (if 16 * d q + q < 16 * k + j then 1 else 0) + (if 16 * d q + q = 16 * k + j then 1 else 0)) := by
    refine sm_congr (fun q hq => ?_)
    by_cases c : 16 * d q + q < 16 * k + j
    · rw [if_pos c, if_pos (by omega), if_neg (by omega)]
    · by_cases c2 : 16 * d q + q = 16 * k + j
      · rw [if_neg c, if_pos (by omega), if_pos c2]
      · rw [if_neg c, if_neg (by omega), if_neg c2]
  rw [e, sm_add, sm_pt (f := fun q => if 16 * d q + q = 16 * k + j then 1 else 0) (j := j) (fun i hi hne => if_neg (by omega))]
  unfold cky
  congr 1
  by_cases c : j < n
  · rw [if_pos c]
    by_cases c2 : d j = k
    · rw [if_pos (by omega), if_pos ⟨c, c2⟩]
    · rw [if_neg (by omega), if_neg (fun q => c2 q.2)]
  · rw [if_neg c, if_neg (fun q => c q.1)]
theorem cky_mono {n T U : Nat} {d : Nat → Nat} (h : T ≤ U) : cky n d T ≤ cky n d U := sm_mono (fun q _ => by
  by_cases c : 16 * d q + q < T
  · rw [if_pos c, if_pos (by omega)]; exact Nat.le_refl _
  · rw [if_neg c]; exact Nat.zero_le _)
theorem cky_le {n T : Nat} {d : Nat → Nat} : cky n d T ≤ n := sm_le1 (fun i => by split <;> omega)
theorem cky_0 {n : Nat} {d : Nat → Nat} : cky n d 0 = 0 := sm_zero (fun i _ => if_neg (by omega))
theorem cky_key {n q : Nat} {d : Nat → Nat} (hn : n < 10) (hq : q < n) : cky n d (16 * d q + q + 1) = cky n d (16 * d q + q) + 1 := by
  rw [cky_s hn (by omega), if_pos ⟨hq, rfl⟩]
def rnk (n : Nat) (d : Nat → Nat) (q : Nat) : Nat := cky n d (16 * d q + q)
theorem rnk_lt {n q : Nat} {d : Nat → Nat} (hn : n < 10) (hq : q < n) : rnk n d q < n := by
  have := cky_key (d := d) hn hq
  have := cky_le (n := n) (d := d) (T := 16 * d q + q + 1)
  unfold rnk
  omega
theorem rnk_ltk {n q T : Nat} {d : Nat → Nat} (hn : n < 10) (hq : q < n) (h : 16 * d q + q < T) : rnk n d q < cky n d T := by
  have := cky_key (d := d) hn hq
  have := cky_mono (n := n) (d := d) (T := 16 * d q + q + 1) (U := T) (by omega)
  unfold rnk
  omega
theorem rnk_inj {n q r : Nat} {d : Nat → Nat} (hn : n < 10) (hq : q < n) (hr : r < n) (h : rnk n d q = rnk n d r) : q = r := by
  rcases (show 16 * d q + q < 16 * d r + r ∨ 16 * d q + q = 16 * d r + r ∨ 16 * d r + r < 16 * d q + q by omega) with c | c | c
  · have : rnk n d q < rnk n d r := rnk_ltk hn hq c
    omega
  · omega
  · have : rnk n d r < rnk n d q := rnk_ltk hn hr c
    omega
noncomputable def lyr (n : Nat) (d : Nat → Nat) (i : Nat) : Nat := @dite Nat (∃ q, q < n ∧ rnk n d q = i) (Classical.propDecidable _) (fun h => Classical.choose h) (fun _ => 0)
theorem lyr_at {n q : Nat} {d : Nat → Nat} (hn : n < 10) (hq : q < n) : lyr n d (rnk n d q) = q := by
  have hx : ∃ r, r < n ∧ rnk n d r = rnk n d q := ⟨q, hq, rfl⟩
  unfold lyr
  rw [dif_pos hx]
  have h := Classical.choose_spec hx
  exact rnk_inj hn h.1 hq h.2
theorem lyr_lt {n i : Nat} {d : Nat → Nat} (h0 : 0 < n) : lyr n d i < n := by
  unfold lyr
  by_cases hx : ∃ r, r < n ∧ rnk n d r = i
  · rw [dif_pos hx]
    exact (Classical.choose_spec hx).1
  · rw [dif_neg hx]
    exact h0
theorem pfx_id {n : Nat} : PFX n n (fun i => i) := pfx_of (fun i hi => ⟨hi, lt_pow_bit (n := i) (amk_lt2 (fun k hk => hk)) (Nat.le_refl _)⟩) (Nat.le_refl _)
theorem lyr_pfx {n : Nat} {d : Nat → Nat} (hn : n < 10) : PFX n n (lyr n d) := pfx_perm pfx_id (fun k hk => lyr_lt (by omega)) (fun k hk => ⟨rnk n d k, rnk_lt hn hk, lyr_at hn hk⟩)
theorem ivt {c : Nat → Nat} (h0 : c 0 = 0) (hs : ∀ T, c (T + 1) ≤ c T + 1) : ∀ (T i : Nat), i < c T → ∃ U, c U = i ∧ c (U + 1) = i + 1
  | 0, i, h => by omega
  | T + 1, i, h => by
    by_cases e : i < c T
    · exact ivt h0 hs T i e
    · have := hs T
      exact ⟨T, by omega, by omega⟩
theorem cky_s1 {n T : Nat} {d : Nat → Nat} (hn : n < 10) : cky n d (T + 1) = cky n d T + (if T % 16 < n ∧ d (T % 16) = T / 16 then 1 else 0) := by
  have := cky_s (n := n) (d := d) (k := T / 16) (j := T % 16) hn (by omega)
  rw [show 16 * (T / 16) + T % 16 = T by omega] at this
  exact this
theorem rnk_on {n i : Nat} {d : Nat → Nat} (hn : n < 10) (hd : ∀ q, q < n → d q ≤ 9) (hi : i < n) : ∃ q, q < n ∧ rnk n d q = i := by
  have e : cky n d 160 = n := by
    have : cky n d 160 = sm n (fun _ => 1) := sm_congr (fun q hq => if_pos (by have := hd q hq; omega))
    rw [this]
    clear this hd hi hn
    induction n with
    | zero => rfl
    | succ n ih => show sm n (fun _ => 1) + 1 = n + 1; rw [ih]
  obtain ⟨U, h1, h2⟩ := ivt (c := cky n d) cky_0 (fun T => by rw [cky_s1 hn]; split <;> omega) 160 i (by omega)
  rw [cky_s1 hn, h1] at h2
  by_cases c : U % 16 < n ∧ d (U % 16) = U / 16
  · refine ⟨U % 16, c.1, ?_⟩
    unfold rnk
    rw [c.2, show 16 * (U / 16) + U % 16 = U by omega]
    exact h1
  · rw [if_neg c] at h2
    omega
/-- so far the row stands at place b, from e on -/
def LI (n : Nat) (d : Nat → Nat) (b T : Nat) (t : St) : Prop := ∀ q, q < n → 16 * d q + q < T → t b (rnk n d q) = nI q
theorem LI.s {n k j b : Nat} {d : Nat → Nat} {t u : St} (hn : n < 10) (h : LI n d b (16 * k + j) t) (hj : j < n) (hd : d j = k) (e : u = wr t b (cky n d (16 * k + j)) (nI j)) : LI n d b (16 * k + j + 1) u := by
  subst e
  intro q hq hT
  by_cases c : 16 * d q + q < 16 * k + j
  · rw [wrn (by have := rnk_ltk hn hq c; omega)]
    exact h q hq c
  · have : q = j := by omega
    subst this
    have : rnk n d q = cky n d (16 * k + q) := by unfold rnk; rw [hd]
    rw [this, wrs]
theorem LI.k {n k j b : Nat} {d : Nat → Nat} {t : St} (hn : n < 10) (h : LI n d b (16 * k + j) t) (hj : j < 16) (hd : ¬ (j < n ∧ d j = k)) : LI n d b (16 * k + j + 1) t := by
  intro q hq hT
  refine h q hq ?_
  by_cases c : q = j
  · subst c
    have : d q ≠ k := fun e => hd ⟨hq, e⟩
    omega
  · omega
theorem LI.fin {n b : Nat} {d : Nat → Nat} {t : St} (hn : n < 10) (hd : ∀ q, q < n → d q ≤ 9) (h : LI n d b 160 t) : ∀ i, i < n → t b i = nI (trm n (lyr n d) i) := by
  intro i hi
  obtain ⟨q, hq, rfl⟩ := rnk_on hn hd hi
  rw [trm_in hi, lyr_at hn hq]
  exact h q hq (by have := hd q hq; omega)
theorem cky_e {n k : Nat} {d : Nat → Nat} (hn : n < 10) : cky n d (16 * k + n) = cky n d (16 * (k + 1)) := sm_congr (fun q hq => by
  by_cases c : 16 * d q + q < 16 * k + n
  · rw [if_pos c, if_pos (by omega)]
  · rw [if_neg c, if_neg (by omega)])
theorem LI.e {n k b : Nat} {d : Nat → Nat} {t : St} (hn : n < 10) (h : LI n d b (16 * k + n) t) : LI n d b (16 * (k + 1)) t := fun q hq hT => h q hq (by omega)
/-! the class -/
theorem e_putInRow {x n l k S : Nat} {w : Nat → Nat → Nat} {d : Nat → Nat} {t : St} (h : CN x n l w t) (g : netAt x = true) (hn : n < 10) (hS : S < 512) (hb : ∀ q, q < n → (S.testBit q = true ↔ d q = k)) (hL : LI n d (x + 2) (16 * k) t) : Ok (FX8_putInRow x (nI (cky n d (16 * k))) (nI S) t) (fun r u => r = nI (cky n d (16 * (k + 1))) ∧ (∀ c, c ≠ x + 2 → u c = t c) ∧ LI n d (x + 2) (16 * (k + 1)) u) := by
  unfold FX8_putInRow
  refine Ok.ckT g (Ok.bd (fun r u => r = nI (cky n d (16 * (k + 1))) ∧ (∀ c, c ≠ x + 2 → u c = t c) ∧ LI n d (x + 2) (16 * (k + 1)) u) ?_ (fun _ _ hu => Ok.ret hu))
  refine Ok.count n (fun j c s => c = (nI (cky n d (16 * k + j)), nI j) ∧ (∀ c, c ≠ x + 2 → s c = t c) ∧ LI n d (x + 2) (16 * k + j) s) ?_ ?_ (Nat.zero_le _) ⟨rfl, fun _ _ => rfl, hL⟩
  · rintro j c s hj ⟨rfl, sf, s1⟩
    unfold SX8_putInRow_5
    dsimp only
    have e0 : s x 0 = nI n := by rw [sf x (by omega)]; exact h.1
    have hc := cky_le (n := n) (d := d) (T := 16 * k + j + 1)
    have hs := cky_s (n := n) (d := d) (k := k) (j := j) hn (by omega)
    refine Ok.rdE e0 (Ok.ifF (by rw [nI_leP (by omega) (by omega)]; omega) ?_)
    refine Ok.bd (fun r u => r = nI (cky n d (16 * k + j + 1)) ∧ (∀ c, c ≠ x + 2 → u c = t c) ∧ LI n d (x + 2) (16 * k + j + 1) u) ?_ ?_
    · refine Ok.cv (bitn (by omega) (by omega)) (Ok.ite (fun c => Ok.ret ?_) (fun c => ?_))
      · have c2 : ¬ (j < n ∧ d j = k) := fun q => by rw [(hb j hj).mpr q.2] at c; cases c
        rw [if_neg c2] at hs
        exact ⟨by rw [show cky n d (16 * k + j + 1) = cky n d (16 * k + j) by omega], sf, s1.k hn (by omega) c2⟩
      · have c2 := (hb j hj).mp (bT c)
        rw [if_pos ⟨hj, c2⟩] at hs
        refine Ok.rdE e0 (Ok.ifF (by rw [nI_leP (by omega) (by omega)]; omega) (Ok.ckT (inb_n (by omega) (by omega)) (OkwrE (Ok.ret ⟨by rw [nI_1, hs], fun c hc => by rw [wr_off c hc]; exact sf c hc, ?_⟩))))
        rw [nI_cl (by omega)]
        exact s1.s hn hj c2 rfl
    · rintro _ u ⟨rfl, u1, u2⟩
      exact Ok.ret ⟨by rw [nI_1]; rfl, u1, u2⟩
  · rintro c s ⟨rfl, sf, s1⟩
    unfold SX8_putInRow_5
    dsimp only
    refine Ok.rdE (x := nI n) (by rw [sf x (by omega)]; exact h.1) (Ok.ifT (by rw [nI_leP (by omega) (by omega)]; omega) (Ok.ret ⟨by rw [cky_e hn], sf, s1.e hn⟩))
/-- what is reached ahead of step k -/
def rbf (n : Nat) (w : Nat → Nat → Nat) (p : Nat) : Nat → Nat
  | 0 => 0
  | k + 1 => gsq n w (2 ^ p) k
theorem e_makeLayers {x n l p : Nat} {w : Nat → Nat → Nat} {t : St} (h : CN x n l w t) (g : netAt x = true) (hw : WF n w) (hn : n < 10) (hp : p < n) : Ok (FX8_makeLayers x (nI p) t) (fun _ u => (∀ c, c ≠ x + 2 → u c = t c) ∧ CO x n (trm n (lyr n (dst n w p))) u) := by
  have hS := pw_n hp
  have r9 : ∀ k, rbf n w p k < 512 := fun k => by
    cases k with
    | zero => exact (by omega : 0 < 512)
    | succ k => exact gsq_9 hw hn hS
  unfold FX8_makeLayers
  refine Ok.ckT g (Ok.bd (fun r u => r = (nI (cky n (dst n w p) (16 * n)), nI (rbf n w p n)) ∧ (∀ c, c ≠ x + 2 → u c = t c) ∧ LI n (dst n w p) (x + 2) (16 * n) u) ?_ ?_)
  · refine Ok.count n (fun k c s => c = (nI (cky n (dst n w p) (16 * k)), nI (rbf n w p k), nI (gsq n w (2 ^ p) k), nI k) ∧ (∀ c, c ≠ x + 2 → s c = t c) ∧ LI n (dst n w p) (x + 2) (16 * k) s) ?_ ?_ (Nat.zero_le _) ⟨by rw [cky_0, li_1, li_0, shl_1b (by omega)]; rfl, fun _ _ => rfl, fun q hq hT => by omega⟩
    · rintro k c s hk ⟨rfl, sf, s1⟩
      unfold SX8_makeLayers_12
      dsimp only
      have hx : CN x n l w s := h.fr (sf x (by omega)) (sf _ (by omega)) (sf _ (by omega))
      have h9 := gsq_9 (k := k) hw hn hS
      have hor : rbf n w p k ||| gsq n w (2 ^ p) k = gsq n w (2 ^ p) k := by
        cases k with
        | zero => exact Nat.zero_or _
        | succ k =>
          refine bit_ext (n := 9) (or9 (gsq_9 hw hn hS) h9) h9 (fun q _ => ?_)
          rw [Nat.testBit_or]
          show ((gsq n w (2 ^ p) k).testBit q || _) = _
          cases e : (gsq n w (2 ^ p) k).testBit q
          · rfl
          · rw [gsq_up (k := k + 1) e (by omega)]; rfl
      refine Ok.rdE hx.1 (Ok.ifF (by rw [nI_leP (by omega) (by omega)]; omega) ?_)
      rw [nI_dif h9 (r9 k)]
      refine Ok.bd _ (e_putInRow (k := k) (d := dst n w p) hx g hn (dif_lt h9) (fun q hq => ?_) s1) ?_
      · rw [dif_b h9]
        constructor
        · rintro ⟨a, b⟩
          refine fsf_eq (by omega) hk a (fun j hj => ?_)
          cases k with
          | zero => omega
          | succ k =>
            cases e : (gsq n w (2 ^ p) j).testBit q
            · rfl
            · have b : (gsq n w (2 ^ p) k).testBit q = false := b
              rw [gsq_up (k := k) e (by omega)] at b
              cases b
        · intro e
          rcases dst_in (a := p) (b := q) (w := w) hn with ⟨a, -⟩ | ⟨a, b, c⟩
          · omega
          · rw [e] at b c
            refine ⟨b, ?_⟩
            cases k with
            | zero => exact Nat.zero_testBit _
            | succ k => exact c k (by omega)
      · rintro _ u ⟨rfl, u1, u2⟩
        rw [nI_or, hor]
        have hu : CN x n l w u := hx.fr (u1 x (by omega)) (u1 _ (by omega)) (u1 _ (by omega))
        exact Ok.bq (q_grown hu g hn h9) (Ok.ret ⟨by rw [nI_1]; rfl, fun c hc => by rw [u1 c hc]; exact sf c hc, u2⟩)
    · rintro c s ⟨rfl, sf, s1⟩
      unfold SX8_makeLayers_12
      dsimp only
      exact Ok.rdE (x := nI n) (by rw [sf x (by omega)]; exact h.1) (Ok.ifT (by rw [nI_leP (by omega) (by omega)]; omega) (Ok.ret ⟨rfl, sf, s1⟩))
  · rintro _ t1 ⟨rfl, f1, L1⟩
    have hx : CN x n l w t1 := h.fr (f1 x (by omega)) (f1 _ (by omega)) (f1 _ (by omega))
    have a9 : 2 ^ n - 1 < 512 := by have := pow9 (k := n) (by omega); have := Nat.two_pow_pos n; omega
    have dd : ∀ q, q < n → dst n w p q < n ∨ dst n w p q = 9 := fun q hq => by
      rcases dst_in (a := p) (b := q) (w := w) hn with ⟨a, -⟩ | ⟨a, -⟩
      · exact Or.inr a
      · exact Or.inl a
    have ec : cky n (dst n w p) (16 * n) = cky n (dst n w p) (16 * 9) := sm_congr (fun q hq => by
      have := dd q hq
      by_cases c : 16 * dst n w p q + q < 16 * n
      · rw [if_pos c, if_pos (by omega)]
      · rw [if_neg c, if_neg (by omega)])
    refine Ok.bd _ (e_allBits hx hn g (Q := fun r u => r = nI (2 ^ n - 1) ∧ t1 = u) ⟨rfl, rfl⟩) ?_
    rintro _ _ ⟨rfl, rfl⟩
    show Ok (bnd (FX8_putInRow x (nI (cky n (dst n w p) (16 * n))) (nI (2 ^ n - 1) &&& (nI (rbf n w p n) ^^^ -1)) t1) _) _
    rw [nI_dif a9 (r9 n), ec]
    refine Ok.bd _ (e_putInRow (k := 9) (d := dst n w p) hx g hn (dif_lt a9) (fun q hq => ?_) (fun q hq hT => L1 q hq (by have := dd q hq; omega))) ?_
    · rw [dif_b a9, Nat.testBit_two_pow_sub_one]
      have hn1 : n = (n - 1) + 1 := by omega
      have er : rbf n w p n = gsq n w (2 ^ p) (n - 1) := by
        rw [hn1]
        rfl
      rw [er]
      constructor
      · rintro ⟨-, b⟩
        refine fsf_no (by omega) (fun j hj => ?_)
        show (gsq n w (2 ^ p) j).testBit q = false
        cases e : (gsq n w (2 ^ p) j).testBit q
        · rfl
        · rw [gsq_up (k := n - 1) e (by omega)] at b
          cases b
      · intro e
        refine ⟨decide_eq_true hq, ?_⟩
        rcases dst_in (a := p) (b := q) (w := w) hn with ⟨-, a⟩ | ⟨a, -⟩
        · exact a (n - 1) (by omega)
        · omega
    · rintro _ u ⟨-, u1, u2⟩
      exact Ok.ret ⟨fun c hc => by rw [u1 c hc]; exact f1 c hc, u2.fin hn (fun q _ => dst_le hn)⟩
section
variable {K K' : Nat → Nat → V4} {m m' s : Nat} {t : St}
theorem c_layers {p : Nat} (hG : GK K m) (hs : s < 3) (hC : CST K m t) (hp : p < (K m s).1) : Ok (FX11_layers (nI s) (nI p) t) (fun r u => r = nI (dfo (K m s).1 (K m s).2.2.2 (trm (K m s).1 (lyr (K m s).1 (dst (K m s).1 (K m s).2.2.1 p)))) ∧ CNX K m s (vwo (K m s) (trm (K m s).1 (lyr (K m s).1 (dst (K m s).1 (K m s).2.2.1 p)))) u ∧ AF s t u) := by
  have hv := hG.2 m (Nat.le_refl _) s hs
  have hn : (K m s).1 < 10 := hv.1.1
  have hx := hC.1 s hs
  have g := n_sl hs
  have hgo : GO (K m s).1 (trm (K m s).1 (lyr (K m s).1 (dst (K m s).1 (K m s).2.2.1 p))) := trm_go (lyr_pfx hn)
  unfold FX11_layers
  refine Ok.bq (g_netIn hs hn hx.1.1) ?_
  rw [if_neg (c := (K m s).1 = 0) (by omega)]
  refine Ok.ckT g (Ok.bq (g_has g hn hx.1.1 hp) (Ok.ifF (by decide) (Ok.bd _ (e_kept hG hs hC) ?_)))
  rintro _ t1 ⟨k1, x1, f1⟩
  refine Ok.bd _ (e_makeLayers x1.1 g hv.1.2.1 hn hp) ?_
  rintro _ t2 ⟨f2, o2⟩
  refine Ok.bd _ (c_note (v := vwo (K m s) (trm (K m s).1 (lyr (K m s).1 (dst (K m s).1 (K m s).2.2.1 p)))) hG hs (hv.vwo hgo) hC (fun c c1 c2 => by rw [f2 c (by omega)]; exact f1 c c2) (k1.fr4 (fun c c1 c2 => f2 c (by omega))) (x1.vwo f2 o2)) ?_
  rintro _ u ⟨u1, u2, u3⟩
  have xu : CS (12 + 24 * s) (vwo (K m s) (trm (K m s).1 (lyr (K m s).1 (dst (K m s).1 (K m s).2.2.1 p)))) u := (x1.vwo f2 o2).fr4 (fun c c1 c2 => u2 c (by omega))
  have ku : CS 141 (K m s) u := k1.fr4 (fun c c1 c2 => by rw [u2 c (by omega), f2 c (by omega)])
  exact Ok.bq (q_placesUnlike g n_141 hn xu.1.1 xu.2 ku.2 (fun i _ => hgo.lt hn i) (fun i _ => hv.o9 i)) (Ok.ret ⟨by rw [dfo_sy]; rfl, u1, u3⟩)
theorem m_layers {p : Nat} (hG : GK K m) (hs : s < 3) (hM : MST K m t) (hp : p < (K m s).1) (hN : NXT K m s (vwo (K m s) (trm (K m s).1 (lyr (K m s).1 (dst (K m s).1 (K m s).2.2.1 p)))) K' m') : Ok (FX12_layers (nI s) (nI p) t) (fun r u => r = nI (dfo (K m s).1 (K m s).2.2.2 (trm (K m s).1 (lyr (K m s).1 (dst (K m s).1 (K m s).2.2.1 p)))) ∧ MST K' m' u) := by
  have hv := hG.2 m (Nat.le_refl _) s hs
  have hn : (K m s).1 < 10 := hv.1.1
  have hr := hM.2.1.rn hs
  have hgo : GO (K m s).1 (trm (K m s).1 (lyr (K m s).1 (dst (K m s).1 (K m s).2.2.1 p))) := trm_go (lyr_pfx hn)
  unfold FX12_layers
  refine Ok.bq (g_isPt hs hn hr hp) (Ok.ifF (by decide) ?_)
  generalize hd : dst (K m s).1 (K m s).2.2.1 p = d at hgo hN ⊢
  have d9 : ∀ q, d q ≤ 9 := fun q => by rw [← hd]; exact dst_le hn
  refine Ok.bd (fun _ u => (∀ c, c ≠ 154 → u c = t c) ∧ MO (K m s).1 (trm (K m s).1 (lyr (K m s).1 d)) u) ?_ ?_
  · refine Ok.count 10 (fun k c s' => c = (nI (cky (K m s).1 d (16 * k)), nI k) ∧ (∀ c, c ≠ 154 → s' c = t c) ∧ LI (K m s).1 d 154 (16 * k) s') ?_ ?_ (Nat.zero_le _) ⟨by rw [cky_0]; rfl, fun _ _ => rfl, fun q hq hT => by omega⟩
    · rintro k c s' hk ⟨rfl, sf, s1⟩
      unfold SX12_layers_17
      dsimp only
      refine Ok.ifF (by rw [li_9, nI_ltP (by omega) (by omega)]; omega) (Ok.bd (fun r u => r = nI (cky (K m s).1 d (16 * (k + 1))) ∧ (∀ c, c ≠ 154 → u c = t c) ∧ LI (K m s).1 d 154 (16 * (k + 1)) u) ?_ ?_)
      · refine Ok.count (K m s).1 (fun j c s2 => c = (nI (cky (K m s).1 d (16 * k + j)), nI j) ∧ (∀ c, c ≠ 154 → s2 c = t c) ∧ LI (K m s).1 d 154 (16 * k + j) s2) ?_ ?_ (Nat.zero_le _) ⟨rfl, sf, s1⟩
        · rintro j c s2 hj ⟨rfl, sg, g1⟩
          unfold SX12_layers_27
          dsimp only
          have hx := hr.fr (sg 150 (by decide))
          have hc := cky_le (n := (K m s).1) (d := d) (T := 16 * k + j + 1)
          have hst := cky_s (n := (K m s).1) (d := d) (k := k) (j := j) hn (by omega)
          refine Ok.bq (q_points hx hs) (Ok.ifF (by rw [nI_leP (by omega) (by omega)]; omega) (Ok.bq (q_farOf hx hs hv.1.2.1 hn hp hj) ?_))
          rw [hd]
          refine Ok.bq (a := dI k) (t := s2) (Ok.eq (Ok.cv (nI_eqP (a := k) (b := 9) (by omega) (by omega)) (Ok.ite (fun c => Ok.ret ⟨rfl, ?_⟩) (fun c => Ok.ret ⟨rfl, ?_⟩)))) ?_
          · unfold dI; rw [if_pos c]
          · unfold dI; rw [if_neg c]
          refine Ok.bd (fun r u => r = nI (cky (K m s).1 d (16 * k + j + 1)) ∧ (∀ c, c ≠ 154 → u c = t c) ∧ LI (K m s).1 d 154 (16 * k + j + 1) u) ?_ ?_
          · refine Ok.cv (dI_eq (d9 j) (by omega)) (Ok.ite (fun c => ?_) (fun c => Ok.ret ?_))
            · rw [if_pos ⟨hj, c⟩] at hst
              refine Ok.ckT (inb_n (by omega) (by omega)) (OkwrE (Ok.ret ⟨by rw [nI_1, hst], fun c hc => by rw [wr_off c hc]; exact sg c hc, ?_⟩))
              rw [nI_cl (by omega)]
              exact g1.s hn hj c rfl
            · have c2 : ¬ (j < (K m s).1 ∧ d j = k) := fun q => c q.2
              rw [if_neg c2] at hst
              exact ⟨by rw [show cky (K m s).1 d (16 * k + j + 1) = cky (K m s).1 d (16 * k + j) by omega], sg, g1.k hn (by omega) c2⟩
          · rintro _ u ⟨rfl, u1, u2⟩
            exact Ok.ret ⟨by rw [nI_1]; rfl, u1, u2⟩
        · rintro c s2 ⟨rfl, sg, g1⟩
          unfold SX12_layers_27
          dsimp only
          exact Ok.bq (q_points (hr.fr (sg 150 (by decide))) hs) (Ok.ifT (by rw [nI_leP (by omega) (by omega)]; omega) (Ok.ret ⟨by rw [cky_e hn], sg, g1.e hn⟩))
      · rintro _ u ⟨rfl, u1, u2⟩
        exact Ok.ret ⟨by rw [nI_1], u1, u2⟩
    · rintro c s' ⟨rfl, sf, s1⟩
      unfold SX12_layers_17
      dsimp only
      exact Ok.ifT (by rw [li_9, nI_ltP (by omega) (by omega)]; omega) (Ok.ret ⟨sf, s1.fin hn (fun q _ => d9 q)⟩)
  · rintro _ t2 ⟨f2, o2⟩
    have M2 : MST K m t2 := hM.fr (by rw [f2 149 (by decide)]) (f2 150 (by decide)) (f2 152 (by decide))
    refine Ok.bd _ (m_takesRow hG hs M2 (hv.vwo hgo) hN o2) ?_
    rintro _ u ⟨rfl, u1, -⟩
    exact Ok.ret ⟨rfl, u1⟩
end
end
section
/-! polish: pure -/
theorem cut_in {A : Nat} {f : Nat → Nat} (hf : ∀ b, f b < 10) : ∀ {k : Nat}, sm k (fun b => if A.testBit b = true then 0 else f b) + 9 * cnt A k ≤ 9 * k
  | 0 => Nat.le_refl _
  | k + 1 => by
    have ih := cut_in (A := A) hf (k := k)
    have := hf k
    show sm k (fun b => if A.testBit b = true then 0 else f b) + (if A.testBit k = true then 0 else f k) + 9 * cnt A (k + 1) ≤ 9 * (k + 1)
    rw [cnt_succ]
    by_cases e : A.testBit k = true
    · rw [if_pos e, if_pos e]; omega
    · rw [if_neg e, if_neg e]; omega
theorem cut_out {A M : Nat} {f : Nat → Nat} (hf : ∀ a, f a ≤ M) : ∀ {k : Nat}, sm k (fun a => if A.testBit a = true then f a else 0) ≤ M * cnt A k
  | 0 => Nat.zero_le _
  | k + 1 => by
    have ih := cut_out (A := A) hf (k := k)
    have := hf k
    show sm k (fun a => if A.testBit a = true then f a else 0) + (if A.testBit k = true then f k else 0) ≤ M * cnt A (k + 1)
    rw [cnt_succ, Nat.mul_add]
    by_cases e : A.testBit k = true
    · rw [if_pos e, if_pos e]; omega
    · rw [if_neg e, if_neg e]; omega
theorem cut_all : ∀ n, n < 10 → ∀ c, c < 10 → (9 * n - 9 * c) * c ≤ 180 := by decide
theorem cutW_180 {n A : Nat} {w : Nat → Nat → Nat} (hw : WF n w) (hn : n < 10) : cutW n w A ≤ 180 := by
  have h1 : cutW n w A ≤ (9 * n - 9 * cnt A n) * cnt A n := cut_out (fun a => by
    have := cut_in (A := A) (f := w a) (hw.1 a) (k := n)
    omega)
  have h2 : cnt A n ≤ n := cnt_le
  have h3 := cut_all n hn (cnt A n) (by omega)
  omega
theorem cst_324 {n m S p : Nat} {w : Nat → Nat → Nat} (hw : WF n w) (hn : n < 10) (hm : ¬ Gr m) : cst n w m S p ≤ 180 := by
  unfold cst prc
  rw [if_neg (fun e => hm (Or.inr (Or.inr e)))]
  by_cases e : m = 6
  · rw [if_pos e]
    have := fil_le (n := n) (w := w) (S := ast m S p) (p := p) hn
    omega
  · rw [if_neg e]
    unfold spl
    have a1 := gatS_le (n := n) (w := w) (A := ast m S p)
    have a2 := frgS_le (n := n) (w := w) (A := ast m S p)
    have a3 := cutW_180 (A := ast m S p) hw hn
    split
    · omega
    · split
      · omega
      · exact a3
theorem vfd_lim {n m : Nat} {w : Nat → Nat → Nat} {o : Nat → Nat} (hw : WF n w) (hn : n < 10) : ∀ i, i ≤ 9 → (Gr m → vfd n w m o i ≤ 729) ∧ (¬ Gr m → vfd n w m o i ≤ 180 * i)
  | 0, _ => ⟨fun _ => Nat.zero_le _, fun _ => Nat.zero_le _⟩
  | i + 1, hi => by
    have ih := vfd_lim (m := m) (o := o) hw hn i (by omega)
    have e : vfd n w m o (i + 1) = jn m (vfd n w m o i) (cst n w m (amk o i) (o i)) := rfl
    refine ⟨fun h => ?_, fun h => ?_⟩
    · rw [e, jn_g h]
      exact Nat.max_le.mpr ⟨ih.1 h, cst_le hw hn⟩
    · rw [e, jn_s h]
      have a := ih.2 h
      have b := cst_324 (S := amk o i) (p := o i) hw hn h
      omega
theorem val_lim {n m : Nat} {w : Nat → Nat → Nat} {o : Nat → Nat} (hw : WF n w) (hn : n < 10) : val n w m o ≤ 1620 := by
  unfold val
  by_cases e : m = 2
  · rw [if_pos e]
    have := bwd_le (w := w) (o := o) (n := n)
    omega
  · rw [if_neg e]
    have := vfd_lim (m := m) (o := o) hw hn n (by omega)
    by_cases g : Gr m
    · have := this.1 g; omega
    · have := this.2 g; omega
theorem swp_swp {o : Nat → Nat} {i j : Nat} : swp (swp o i j) i j = o := by
  funext k
  show (if k = j then (if i = j then o i else if i = i then o j else o i) else if k = i then (if j = j then o i else if j = i then o j else o j) else (if k = j then o i else if k = i then o j else o k)) = o k
  by_cases e1 : k = j
  · rw [if_pos e1, e1]
    by_cases e2 : i = j
    · rw [if_pos e2, e2]
    · rw [if_neg e2, if_pos rfl]
  · rw [if_neg e1]
    by_cases e2 : k = i
    · rw [if_pos e2, if_pos rfl, e2]
    · rw [if_neg e2, if_neg e1, if_neg e2]
abbrev BS := Nat × Int32 × Int32
def pin (f : Nat → Nat) (i : Nat) (B : BS) : Nat → BS
  | 0 => B
  | k + 1 => if (pin f i B k).1 ≤ f (i + 1 + k) then pin f i B k else (f (i + 1 + k), nI i, nI (i + 1 + k))
def pot (f : Nat → Nat → Nat) (n : Nat) (B : BS) : Nat → BS
  | 0 => B
  | i + 1 => pin (f i) i (pot f n B i) (n - (i + 1))
/-- nothing better yet, or a two that is -/
def PB (f : Nat → Nat → Nat) (n v : Nat) (B : BS) : Prop := (B.2.1 = -1 ∧ B.1 = v) ∨ ∃ i j, i < n ∧ j < n ∧ B.2.1 = nI i ∧ B.2.2 = nI j ∧ B.1 = f i j ∧ B.1 < v
theorem PB.le {f : Nat → Nat → Nat} {n v : Nat} {B : BS} (h : PB f n v B) : B.1 ≤ v := by
  rcases h with ⟨-, h⟩ | ⟨i, j, -, -, -, -, -, h⟩ <;> omega
theorem pin_pb {f : Nat → Nat → Nat} {n v i : Nat} {B : BS} (h : PB f n v B) : ∀ {k : Nat}, i + 1 + k ≤ n → PB f n v (pin (f i) i B k)
  | 0, _ => h
  | k + 1, hk => by
    have ih := pin_pb h (i := i) (k := k) (by omega)
    have := ih.le
    rw [pin]
    by_cases c : (pin (f i) i B k).1 ≤ f i (i + 1 + k)
    · rw [if_pos c]; exact ih
    · rw [if_neg c]
      exact Or.inr ⟨i, i + 1 + k, by omega, by omega, rfl, rfl, rfl, by show f i (i + 1 + k) < v; omega⟩
theorem pot_pb {f : Nat → Nat → Nat} {n v : Nat} {B : BS} (h : PB f n v B) : ∀ {i : Nat}, i ≤ n → PB f n v (pot f n B i)
  | 0, _ => h
  | i + 1, hi => pin_pb (pot_pb h (by omega)) (by omega)
noncomputable def pbt (n : Nat) (w : Nat → Nat → Nat) (m : Nat) (o : Nat → Nat) : BS := pot (fun i j => val n w m (swp o i j)) n (val n w m o, -1, -1) n
noncomputable def pnx (n : Nat) (w : Nat → Nat → Nat) (m : Nat) (o : Nat → Nat) : Nat → Nat := swp o (pbt n w m o).2.1.toNatClampNeg (pbt n w m o).2.2.toNatClampNeg
theorem pbt_pb {n m : Nat} {w : Nat → Nat → Nat} {o : Nat → Nat} : PB (fun i j => val n w m (swp o i j)) n (val n w m o) (pbt n w m o) := pot_pb (Or.inl ⟨rfl, rfl⟩) (Nat.le_refl _)
/-- k times points are changed over -/
def PLR (n : Nat) (w : Nat → Nat → Nat) (m : Nat) : Nat → (Nat → Nat) → (Nat → Nat) → Prop
  | 0, o, u => (pbt n w m o).2.1 = -1 ∧ u = o
  | k + 1, o, u => (pbt n w m o).2.1 ≠ -1 ∧ PLR n w m k (pnx n w m o) u
theorem PLR.uq {n m : Nat} {w : Nat → Nat → Nat} : ∀ {k j : Nat} {o u v : Nat → Nat}, PLR n w m k o u → PLR n w m j o v → k = j ∧ u = v
  | 0, 0, o, u, v, h, g => ⟨rfl, by rw [h.2, g.2]⟩
  | 0, j + 1, o, u, v, h, g => absurd h.1 g.1
  | k + 1, 0, o, u, v, h, g => absurd g.1 h.1
  | k + 1, j + 1, o, u, v, h, g => by
    obtain ⟨a, b⟩ := PLR.uq h.2 g.2
    exact ⟨by omega, b⟩
theorem pnx_in {n m : Nat} {w : Nat → Nat → Nat} {o : Nat → Nat} (hn : n < 10) (hg : GO n o) (h : (pbt n w m o).2.1 ≠ -1) : ∃ i j, i < n ∧ j < n ∧ (pbt n w m o).2.1 = nI i ∧ (pbt n w m o).2.2 = nI j ∧ pnx n w m o = swp o i j ∧ val n w m (pnx n w m o) < val n w m o ∧ (pbt n w m o).1 = val n w m (pnx n w m o) ∧ GO n (pnx n w m o) := by
  rcases pbt_pb (n := n) (m := m) (w := w) (o := o) with ⟨a, -⟩ | ⟨i, j, hi, hj, e1, e2, e3, e4⟩
  · exact absurd a h
  · have e : pnx n w m o = swp o i j := by
      unfold pnx
      rw [e1, e2, nI_cl (by omega), nI_cl (by omega)]
    refine ⟨i, j, hi, hj, e1, e2, e, ?_, ?_, ?_⟩
    · rw [e]
      have e3 : (pbt n w m o).1 = val n w m (swp o i j) := e3
      omega
    · rw [e]; exact e3
    · rw [e]; exact hg.swp hi hj
/-! the class -/
theorem e_scanIn {x n l q i : Nat} {w : Nat → Nat → Nat} {o : Nat → Nat} {B : BS} {t : St} (h : CN x n l w t) (g : netAt x = true) (hw : WF n w) (hn : n < 10) (hq : q < 7) (hg : GO n o) (ho : CO x n o t) (hi : i < n) (hB : B.1 ≤ 1620) : Ok (wh (SX8_changeBestTwo_29 x (nI q) (nI i)) (nI B.1, B.2.1, B.2.2, nI (i + 1)) t) (fun r u => r = (nI (pin (fun j => val n w q (swp o i j)) i B (n - (i + 1))).1, (pin (fun j => val n w q (swp o i j)) i B (n - (i + 1))).2.1, (pin (fun j => val n w q (swp o i j)) i B (n - (i + 1))).2.2) ∧ (pin (fun j => val n w q (swp o i j)) i B (n - (i + 1))).1 ≤ 1620 ∧ (∀ c, c ≠ x + 2 → u c = t c) ∧ CO x n o u) := by
  generalize hf : (fun j => val n w q (swp o i j)) = f
  have f9 : ∀ j, f j ≤ 1620 := fun j => by rw [← hf]; exact val_lim hw hn
  refine Ok.count (n - (i + 1)) (fun k c s => c = (nI (pin f i B k).1, (pin f i B k).2.1, (pin f i B k).2.2, nI (i + 1 + k)) ∧ (pin f i B k).1 ≤ 1620 ∧ (∀ c, c ≠ x + 2 → s c = t c) ∧ CO x n o s) ?_ ?_ (Nat.zero_le _) ⟨rfl, hB, fun _ _ => rfl, ho⟩
  · rintro k c s hk ⟨rfl, b1, sf, s1⟩
    unfold SX8_changeBestTwo_29
    dsimp only
    refine Ok.rdE (x := nI n) (by rw [sf x (by omega)]; exact h.1) (Ok.ifF (by rw [nI_leP (by omega) (by omega)]; omega) (Ok.bd _ (e_changeOver g hn s1 hi (j := i + 1 + k) (by omega)) ?_))
    rintro _ t1 ⟨f1, o1⟩
    have h1 : CN x n l w t1 := h.fr (by rw [f1 x (by omega)]; exact sf x (by omega)) (by rw [f1 _ (by omega)]; exact sf _ (by omega)) (by rw [f1 _ (by omega)]; exact sf _ (by omega))
    have g1 : GO n (swp o i (i + 1 + k)) := hg.swp hi (by omega)
    refine Ok.bq (q_measured h1 g hw hn o1 (fun a _ => g1.lt hn a) hq) (Ok.bd _ (e_changeOver g hn o1 hi (j := i + 1 + k) (by omega)) ?_)
    rintro _ t2 ⟨f2, o2⟩
    rw [swp_swp] at o2
    have ev : val n w q (swp o i (i + 1 + k)) = f (i + 1 + k) := by rw [← hf]
    rw [ev]
    have := f9 (i + 1 + k)
    have e1 : pin f i B (k + 1) = if (pin f i B k).1 ≤ f (i + 1 + k) then pin f i B k else (f (i + 1 + k), nI i, nI (i + 1 + k)) := rfl
    refine Ok.bq (a := (nI (pin f i B (k + 1)).1, (pin f i B (k + 1)).2.1, (pin f i B (k + 1)).2.2)) (t := t2) (Ok.eq (Ok.cv (nI_leP (by omega) (by omega)) (Ok.ite (fun c => Ok.ret ⟨rfl, ?_⟩) (fun c => Ok.ret ⟨rfl, ?_⟩)))) (Ok.ret ⟨?_, ?_, fun c hc => by rw [f2 c hc, f1 c hc]; exact sf c hc, o2⟩)
    · rw [e1, if_pos c]
    · rw [e1, if_neg c]
    · dsimp only
      rw [nI_1]
      rfl
    · rw [e1]
      split
      · exact b1
      · exact this
  · rintro c s ⟨rfl, b1, sf, s1⟩
    unfold SX8_changeBestTwo_29
    dsimp only
    exact Ok.rdE (x := nI n) (by rw [sf x (by omega)]; exact h.1) (Ok.ifT (by rw [nI_leP (by omega) (by omega)]; omega) (Ok.ret ⟨rfl, b1, sf, s1⟩))
theorem e_changeBest {x n l q : Nat} {w : Nat → Nat → Nat} {o : Nat → Nat} {t : St} (h : CN x n l w t) (g : netAt x = true) (hw : WF n w) (hn : n < 10) (hq : q < 7) (hg : GO n o) (ho : CO x n o t) : Ok (FX8_changeBestTwo x (nI q) t) (fun r u => (∀ c, c ≠ x + 2 → u c = t c) ∧ (((pbt n w q o).2.1 = -1 ∧ r = 0 ∧ CO x n o u) ∨ ((pbt n w q o).2.1 ≠ -1 ∧ r = 1 ∧ CO x n (pnx n w q o) u))) := by
  unfold FX8_changeBestTwo
  have f9 : ∀ i j, (fun i j => val n w q (swp o i j)) i j ≤ 1620 := fun i j => val_lim hw hn
  refine Ok.ckT g (Ok.bq (q_measured h g hw hn ho (fun a _ => hg.lt hn a) hq) ?_)
  refine Ok.bd (fun r u => r = ((pbt n w q o).2.1, (pbt n w q o).2.2) ∧ (∀ c, c ≠ x + 2 → u c = t c) ∧ CO x n o u) ?_ ?_
  · refine Ok.count n (fun i c s => c = (nI (pot (fun i j => val n w q (swp o i j)) n (val n w q o, -1, -1) i).1, (pot (fun i j => val n w q (swp o i j)) n (val n w q o, -1, -1) i).2.1, (pot (fun i j => val n w q (swp o i j)) n (val n w q o, -1, -1) i).2.2, nI i) ∧ (pot (fun i j => val n w q (swp o i j)) n (val n w q o, -1, -1) i).1 ≤ 1620 ∧ (∀ c, c ≠ x + 2 → s c = t c) ∧ CO x n o s) ?_ ?_ (Nat.zero_le _) ⟨rfl, val_lim hw hn, fun _ _ => rfl, ho⟩
    · rintro i c s hi ⟨rfl, b1, sf, s1⟩
      unfold SX8_changeBestTwo_14
      dsimp only
      have h1 : CN x n l w s := h.fr (sf x (by omega)) (sf _ (by omega)) (sf _ (by omega))
      refine Ok.rdE h1.1 (Ok.ifF (by rw [nI_leP (by omega) (by omega)]; omega) ?_)
      rw [nI_1]
      refine Ok.bd _ (e_scanIn (B := pot (fun i j => val n w q (swp o i j)) n (val n w q o, -1, -1) i) h1 g hw hn hq hg s1 hi b1) ?_
      rintro _ u ⟨rfl, u1, u2, u3⟩
      exact Ok.ret ⟨rfl, u1, fun c hc => by rw [u2 c hc]; exact sf c hc, u3⟩
    · rintro c s ⟨rfl, b1, sf, s1⟩
      unfold SX8_changeBestTwo_14
      dsimp only
      exact Ok.rdE (x := nI n) (by rw [sf x (by omega)]; exact h.1) (Ok.ifT (by rw [nI_leP (by omega) (by omega)]; omega) (Ok.ret ⟨rfl, sf, s1⟩))
  · rintro _ t1 ⟨rfl, f1, o1⟩
    refine Ok.ite (fun c => Ok.ret ⟨f1, Or.inl ⟨c, rfl, o1⟩⟩) (fun c => ?_)
    obtain ⟨i, j, hi, hj, e1, e2, e3, -, -, -⟩ := pnx_in hn hg c
    show Ok (bnd (FX5_changeOver x (pbt n w q o).2.1 (pbt n w q o).2.2 t1) _) _
    rw [e1, e2]
    refine Ok.bd _ (e_changeOver g hn o1 hi hj) ?_
    rintro _ u ⟨u1, u2⟩
    exact Ok.ret ⟨fun c hc => by rw [u1 c hc]; exact f1 c hc, Or.inr ⟨by rw [← e1]; exact c, rfl, by rw [e3]; exact u2⟩⟩
theorem e_polishRow {x n l q : Nat} {w : Nat → Nat → Nat} {o : Nat → Nat} {t : St} (h : CN x n l w t) (g : netAt x = true) (hw : WF n w) (hn : n < 10) (hq : q < 7) (hg : GO n o) (ho : CO x n o t) : Ok (FX8_polishRow x (nI q) t) (fun r u => ∃ k v, r = nI k ∧ PLR n w q k o v ∧ GO n v ∧ CO x n v u ∧ ∀ c, c ≠ x + 2 → u c = t c) := by
  unfold FX8_polishRow
  refine Ok.ckT g (Ok.bd (fun r u => ∃ k v, r = .inl (nI k) ∧ PLR n w q k o v ∧ GO n v ∧ CO x n v u ∧ ∀ c, c ≠ x + 2 → u c = t c) ?_ ?_)
  · refine Ok.count 4000 (fun k c s => c = nI k ∧ ∃ v, GO n v ∧ CO x n v s ∧ (∀ c, c ≠ x + 2 → s c = t c) ∧ val n w q v + k ≤ 1620 ∧ ∀ j u, PLR n w q j v u → PLR n w q (j + k) o u) ?_ ?_ (Nat.zero_le _) ⟨rfl, o, hg, ho, fun _ _ => rfl, by have := val_lim (m := q) (o := o) hw hn; omega, fun _ _ p => p⟩
    · rintro k c s hk ⟨rfl, v, v1, v2, sf, v3, v4⟩
      unfold SX8_polishRow_2
      have h1 : CN x n l w s := h.fr (sf x (by omega)) (sf _ (by omega)) (sf _ (by omega))
      refine Ok.ifF (by rw [li_4000, nI_leP (by omega) (by omega)]; omega) (Ok.bd _ (e_changeBest h1 g hw hn hq v1 v2) ?_)
      rintro r u ⟨uf, ⟨a, rfl, b⟩ | ⟨a, rfl, b⟩⟩
      · refine Ok.ifT rfl (Ok.ret ⟨k, v, rfl, ?_, v1, b, fun c hc => by rw [uf c hc]; exact sf c hc⟩)
        have := v4 0 v ⟨a, rfl⟩
        rw [Nat.zero_add] at this
        exact this
      · obtain ⟨i, j, hi, hj, e1, e2, e3, e4, e5, e6⟩ := pnx_in hn v1 a
        refine Ok.ifF (by decide) (Ok.ret ⟨nI_1 k, pnx n w q v, e6, b, fun c hc => by rw [uf c hc]; exact sf c hc, by omega, fun j u p => ?_⟩)
        have := v4 (j + 1) u ⟨a, p⟩
        rw [show j + 1 + k = j + (k + 1) by omega] at this
        exact this
    · rintro c s ⟨rfl, v, v1, v2, sf, v3, v4⟩
      omega
  · rintro _ u ⟨k, v, rfl, a1, a2, a3, a4⟩
    exact Ok.ret ⟨k, v, rfl, a1, a2, a3, a4⟩
/-! the reference -/
theorem m_scanIn {s n q i : Nat} {w : Nat → Nat → Nat} {o : Nat → Nat} {B : BS} {t : St} {w3 w4 : Int32} (h : RN s n w t) (hs : s < 3) (hw : WF n w) (hn : n < 10) (hq : q < 7) (hg : GO n o) (ho : MO n o t) (hi : i < n) (hB : B.1 ≤ 1620) : Ok (wh (SX12_polishes_52 (nI s) (nI q) w3 w4 (nI i)) (B.2.1, B.2.2, nI B.1, nI (i + 1)) t) (fun r u => r = ((pin (fun j => val n w q (swp o i j)) i B (n - (i + 1))).2.1, (pin (fun j => val n w q (swp o i j)) i B (n - (i + 1))).2.2, nI (pin (fun j => val n w q (swp o i j)) i B (n - (i + 1))).1) ∧ (pin (fun j => val n w q (swp o i j)) i B (n - (i + 1))).1 ≤ 1620 ∧ (∀ c, c ≠ 154 → u c = t c) ∧ MO n o u) := by
  generalize hf : (fun j => val n w q (swp o i j)) = f
  have f9 : ∀ j, f j ≤ 1620 := fun j => by rw [← hf]; exact val_lim hw hn
  refine Ok.count (n - (i + 1)) (fun k c s' => c = ((pin f i B k).2.1, (pin f i B k).2.2, nI (pin f i B k).1, nI (i + 1 + k)) ∧ (pin f i B k).1 ≤ 1620 ∧ (∀ c, c ≠ 154 → s' c = t c) ∧ MO n o s') ?_ ?_ (Nat.zero_le _) ⟨rfl, hB, fun _ _ => rfl, ho⟩
  · rintro k c s' hk ⟨rfl, b1, sf, s1⟩
    unfold SX12_polishes_52
    dsimp only
    refine Ok.bq (q_points (h.fr (sf 150 (by decide))) hs) (Ok.ifF (by rw [nI_leP (by omega) (by omega)]; omega) (Ok.bd _ (m_exch hn s1 hi (j := i + 1 + k) (by omega)) ?_))
    rintro _ t1 ⟨f1, o1⟩
    have h1 : RN s n w t1 := h.fr (by rw [f1 150 (by decide)]; exact sf 150 (by decide))
    have g1 : GO n (swp o i (i + 1 + k)) := hg.swp hi (by omega)
    refine Ok.bq (q_valueOf h1 hs hw hn o1 (fun a _ => g1.lt hn a) hq) (Ok.bd _ (m_exch hn o1 hi (j := i + 1 + k) (by omega)) ?_)
    rintro _ t2 ⟨f2, o2⟩
    rw [swp_swp] at o2
    have ev : val n w q (swp o i (i + 1 + k)) = f (i + 1 + k) := by rw [← hf]
    rw [ev]
    have := f9 (i + 1 + k)
    have e1 : pin f i B (k + 1) = if (pin f i B k).1 ≤ f (i + 1 + k) then pin f i B k else (f (i + 1 + k), nI i, nI (i + 1 + k)) := rfl
    refine Ok.bq (a := ((pin f i B (k + 1)).2.1, (pin f i B (k + 1)).2.2, nI (pin f i B (k + 1)).1)) (t := t2) (Ok.eq (Ok.cv (nI_leP (by omega) (by omega)) (Ok.ite (fun c => Ok.ret ⟨rfl, ?_⟩) (fun c => Ok.ret ⟨rfl, ?_⟩)))) (Ok.ret ⟨?_, ?_, fun c hc => by rw [f2 c hc, f1 c hc]; exact sf c hc, o2⟩)
    · rw [e1, if_pos c]
    · rw [e1, if_neg c]
    · dsimp only
      rw [nI_1]
      rfl
    · rw [e1]
      split
      · exact b1
      · exact this
  · rintro c s' ⟨rfl, b1, sf, s1⟩
    unfold SX12_polishes_52
    dsimp only
    exact Ok.bq (q_points (h.fr (sf 150 (by decide))) hs) (Ok.ifT (by rw [nI_leP (by omega) (by omega)]; omega) (Ok.ret ⟨rfl, b1, sf, s1⟩))
theorem m_scan {s n q : Nat} {w : Nat → Nat → Nat} {o : Nat → Nat} {t : St} {w3 w4 : Int32} (h : RN s n w t) (hs : s < 3) (hw : WF n w) (hn : n < 10) (hq : q < 7) (hg : GO n o) (ho : MO n o t) : Ok (wh (SX12_polishes_36 (nI s) (nI q) w3 w4) ((-1 : Int32), (-1 : Int32), nI (val n w q o), (0 : Int32)) t) (fun r u => r = ((pbt n w q o).2.1, (pbt n w q o).2.2, nI (pbt n w q o).1) ∧ (∀ c, c ≠ 154 → u c = t c) ∧ MO n o u) := by
  refine Ok.count n (fun i c s' => c = ((pot (fun i j => val n w q (swp o i j)) n (val n w q o, -1, -1) i).2.1, (pot (fun i j => val n w q (swp o i j)) n (val n w q o, -1, -1) i).2.2, nI (pot (fun i j => val n w q (swp o i j)) n (val n w q o, -1, -1) i).1, nI i) ∧ (pot (fun i j => val n w q (swp o i j)) n (val n w q o, -1, -1) i).1 ≤ 1620 ∧ (∀ c, c ≠ 154 → s' c = t c) ∧ MO n o s') ?_ ?_ (Nat.zero_le _) ⟨rfl, val_lim hw hn, fun _ _ => rfl, ho⟩
  · rintro i c s' hi ⟨rfl, b1, sf, s1⟩
    unfold SX12_polishes_36
    dsimp only
    have h1 : RN s n w s' := h.fr (sf 150 (by decide))
    refine Ok.bq (q_points h1 hs) (Ok.ifF (by rw [nI_leP (by omega) (by omega)]; omega) ?_)
    rw [nI_1]
    refine Ok.bd _ (m_scanIn (B := pot (fun i j => val n w q (swp o i j)) n (val n w q o, -1, -1) i) h1 hs hw hn hq hg s1 hi b1) ?_
    rintro _ u ⟨rfl, u1, u2, u3⟩
    exact Ok.ret ⟨rfl, u1, fun c hc => by rw [u2 c hc]; exact sf c hc, u3⟩
  · rintro c s' ⟨rfl, b1, sf, s1⟩
    unfold SX12_polishes_36
    dsimp only
    exact Ok.bq (q_points (h.fr (sf 150 (by decide))) hs) (Ok.ifT (by rw [nI_leP (by omega) (by omega)]; omega) (Ok.ret ⟨rfl, sf, s1⟩))
theorem m_polishes {s n q : Nat} {w : Nat → Nat → Nat} {o : Nat → Nat} {t : St} (h : RN s n w t) (hs : s < 3) (hw : WF n w) (hn : n < 10) (hq : q < 7) (hg : GO n o) (ho : RO s n o t) : Pc (FX12_polishes (nI s) (nI q) t) (fun r u => ∃ k v, r = nI k ∧ PLR n w q k o v ∧ GO n v ∧ MO n v u ∧ ∀ c, c ≠ 154 → u c = t c) := by
  unfold FX12_polishes
  refine Pc.bd _ (m_laysRow hs hn h ho).pc ?_
  rintro _ t1 ⟨f1, o1⟩
  refine Pc.bq (q_valueOf (h.fr (f1 150 (by decide))) hs hw hn o1 (fun a _ => hg.lt hn a) hq) ?_
  refine Pc.bd (fun r u => ∃ k v, r = nI k ∧ PLR n w q k o v ∧ GO n v ∧ MO n v u ∧ ∀ c, c ≠ 154 → u c = t c) ?_ (fun _ _ hu => Pc.ret hu)
  refine Pc.loop (fun c s' => ∃ k v, c.1 = nI k ∧ c.2.1 = nI (val n w q v) ∧ GO n v ∧ MO n v s' ∧ (∀ c, c ≠ 154 → s' c = t c) ∧ ((c.2.2 = 1 ∧ ∀ j u, PLR n w q j v u → PLR n w q (j + k) o u) ∨ (c.2.2 = 0 ∧ PLR n w q k o v))) ?_ ⟨0, o, rfl, rfl, hg, o1, f1, Or.inl ⟨rfl, fun _ _ p => p⟩⟩
  rintro ⟨c1, c2, c3⟩ s' ⟨k, v, e1, e2, v1, v2, sf, e3⟩
  dsimp only at e1 e2 e3
  subst e1
  subst e2
  unfold SX12_polishes_18
  dsimp only
  rcases e3 with ⟨rfl, v4⟩ | ⟨rfl, v4⟩
  · refine Pc.ifF (by decide) (Pc.bd _ (m_scan (h.fr (sf 150 (by decide))) hs hw hn hq v1 v2).pc ?_)
    rintro _ t2 ⟨rfl, f2, o2⟩
    dsimp only
    by_cases c : (pbt n w q v).2.1 = -1
    · refine Pc.bq (a := (0 : Int32)) (t := t2) (by rw [if_pos c]) (Pc.bq (a := (nI k, nI (val n w q v))) (t := t2) (if_pos rfl) (Pc.ret ⟨k, v, rfl, rfl, v1, o2, fun c hc => by rw [f2 c hc]; exact sf c hc, Or.inr ⟨rfl, ?_⟩⟩))
      have := v4 0 v ⟨c, rfl⟩
      rw [Nat.zero_add] at this
      exact this
    · obtain ⟨i, j, hi, hj, b1, b2, b3, b4, b5, b6⟩ := pnx_in hn v1 c
      refine Pc.bq (a := (1 : Int32)) (t := t2) (by rw [if_neg c]) (Pc.bd (fun r u => r = (nI (k + 1), nI (val n w q (pnx n w q v))) ∧ (∀ c, c ≠ 154 → u c = t2 c) ∧ MO n (pnx n w q v) u) ?_ ?_)
      · rw [b1, b2, b5]
        refine Pc.ifF (by decide) (Pc.bd _ (m_exch hn o2 hi hj).pc ?_)
        rintro _ u ⟨u1, u2⟩
        exact Pc.ret ⟨by rw [nI_1], u1, by rw [b3]; exact u2⟩
      · rintro _ u ⟨rfl, u1, u2⟩
        refine Pc.ret ⟨k + 1, pnx n w q v, rfl, rfl, b6, u2, fun c hc => by rw [u1 c hc, f2 c hc]; exact sf c hc, Or.inl ⟨rfl, fun j u p => ?_⟩⟩
        have := v4 (j + 1) u ⟨c, p⟩
        rw [show j + 1 + k = j + (k + 1) by omega] at this
        exact this
  · exact Pc.ifT rfl (Pc.ret ⟨k, v, rfl, v4, v1, v2, sf⟩)
section
variable {K K' : Nat → Nat → V4} {m m' s : Nat} {t : St}
theorem c_polish {q : Nat} (hG : GK K m) (hs : s < 3) (hC : CST K m t) (hq : q < 7) (h1 : 1 ≤ (K m s).1) : Ok (FX11_polish (nI s) (nI q) t) (fun r u => ∃ k v, r = nI k ∧ PLR (K m s).1 (K m s).2.2.1 q k (K m s).2.2.2 v ∧ GO (K m s).1 v ∧ CNX K m s (vwo (K m s) v) u ∧ AF s t u) := by
  have hv := hG.2 m (Nat.le_refl _) s hs
  have hn : (K m s).1 < 10 := hv.1.1
  have hx := hC.1 s hs
  have g := n_sl hs
  unfold FX11_polish
  refine Ok.bq (g_netIn hs hn hx.1.1) ?_
  rw [if_neg (c := (K m s).1 = 0) (by omega)]
  refine Ok.ckT g (Ok.bq (g_ms hq) (Ok.ifF (by decide) (Ok.bd _ (e_kept hG hs hC) ?_)))
  rintro _ t1 ⟨k1, x1, f1⟩
  refine Ok.bd _ (e_polishRow x1.1 g hv.1.2.1 hn hq hv.go x1.2) ?_
  rintro _ t2 ⟨k, v, rfl, a1, a2, a3, f2⟩
  refine Ok.bd _ (c_note (v := vwo (K m s) v) hG hs (hv.vwo a2) hC (fun c c1 c2 => by rw [f2 c (by omega)]; exact f1 c c2) (k1.fr4 (fun c c1 c2 => f2 c (by omega))) (x1.vwo f2 a3)) ?_
  rintro _ u ⟨u1, u2, u3⟩
  exact Ok.ret ⟨k, v, rfl, a1, a2, u1, u3⟩
theorem m_polish {q k : Nat} {v : Nat → Nat} (hG : GK K m) (hs : s < 3) (hM : MST K m t) (hq : q < 7) (h1 : 1 ≤ (K m s).1) (hP : PLR (K m s).1 (K m s).2.2.1 q k (K m s).2.2.2 v) (hN : NXT K m s (vwo (K m s) v) K' m') : Pc (FX12_polish (nI s) (nI q) t) (fun r u => r = nI k ∧ MST K' m' u) := by
  have hv := hG.2 m (Nat.le_refl _) s hs
  have hn : (K m s).1 < 10 := hv.1.1
  have hr := hM.2.1.rn hs
  unfold FX12_polish
  refine Pc.bq (g_isNet hs hn hr) ?_
  rw [if_neg (c := (K m s).1 = 0) (by omega)]
  refine Pc.ifF (by decide) (Pc.bq (g_msM hq) (Pc.ifF (by decide) (Pc.bd _ (m_polishes hr hs hv.1.2.1 hn hq hv.go (hM.2.1.ro hs hv)) ?_)))
  rintro _ t1 ⟨k', v', rfl, a1, a2, a3, f1⟩
  obtain ⟨rfl, rfl⟩ := a1.uq hP
  have M1 : MST K m t1 := hM.fr (by rw [f1 149 (by decide)]) (f1 150 (by decide)) (f1 152 (by decide))
  refine Pc.bd _ (m_takesRow hG hs M1 (hv.vwo a2) hN a3).pc ?_
  rintro _ u ⟨-, u1, -⟩
  exact Pc.ret ⟨rfl, u1⟩
end
end
section
/-! lines that come, go; a net that goes; a net that is told -/
theorem m_fin {K K' : Nat → Nat → V4} {m m' s : Nat} {v : V4} {t t1 t2 : St} {a : Int32} (hG : GK K m) (hs : s < 3) (hv : GV v) (hN : NXT K m s v K' m') (hM : MST K m t) (r1 : ∀ c, c ≠ 151 → t1 c = t c) (r2 : ∀ k, k < 273 → t1 151 k = t 150 k) (f2 : ∀ c, c ≠ 150 → t2 c = t1 c) (h150 : RA 150 0 (upA (K m) s v) t2) : Ok (FX12_done a t2) (fun r u => r = a ∧ MST K' m' u ∧ ∀ c, c ≠ 149 → c ≠ 152 → u c = t2 c) := by
  refine (m_done (a := a) hG hs hv hN (by rw [f2 149 (by decide), r1 149 (by decide)]; exact hM.1) (fun k hk' => ?_) h150 (fun j hj => (hM.2.2 j hj).fr (fun k _ => by rw [f2 152 (by decide), r1 152 (by decide)]))).mono (fun r u h => ⟨h.1, h.2.1, h.2.2.1⟩)
  rw [f2 151 (by decide), Nat.zero_add, r2 k hk']
  have := hM.2.1 k hk'
  rw [Nat.zero_add] at this
  exact this
theorem m_fik {K K' : Nat → Nat → V4} {m m' s : Nat} {v : V4} {t t1 t2 : St} {a : Int32} (hG : GK K m) (hN : NXT K m s v K' m') (hne : v ≠ K m s) (hM : MST K m t) (r1 : ∀ c, c ≠ 151 → t1 c = t c) (r2 : ∀ k, k < 273 → t1 151 k = t 150 k) (f2 : ∀ c, c ≠ 150 → t2 c = t1 c) (h150 : RA 150 0 (upA (K m) s v) t2) : Ok (FX12_keeps a t2) (fun r u => r = a ∧ MST K' m' u ∧ ∀ c, c ≠ 149 → c ≠ 152 → u c = t2 c) := by
  refine (m_keeps (K := K) (m := m) (A := upA (K m) s v) (a := a) hG.1 (by rw [f2 149 (by decide), r1 149 (by decide)]; exact hM.1) (fun k hk' => ?_) (fun j hj => (hM.2.2 j hj).fr (fun k _ => by rw [f2 152 (by decide), r1 152 (by decide)]))).mono ?_
  · rw [f2 151 (by decide), Nat.zero_add, r2 k hk']
    have := hM.2.1 k hk'
    rw [Nat.zero_add] at this
    exact this
  · rintro r u ⟨rfl, u1, u2, u3, u4⟩
    rcases hN with ⟨q, -⟩ | ⟨-, rfl, rfl⟩
    · exact absurd q hne
    · refine ⟨rfl, ⟨u1, ?_, u2⟩, u3⟩
      rw [kpu_cur]
      exact h150.fr (fun k _ => by rw [u3 150 (by decide) (by decide)])
theorem setw_setw {w : Nat → Nat → Nat} {a b c d : Nat} : setw (setw w a b c) a b d = setw w a b d := by
  funext p q
  show (if (p = a ∧ q = b) ∨ (p = b ∧ q = a) then d else (if (p = a ∧ q = b) ∨ (p = b ∧ q = a) then c else w p q)) = (if (p = a ∧ q = b) ∨ (p = b ∧ q = a) then d else w p q)
  by_cases h : (p = a ∧ q = b) ∨ (p = b ∧ q = a)
  · rw [if_pos h, if_pos h]
  · rw [if_neg h, if_neg h, if_neg h]
theorem setw_self {n a b : Nat} {w : Nat → Nat → Nat} (hw : WF n w) : setw w a b (w a b) = w := by
  funext p q
  show (if (p = a ∧ q = b) ∨ (p = b ∧ q = a) then w a b else w p q) = w p q
  by_cases h : (p = a ∧ q = b) ∨ (p = b ∧ q = a)
  · rw [if_pos h]
    rcases h with ⟨e1, e2⟩ | ⟨e1, e2⟩
    · rw [e1, e2]
    · rw [e1, e2]; exact hw.2.1 a b
  · rw [if_neg h]
theorem dcn_set {n a b d : Nat} {w : Nat → Nat → Nat} (ha : a < n) (hb : b < n) (hn : n < 10) (hab : a ≠ b) : dcn n (setw w a b d) = dcn n (setw w a b 0) + (if 0 < d then 2 else 0) := by
  by_cases c : 0 < d
  · have := dcn_add (w := setw w a b 0) (v := d) ha hb hn hab setw_a setw_b c
    rw [setw_setw] at this
    rw [if_pos c]
    exact this
  · have : d = 0 := by omega
    subst this
    rw [if_neg c]
    rfl
theorem gn_set {n l a b d : Nat} {w : Nat → Nat → Nat} (G : GN n l w) (ha : a < n) (hb : b < n) (hab : a ≠ b) (hd : d < 10) : (0 < w a b → 0 < l) ∧ GN n (l - (if 0 < w a b then 1 else 0) + (if 0 < d then 1 else 0)) (setw w a b d) := by
  obtain ⟨hn, hw, hl⟩ := G
  have h1 := dcn_set (w := w) (d := w a b) ha hb hn hab
  rw [setw_self hw] at h1
  have h2 := dcn_set (w := w) (d := d) ha hb hn hab
  have h3 : (0 < w a b → 0 < l) := fun c => by rw [if_pos c] at h1; omega
  refine ⟨h3, hn, hw.set ha hb hab hd, ?_⟩
  rw [h2]
  by_cases c1 : 0 < w a b
  · rw [if_pos c1] at h1
    rw [if_pos c1]
    have := h3 c1
    by_cases c2 : 0 < d
    · rw [if_pos c2, if_pos c2]; omega
    · rw [if_neg c2, if_neg c2]; omega
  · rw [if_neg c1] at h1
    rw [if_neg c1]
    by_cases c2 : 0 < d
    · rw [if_pos c2, if_pos c2]; omega
    · rw [if_neg c2, if_neg c2]; omega
def vws (v : V4) (a b d : Nat) : V4 := (v.1, v.2.1 - (if 0 < v.2.2.1 a b then 1 else 0) + (if 0 < d then 1 else 0), setw v.2.2.1 a b d, v.2.2.2)
theorem GV.vws {v : V4} (h : GV v) {a b d : Nat} (ha : a < v.1) (hb : b < v.1) (hab : a ≠ b) (hd : d < 10) (h30 : v.2.1 - (if 0 < v.2.2.1 a b then 1 else 0) + (if 0 < d then 1 else 0) ≤ 30) : GV (vws v a b d) := ⟨(gn_set h.1 ha hb hab hd).2, h30, h.2.2⟩
section
variable {K K' : Nat → Nat → V4} {m m' s : Nat} {t : St}
theorem c_setW {a b d : Nat} {r0 : Int32} (hG : GK K m) (hs : s < 3) (hC : CST K m t) (ha : a < (K m s).1) (hb : b < (K m s).1) (hab : a ≠ b) (hd : d < 10) (h30 : (K m s).2.1 - (if 0 < (K m s).2.2.1 a b then 1 else 0) + (if 0 < d then 1 else 0) ≤ 30) : Ok (bnd (FX5_copyFrom 141 (12 + 24 * s) t) (fun _ t1 => bnd (FX5_setWeight (12 + 24 * s) (nI a) (nI b) (nI d) t1) (fun _ t2 => bnd (FX11_noteAct (nI s) t2) (fun _ t3 => some (r0, t3))))) (fun r u => r = r0 ∧ CNX K m s (vws (K m s) a b d) u ∧ AF s t u) := by
  have hv := hG.2 m (Nat.le_refl _) s hs
  have hn : (K m s).1 < 10 := hv.1.1
  have g := n_sl hs
  refine Ok.bd _ (e_kept hG hs hC) ?_
  rintro _ t1 ⟨k1, x1, f1⟩
  refine Ok.bd _ (e_setWeight x1.1 g (by omega) (by omega) hab hd (hv.1.2.1.1 a b) (gn_set hv.1 ha hb hab hd).1 (by have := hv.2.1; omega)) ?_
  rintro _ t2 ⟨c2, f2⟩
  refine Ok.bd _ (c_note (v := vws (K m s) a b d) hG hs (hv.vws ha hb hab hd h30) hC (fun c c1 c3 => by rw [f2 c (by omega) (by omega) (by omega)]; exact f1 c c3) (k1.fr4 (fun c c1 c3 => f2 c (by omega) (by omega) (by omega))) ⟨c2, fun i hi => by rw [f2 _ (by omega) (by omega) (by omega)]; exact x1.2 i hi⟩) ?_
  rintro _ u ⟨u1, u2, u3⟩
  exact Ok.ret ⟨rfl, u1, u3⟩
theorem q_hasTwo {x n a b : Nat} {t : St} (g : netAt x = true) (hn : n < 10) (h : t x 0 = nI n) (ha : a < n) (hb : b < n) (hab : a ≠ b) : FX5_hasTwo x (nI a) (nI b) t = some (1, t) := by
  refine Ok.eq ?_
  unfold FX5_hasTwo
  exact Ok.ckT g (Ok.bq (g_has g hn h ha) (Ok.ifF (by decide) (Ok.bq (g_has g hn h hb) (Ok.ifF (by decide) (Ok.ifF (by rw [nI_eqP (by omega) (by omega)]; exact hab) (Ok.ret ⟨rfl, rfl⟩))))))
theorem q_areTwo {n a b : Nat} {w : Nat → Nat → Nat} (hs : s < 3) (hn : n < 10) (h : RN s n w t) (ha : a < n) (hb : b < n) (hab : a ≠ b) : FX12_areTwo (nI s) (nI a) (nI b) t = some (1, t) := by
  refine Ok.eq ?_
  unfold FX12_areTwo
  exact Ok.bq (g_isPt hs hn h ha) (Ok.ifF (by decide) (Ok.bq (g_isPt hs hn h hb) (Ok.ifF (by decide) (Ok.ifF (by rw [nI_eqP (by omega) (by omega)]; exact hab) (Ok.ret ⟨rfl, rfl⟩)))))
theorem c_adds {a b d : Nat} (hG : GK K m) (hs : s < 3) (hC : CST K m t) (ha : a < (K m s).1) (hb : b < (K m s).1) (hab : a ≠ b) (h1 : 1 ≤ d) (hd : d < 10) (h30 : ¬ ((K m s).2.2.1 a b = 0 ∧ (K m s).2.1 = 30)) : Ok (FX11_adds (nI s) (nI a) (nI b) (nI d) t) (fun r u => r = nI ((K m s).2.2.1 a b) ∧ CNX K m s (vws (K m s) a b d) u ∧ AF s t u) := by
  have hv := hG.2 m (Nat.le_refl _) s hs
  have hn : (K m s).1 < 10 := hv.1.1
  have hx := hC.1 s hs
  have g := n_sl hs
  have h9 := hv.1.2.1.1 a b
  have hl := hv.2.1
  have hp := (gn_set (d := d) hv.1 ha hb hab hd).1
  unfold FX11_adds
  refine Ok.bq (g_netIn hs hn hx.1.1) ?_
  rw [if_neg (c := (K m s).1 = 0) (by omega)]
  refine Ok.ckT g (Ok.bq (q_hasTwo g hn hx.1.1 ha hb hab) (Ok.ifF (by decide) (Ok.ifF (by rw [li_1, nI_ltP (by omega) (by omega)]; omega) (Ok.ifT (by rw [li_9, nI_leP (by omega) (by omega)]; omega) (Ok.bq (q_weightOf hx.1 g (by omega) (by omega)) (Ok.cv (nI_q0 (by omega)) (Ok.ite (fun c => ?_) (fun c => ?_))))))))
  · refine Ok.rdE hx.1.2.1 (Ok.ifT (by rw [li_30, nI_ltP (by omega) (by omega)]; omega) ?_)
    exact c_setW hG hs hC ha hb hab hd (by rw [c, if_neg (by omega), if_pos (by omega)]; omega)
  · have := hp (by omega)
    exact c_setW hG hs hC ha hb hab hd (by rw [if_pos (by omega), if_pos (by omega)]; omega)
theorem c_adds0 {a b d : Nat} (hG : GK K m) (hs : s < 3) (hC : CST K m t) (ha : a < (K m s).1) (hb : b < (K m s).1) (hab : a ≠ b) (h1 : 1 ≤ d) (hd : d < 10) (h30 : (K m s).2.2.1 a b = 0 ∧ (K m s).2.1 = 30) : FX11_adds (nI s) (nI a) (nI b) (nI d) t = some (-5, t) := by
  have hv := hG.2 m (Nat.le_refl _) s hs
  have hn : (K m s).1 < 10 := hv.1.1
  have hx := hC.1 s hs
  have g := n_sl hs
  refine Ok.eq ?_
  unfold FX11_adds
  refine Ok.bq (g_netIn hs hn hx.1.1) ?_
  rw [if_neg (c := (K m s).1 = 0) (by omega)]
  refine Ok.ckT g (Ok.bq (q_hasTwo g hn hx.1.1 ha hb hab) (Ok.ifF (by decide) (Ok.ifF (by rw [li_1, nI_ltP (by omega) (by omega)]; omega) (Ok.ifT (by rw [li_9, nI_leP (by omega) (by omega)]; omega) (Ok.bq (q_weightOf hx.1 g (by omega) (by omega)) (Ok.ifT (by rw [h30.1]; rfl) ?_))))))
  exact Ok.rdE hx.1.2.1 (Ok.ifF (by rw [h30.2]; decide) (Ok.ret ⟨rfl, rfl⟩))
theorem c_cuts {a b : Nat} (hG : GK K m) (hs : s < 3) (hC : CST K m t) (ha : a < (K m s).1) (hb : b < (K m s).1) (hab : a ≠ b) (h0 : (K m s).2.2.1 a b ≠ 0) : Ok (FX11_cuts (nI s) (nI a) (nI b) t) (fun r u => r = nI ((K m s).2.2.1 a b) ∧ CNX K m s (vws (K m s) a b 0) u ∧ AF s t u) := by
  have hv := hG.2 m (Nat.le_refl _) s hs
  have hn : (K m s).1 < 10 := hv.1.1
  have hx := hC.1 s hs
  have g := n_sl hs
  have h9 := hv.1.2.1.1 a b
  have hl := hv.2.1
  unfold FX11_cuts
  refine Ok.bq (g_netIn hs hn hx.1.1) ?_
  rw [if_neg (c := (K m s).1 = 0) (by omega)]
  refine Ok.ckT g (Ok.bq (q_hasTwo g hn hx.1.1 ha hb hab) (Ok.ifF (by decide) (Ok.bq (q_weightOf hx.1 g (by omega) (by omega)) (Ok.ifF (by rw [nI_q0 (by omega)]; exact h0) ?_))))
  exact c_setW (d := 0) hG hs hC ha hb hab (by omega) (by rw [if_neg (c := 0 < 0) (by omega)]; omega)
theorem c_cuts0 {a b : Nat} (hG : GK K m) (hs : s < 3) (hC : CST K m t) (ha : a < (K m s).1) (hb : b < (K m s).1) (hab : a ≠ b) (h0 : (K m s).2.2.1 a b = 0) : FX11_cuts (nI s) (nI a) (nI b) t = some (-6, t) := by
  have hv := hG.2 m (Nat.le_refl _) s hs
  have hn : (K m s).1 < 10 := hv.1.1
  have hx := hC.1 s hs
  have g := n_sl hs
  refine Ok.eq ?_
  unfold FX11_cuts
  refine Ok.bq (g_netIn hs hn hx.1.1) ?_
  rw [if_neg (c := (K m s).1 = 0) (by omega)]
  exact Ok.ckT g (Ok.bq (q_hasTwo g hn hx.1.1 ha hb hab) (Ok.ifF (by decide) (Ok.bq (q_weightOf hx.1 g (by omega) (by omega)) (Ok.ifT (by rw [h0]; rfl) (Ok.ret ⟨rfl, rfl⟩)))))
theorem gv0 : GV (0, 0, (fun _ _ => 0), fun _ => 0) := ⟨⟨by show 0 < 10; omega, WF.z, rfl⟩, Nat.zero_le _, pfx_0, fun _ _ => rfl⟩
theorem c_drops (hG : GK K m) (hs : s < 3) (hC : CST K m t) (h1 : 1 ≤ (K m s).1) : Ok (FX11_drops (nI s) t) (fun r u => r = 1 ∧ CNX K m s (0, 0, (fun _ _ => 0), fun _ => 0) u ∧ AF s t u) := by
  have hv := hG.2 m (Nat.le_refl _) s hs
  have hn : (K m s).1 < 10 := hv.1.1
  have hx := hC.1 s hs
  have g := n_sl hs
  unfold FX11_drops
  refine Ok.bq (g_slot hs) (Ok.ifF (by decide) ?_)
  rw [el10 hs]
  refine Ok.ckT (inb_n hs (by omega)) (Ok.ckT g (Ok.rdE hx.1.1 (Ok.ifF (by rw [nI_q0 (by omega)]; omega) (Ok.bd _ (e_kept hG hs hC) ?_))))
  rintro _ t1 ⟨k1, x1, f1⟩
  refine Ok.bd _ (e_begin (n := 0) (t := t1) g) ?_
  rintro _ t2 ⟨c2, -, f2⟩
  refine Ok.bd _ (c_note (v := (0, 0, (fun _ _ => 0), fun _ => 0)) hG hs gv0 hC (fun c c1 c3 => by rw [f2 c (by omega) (by omega) (by omega) (by omega)]; exact f1 c c3) (k1.fr4 (fun c c1 c3 => f2 c (by omega) (by omega) (by omega) (by omega))) ⟨c2, fun i hi => absurd hi (Nat.not_lt_zero i)⟩) ?_
  rintro _ u ⟨u1, u2, u3⟩
  exact Ok.ret ⟨rfl, u1, u3⟩
theorem c_drops0 (hs : s < 3) (hC : CST K m t) (h1 : (K m s).1 = 0) : FX11_drops (nI s) t = some (0, t) := by
  have hx := (hC.1 s hs).1.1
  refine Ok.eq ?_
  unfold FX11_drops
  refine Ok.bq (g_slot hs) (Ok.ifF (by decide) ?_)
  rw [el10 hs]
  exact Ok.ckT (inb_n hs (by omega)) (Ok.ckT (n_sl hs) (Ok.rdE hx (Ok.ifT (by rw [h1]; rfl) (Ok.ret ⟨rfl, rfl⟩))))
/-! the reference -/
theorem m_setW {a b d : Nat} (hG : GK K m) (hs : s < 3) (hM : MST K m t) (ha : a < (K m s).1) (hb : b < (K m s).1) (hab : a ≠ b) (hv : GV (vws (K m s) a b d)) {t1 : St} (r1 : ∀ c, c ≠ 151 → t1 c = t c) : Ok (FX12_weighs (nI s) (nI a) (nI b) (nI d) t1) (fun _ t2 => (∀ c, c ≠ 150 → t2 c = t1 c) ∧ RA 150 0 (upA (K m) s (vws (K m s) a b d)) t2) := by
  have hv0 := hG.2 m (Nat.le_refl _) s hs
  have hn : (K m s).1 < 10 := hv0.1.1
  have hr := (hM.2.1.rn hs).fr (r1 150 (by decide))
  refine (m_weighs hr hs (by omega) (by omega) hab).mono ?_
  rintro _ t2 ⟨u1, u2, u3⟩
  refine ⟨u2, hM.2.1.up hs u1 (fun i hi => ?_) hv (fun j hj => ?_)⟩
  · rw [u3 _ (by omega), r1 150 (by decide)]
    exact hM.2.1.ro hs hv0 i hi
  · rw [u3 j (by omega), r1 150 (by decide)]
theorem q_in19 {d : Nat} (h1 : 1 ≤ d) (hd : d < 10) : FX12_in (nI d).toInt64 (1 : Int64) (9 : Int64) t = some (1, t) := by
  refine Ok.eq (e_in (fun _ _ => ⟨rfl, rfl⟩) (fun q => absurd ?_ q))
  rw [n64 (by omega), show (1 : Int64).toInt = 1 by decide, show (9 : Int64).toInt = 9 by decide]
  omega
theorem m_adds {a b d : Nat} (hG : GK K m) (hs : s < 3) (hM : MST K m t) (ha : a < (K m s).1) (hb : b < (K m s).1) (hab : a ≠ b) (h1 : 1 ≤ d) (hd : d < 10) (h30 : ¬ ((K m s).2.2.1 a b = 0 ∧ (K m s).2.1 = 30)) (hN : NXT K m s (vws (K m s) a b d) K' m') : Ok (FX12_adds (nI s) (nI a) (nI b) (nI d) t) (fun r u => r = nI ((K m s).2.2.1 a b) ∧ MST K' m' u) := by
  have hv := hG.2 m (Nat.le_refl _) s hs
  have hn : (K m s).1 < 10 := hv.1.1
  have hr := hM.2.1.rn hs
  have h9 := hv.1.2.1.1 a b
  have hl := hv.2.1
  have hp := (gn_set (d := d) hv.1 ha hb hab hd).1
  have hv' : GV (vws (K m s) a b d) := hv.vws ha hb hab hd (by
    rw [if_pos (c := 0 < d) (by omega)]
    by_cases c : 0 < (K m s).2.2.1 a b
    · rw [if_pos c]; have := hp c; omega
    · rw [if_neg c]; omega)
  have hl2 := hv.1.2.2
  have key : Ok (bnd (FX12_remembers t) (fun _ t1 => bnd (FX12_weighs (nI s) (nI a) (nI b) (nI d) t1) (fun _ t2 => bnd (FX12_done (nI ((K m s).2.2.1 a b)) t2) (fun v t3 => some (v, t3))))) (fun r u => r = nI ((K m s).2.2.1 a b) ∧ MST K' m' u) := by
    refine Ok.bd _ m_remembers ?_
    rintro _ t1 ⟨r1, r2⟩
    refine Ok.bd _ (m_setW hG hs hM ha hb hab hv' r1) ?_
    rintro _ t2 ⟨f2, h2⟩
    refine Ok.bd _ (m_fin hG hs hv' hN hM r1 r2 f2 h2) ?_
    rintro _ u ⟨rfl, u1, -⟩
    exact Ok.ret ⟨rfl, u1⟩
  unfold FX12_adds
  refine Ok.bq (q_areTwo hs hn hr ha hb hab) (Ok.ifF (by decide) (Ok.bq (q_in19 h1 hd) ?_))
  refine Ok.ifF (by decide) (Ok.bq (q_weight hr hs (by omega) (by omega)) (Ok.cv (nI_q0 (by omega)) (Ok.ite (fun c => ?_) (fun c => ?_))))
  · refine Ok.bd (fun r u => t = u ∧ r = nI (dcn (K m s).1 (K m s).2.2.1 / 2)) (m_lines hr hs hn hv.1.2.1 ⟨rfl, rfl⟩) ?_
    rintro _ _ ⟨rfl, rfl⟩
    refine Ok.ifF (by rw [li_30, nI_eqP (by omega) (by omega)]; omega) key
  · exact key
theorem m_adds0 {a b d : Nat} (hG : GK K m) (hs : s < 3) (hM : MST K m t) (ha : a < (K m s).1) (hb : b < (K m s).1) (hab : a ≠ b) (h1 : 1 ≤ d) (hd : d < 10) (h30 : (K m s).2.2.1 a b = 0 ∧ (K m s).2.1 = 30) : FX12_adds (nI s) (nI a) (nI b) (nI d) t = some (-5, t) := by
  have hv := hG.2 m (Nat.le_refl _) s hs
  have hn : (K m s).1 < 10 := hv.1.1
  have hr := hM.2.1.rn hs
  have hl2 := hv.1.2.2
  refine Ok.eq ?_
  unfold FX12_adds
  refine Ok.bq (q_areTwo hs hn hr ha hb hab) (Ok.ifF (by decide) (Ok.bq (q_in19 h1 hd) ?_))
  refine Ok.ifF (by decide) (Ok.bq (q_weight hr hs (by omega) (by omega)) (Ok.ifT (by rw [h30.1]; rfl) (Ok.bd (fun r u => t = u ∧ r = nI (dcn (K m s).1 (K m s).2.2.1 / 2)) (m_lines hr hs hn hv.1.2.1 ⟨rfl, rfl⟩) ?_)))
  rintro _ _ ⟨rfl, rfl⟩
  exact Ok.ifT (by rw [show dcn (K m s).1 (K m s).2.2.1 / 2 = 30 by omega]; rfl) (Ok.ret ⟨rfl, rfl⟩)
theorem m_cuts {a b : Nat} (hG : GK K m) (hs : s < 3) (hM : MST K m t) (ha : a < (K m s).1) (hb : b < (K m s).1) (hab : a ≠ b) (h0 : (K m s).2.2.1 a b ≠ 0) (hN : NXT K m s (vws (K m s) a b 0) K' m') : Ok (FX12_cuts (nI s) (nI a) (nI b) t) (fun r u => r = nI ((K m s).2.2.1 a b) ∧ MST K' m' u) := by
  have hv := hG.2 m (Nat.le_refl _) s hs
  have hn : (K m s).1 < 10 := hv.1.1
  have hr := hM.2.1.rn hs
  have h9 := hv.1.2.1.1 a b
  have hl := hv.2.1
  have hv' : GV (vws (K m s) a b 0) := hv.vws ha hb hab (by omega) (by rw [if_neg (c := 0 < 0) (by omega)]; omega)
  have hne : vws (K m s) a b 0 ≠ K m s := fun q => h0 (by
    have : (vws (K m s) a b 0).2.2.1 a b = (K m s).2.2.1 a b := by rw [q]
    rw [← this]
    exact setw_a)
  unfold FX12_cuts
  refine Ok.bq (q_areTwo hs hn hr ha hb hab) (Ok.ifF (by decide) (Ok.bq (q_weight hr hs (by omega) (by omega)) (Ok.ifF (by rw [nI_q0 (by omega)]; exact h0) (Ok.bd _ m_remembers ?_))))
  rintro _ t1 ⟨r1, r2⟩
  refine Ok.bd _ (m_setW (d := 0) hG hs hM ha hb hab hv' r1) ?_
  rintro _ t2 ⟨f2, h2⟩
  refine Ok.bd _ (m_fik hG hN hne hM r1 r2 f2 h2) ?_
  rintro _ u ⟨rfl, u1, -⟩
  exact Ok.ret ⟨rfl, u1⟩
theorem m_cuts0 {a b : Nat} (hG : GK K m) (hs : s < 3) (hM : MST K m t) (ha : a < (K m s).1) (hb : b < (K m s).1) (hab : a ≠ b) (h0 : (K m s).2.2.1 a b = 0) : FX12_cuts (nI s) (nI a) (nI b) t = some (-6, t) := by
  have hv := hG.2 m (Nat.le_refl _) s hs
  have hn : (K m s).1 < 10 := hv.1.1
  have hr := hM.2.1.rn hs
  refine Ok.eq ?_
  unfold FX12_cuts
  exact Ok.bq (q_areTwo hs hn hr ha hb hab) (Ok.ifF (by decide) (Ok.bq (q_weight hr hs (by omega) (by omega)) (Ok.ifT (by rw [h0]; rfl) (Ok.ret ⟨rfl, rfl⟩))))
theorem m_drops (hG : GK K m) (hs : s < 3) (hM : MST K m t) (h1 : 1 ≤ (K m s).1) (hN : NXT K m s (0, 0, (fun _ _ => 0), fun _ => 0) K' m') : Ok (FX12_drops (nI s) t) (fun r u => r = 1 ∧ MST K' m' u) := by
  have hv := hG.2 m (Nat.le_refl _) s hs
  have hn : (K m s).1 < 10 := hv.1.1
  have hr := hM.2.1.rn hs
  have hne : ((0, 0, (fun _ _ => 0), fun _ => 0) : V4) ≠ K m s := fun q => by
    have : (0 : Nat) = (K m s).1 := by rw [← q]
    omega
  unfold FX12_drops
  refine Ok.bq (g_slotM hs) (Ok.ifF (by decide) (Ok.bq (g_isNet hs hn hr) ?_))
  rw [if_neg (c := (K m s).1 = 0) (by omega)]
  refine Ok.ifF (by decide) (Ok.bd _ m_remembers ?_)
  rintro _ t1 ⟨r1, r2⟩
  refine Ok.bd _ (xX12_empties hs) ?_
  rintro _ t2 e2
  have f2 : ∀ c, c ≠ 150 → t2 c = t1 c := fun c hc => by rw [e2, stp_off hc]
  have z2 : ∀ k, 91 * s ≤ k → k < 91 * s + 91 → t2 150 k = 0 := fun k k1 k2 => by rw [e2, stp_at, if_pos ⟨k1, k2⟩]
  have o2 : ∀ j, (j < 91 * s ∨ 91 * s + 91 ≤ j) → t2 150 j = t 150 j := fun j hj => by rw [e2, stp_at, if_neg (by omega), r1 150 (by decide)]
  have h150 : RA 150 0 (upA (K m) s (0, 0, (fun _ _ => 0), fun _ => 0)) t2 := hM.2.1.up hs ⟨z2 _ (by omega) (by omega), fun a b ha hb => z2 _ (by omega) (by omega)⟩ (fun i hi => by rw [z2 _ (by omega) (by omega), if_neg (Nat.not_lt_zero i)]; rfl) gv0 o2
  refine Ok.bd _ (m_fik (a := 1) hG hN hne hM r1 r2 f2 h150) ?_
  rintro _ u ⟨rfl, u1, -⟩
  exact Ok.ret ⟨rfl, u1⟩
theorem m_drops0 (hG : GK K m) (hs : s < 3) (hM : MST K m t) (h1 : (K m s).1 = 0) : FX12_drops (nI s) t = some (0, t) := by
  have hv := hG.2 m (Nat.le_refl _) s hs
  refine Ok.eq ?_
  unfold FX12_drops
  refine Ok.bq (g_slotM hs) (Ok.ifF (by decide) (Ok.bq (g_isNet hs hv.1.1 (hM.2.1.rn hs)) ?_))
  rw [if_pos h1]
  exact Ok.ifT rfl (Ok.ret ⟨rfl, rfl⟩)
end
end
section
/-! told, as an act -/
theorem amk_dm {bt : Nat → Nat} {b : Nat} : ∀ {N : Nat}, amk (fun i => bt (b + i) - 48) N = dm bt b N
  | 0 => rfl
  | N + 1 => by
    show amk (fun i => bt (b + i) - 48) N ||| 2 ^ (bt (b + N) - 48) = dm bt b N ||| 2 ^ (bt (b + N) - 48)
    rw [amk_dm]
theorem prow_pfx {k N p : Nat} {bt o : Nat → Nat} (h : prow k bt N p = .inr o) : PFX N N o := by
  unfold prow at h
  by_cases c0 : tkc k bt p = 0
  · rw [if_pos c0] at h
    have h := Sum.inr.inj h
    subst h
    exact pfx_id
  · rw [if_neg c0] at h
    by_cases c1 : wrd k bt 114 111 119 p = true
    · rw [if_pos c1] at h
      by_cases c2 : tkc k bt (tke k bt p) = 2
      · rw [if_pos c2] at h
        by_cases c3 : digs k bt N (tke k bt p) = true
        · rw [if_pos c3] at h
          by_cases c4 : sgn k bt 59 (tke k bt (tke k bt p)) = true
          · rw [if_pos c4] at h
            by_cases c5 : tkc k bt (tke k bt (tke k bt (tke k bt p))) = 0
            · rw [if_pos c5] at h
              have h := Sum.inr.inj h
              subst h
              have c3 := of_decide_eq_true c3
              have e := amk_dm (bt := bt) (b := tkb k bt (tke k bt p)) (N := N)
              rw [c3.2.2] at e
              have := Nat.two_pow_pos N
              exact ⟨c3.2.1, by rw [e]; omega, by rw [e]; exact cnt_fl⟩
            · rw [if_neg c5] at h; cases h
          · rw [if_neg c4] at h; cases h
        · rw [if_neg c3] at h; cases h
      · rw [if_neg c2] at h; cases h
    · rw [if_neg c1] at h; cases h
def vtl (v : V4) : V4 := (v.1, v.2.1, v.2.2.1, trm v.1 v.2.2.2)
theorem ptext_gv {k : Nat} {bt : Nat → Nat} {v : V4} (h : ptext k bt = .inr v) : GV (vtl v) := by
  have a := ptext_in h
  have b : PFX v.1 v.1 v.2.2.2 := by
    unfold ptext at h
    by_cases hw : wrd k bt 110 101 116 0 = true
    · rw [if_pos hw] at h
      cases e : num k bt 1 9 (tke k bt 0) with
      | inl f => rw [sbn_l e] at h; cases h
      | inr N =>
        rw [sbn_r e] at h
        cases e2 : plns k bt N (tke k bt (tke k bt 0)) with
        | inl f => rw [sbn_l e2] at h; cases h
        | inr r =>
          rw [sbn_r e2] at h
          cases e3 : prow k bt N r.1 with
          | inl f => rw [sbn_l e3] at h; cases h
          | inr o =>
            rw [sbn_r e3] at h
            have h := Sum.inr.inj h
            subst h
            exact prow_pfx e3
    · rw [if_neg hw] at h
      cases h
  exact ⟨⟨a.2.1, a.2.2.1, a.2.2.2.1⟩, a.2.2.2.2, (trm_go b).1, (trm_go b).2⟩
section
variable {K K' : Nat → Nat → V4} {m m' s : Nat} {t : St}
theorem c_toldA {k : Nat} {bt : Nat → Nat} (hG : GK K m) (hs : s < 3) (hC : CST K m t) (h : CT k bt t) : Pc (FX11_told (nI s) t) (fun r u => Sum.elim (fun _ => CST K m u) (fun v => CNX K m s (vtl v) u) (ptext k bt) ∧ ∀ c, 9 < c → (c < 12 + 24 * s ∨ 12 + 24 * s + 3 < c) → (c < 98 ∨ 144 < c) → u c = t c) := by
  unfold FX11_told
  refine Pc.bq (g_slot hs) (Pc.ifF (by decide) (Pc.bd _ (e_readAll h).pc ?_))
  intro r t1 hr
  refine PcwrE ?_
  cases e : ptext k bt with
  | inl f =>
    obtain ⟨rfl, -, -, a3⟩ := hr.gl e
    have f1 : ∀ c, 9 < c → wr t1 1 1 0 c = t c := fun c hc => by rw [wr_off c (by omega)]; exact a3 c (Or.inr hc)
    exact Pc.ifT rfl (Pc.ret ⟨hC.fr hG.1 (fun r hr c c1 c2 => f1 c (by omega)) (fun c c1 c2 => f1 c (by omega)), fun c c1 _ _ => f1 c c1⟩)
  | inr v =>
    obtain ⟨rfl, -, -, n1, o1, d1⟩ := hr.gr e
    have hv := ptext_gv e
    have f1 : ∀ c, 9 < c → wr t1 1 1 0 c = t c := fun c hc => by rw [wr_off c (by omega)]; exact d1 c (Or.inr hc)
    have n6' : CN 6 v.1 v.2.1 v.2.2.1 (wr t1 1 1 0) := n1.fr (wr_off _ (by decide)) (wr_off _ (by decide)) (wr_off _ (by decide))
    have o6 : CO 6 v.1 (trm v.1 v.2.2.2) (wr t1 1 1 0) := fun i hi => by
      rw [wrf (by decide), trm_in hi]
      exact o1 i hi
    have hC1 : CST K m (wr t1 1 1 0) := hC.fr hG.1 (fun r hr c c1 c2 => f1 c (by omega)) (fun c c1 c2 => f1 c (by omega))
    generalize wr t1 1 1 0 = t2 at f1 n6' o6 hC1 ⊢
    refine Pc.ifF (by decide) (Pc.ck (fun _ => Pc.ck (fun _ => ?_)))
    rw [el10 hs]
    refine Pc.bd _ (e_kept hG hs hC1).pc ?_
    rintro _ t3 ⟨k3, x3, f3⟩
    refine Pc.bd _ (e_copyFrom (t := t3) (n_sl hs) n6 (by omega)).pc ?_
    rintro _ t4 ⟨f4, a0, a1, a2, a4, a3⟩
    have s6 : CS 6 (vtl v) t3 := ⟨n6'.fr (f3 _ (by omega)) (f3 _ (by omega)) (f3 _ (by omega)), fun i hi => by rw [f3 _ (by omega)]; exact o6 i hi⟩
    have x4 : CS (12 + 24 * s) (vtl v) t4 := s6.cp hv.1.1 a0 a1 a2 a4 a3
    refine Pc.bd _ (c_note (v := vtl v) hG hs hv hC1 (fun c c1 c2 => by rw [f4 c (by omega)]; exact f3 c c2) (k3.fr4 (fun c c1 c2 => f4 c (by omega))) x4).pc ?_
    rintro _ u ⟨u1, u2, u3⟩
    exact Pc.rdE rfl (Pc.ret ⟨u1, fun c c0 c1 c2 => by rw [u3 c c1 c2]; exact f1 c c0⟩)
theorem m_toldA {k : Nat} {bt : Nat → Nat} (hG : GK K m) (hs : s < 3) (hM : MST K m t) (h : MT k bt t) : Pc (FX12_told (nI s) t) (fun r u => Sum.elim (fun _ => MST K m u) (fun v => ∀ K' m', NXT K m s (vtl v) K' m' → MST K' m' u) (ptext k bt)) := by
  unfold FX12_told
  refine Pc.bq (g_slotM hs) (Pc.ifF (by decide) (PcwrE (PcwrE (PcwrE (PcwrE ?_)))))
  have gf : ∀ c, c ≠ 149 → wr (wr (wr (wr t 149 6 0) 149 7 (-1)) 149 12 0) 149 8 0 c = t c := fun c hc => by rw [wr_off c hc, wr_off c hc, wr_off c hc, wr_off c hc]
  have g3 : wr (wr (wr (wr t 149 6 0) 149 7 (-1)) 149 12 0) 149 8 0 149 3 = t 149 3 := by rw [wrn (by decide), wrn (by decide), wrn (by decide), wrn (by decide)]
  have g12 : wr (wr (wr (wr t 149 6 0) 149 7 (-1)) 149 12 0) 149 8 0 149 12 = 0 := by rw [wrn (by decide), wrs]
  have g8 : wr (wr (wr (wr t 149 6 0) 149 7 (-1)) 149 12 0) 149 8 0 149 8 = nI 0 := wrs
  have gM : MT k bt (wr (wr (wr (wr t 149 6 0) 149 7 (-1)) 149 12 0) 149 8 0) := by
    refine ⟨h.1, ?_, fun i hi => ?_⟩
    · rw [wrn (by decide), wrn (by decide), wrn (by decide), wrn (by decide)]; exact h.2.1
    · rw [gf 153 (by decide)]; exact h.2.2 i hi
  generalize wr (wr (wr (wr t 149 6 0) 149 7 (-1)) 149 12 0) 149 8 0 = y at gf g3 g12 g8 gM ⊢
  have My : MST K m y := hM.fr g3 (gf 150 (by decide)) (gf 152 (by decide))
  refine Pc.bd _ m_remembers.pc ?_
  rintro _ y1 ⟨r1, r2⟩
  have M1 : MT k bt y1 := ⟨gM.1, by rw [r1 149 (by decide)]; exact gM.2.1, fun i hi => by rw [r1 153 (by decide)]; exact gM.2.2 i hi⟩
  refine Pc.bd _ (m_next M1 (Nat.zero_le _) (by rw [r1 149 (by decide)]; exact g8)).pc ?_
  rintro _ y2 ⟨R2, K2⟩
  have b2 : y2 149 12 = 0 := by rw [K2.2 12 (by omega), r1 149 (by decide)]; exact g12
  refine Pc.bd _ (m_readsNetX R2 b2 hs).pc ?_
  rintro _ y3 ⟨F3, h3⟩
  refine PcwrE ?_
  have q3 : wr y3 149 5 0 149 3 = y 149 3 := by rw [wrn (by decide), F3.2 3 (by omega), K2.2 3 (by omega), r1 149 (by decide)]
  have qf : ∀ c, c ≠ 149 → c ≠ 150 → c ≠ 151 → wr y3 149 5 0 c = y c := fun c c1 c2 c3 => by rw [wr_off c c1, F3.1 c c1 c2, K2.1 c c1, r1 c c3]
  have q151 : ∀ i, i < 273 → wr y3 149 5 0 151 i = y 150 i := fun i hi => by rw [wrf (by decide), F3.1 151 (by decide) (by decide), K2.1 151 (by decide)]; exact r2 i hi
  have q150 : ∀ i, wr y3 149 5 0 150 i = y3 150 i := fun i => wrf (by decide)
  have q12 : wr y3 149 5 0 149 12 = y3 149 12 := wrn (by decide)
  have y23 : ∀ i, y2 150 i = y 150 i := fun i => by rw [K2.1 150 (by decide), r1 150 (by decide)]
  generalize wr y3 149 5 0 = z at q3 qf q151 q150 q12 ⊢
  cases e : ptext k bt with
  | inl f =>
    rw [e] at h3
    refine Pc.rdE (x := 1) (by rw [q12]; exact h3.1) (Pc.ifF (by decide) (Pc.bd (fun _ u => (∀ c, c ≠ 150 → u c = z c) ∧ ∀ i, i < 273 → u 150 i = y 150 i) (Ok.pc ?_) ?_))
    · refine Ok.count 273 (fun j c u => c = nI j ∧ (∀ c, c ≠ 150 → u c = z c) ∧ ∀ i, i < j → u 150 i = y 150 i) ?_ ?_ (Nat.zero_le _) ⟨rfl, fun _ _ => rfl, fun i hi => by omega⟩
      · rintro j c u hj ⟨rfl, uf, u1⟩
        unfold SX12_told_57
        refine Ok.ifF (by rw [li_273, nI_leP (by omega) (by omega)]; omega) (Ok.ckT (inb_n hj (by omega)) ?_)
        rw [nI_cl (by omega)]
        refine Ok.rdE (x := y 150 j) (by rw [uf 151 (by decide)]; exact q151 j hj) (Ok.ckT (inb_n hj (by omega)) (OkwrE (Ok.ret ⟨nI_1 j, fun c hc => by rw [wr_off c hc]; exact uf c hc, fun i hi => ?_⟩)))
        by_cases e : i = j
        · subst e; rw [wrs]
        · rw [wrn e]; exact u1 i (by omega)
      · rintro c u ⟨rfl, uf, u1⟩
        unfold SX12_told_57
        exact Ok.ifT (by rw [li_273, nI_leP (by omega) (by omega)]; omega) (Ok.ret ⟨uf, u1⟩)
    · rintro _ u ⟨uf, u1⟩
      refine Pc.ret ⟨?_, My.2.1.fr (fun i hi => by rw [Nat.zero_add, u1 i hi]), fun j hj => (My.2.2 j hj).fr (fun i _ => by rw [uf 152 (by decide), qf 152 (by decide) (by decide) (by decide)])⟩
      rw [uf 149 (by decide), q3]
      exact My.1
  | inr v =>
    rw [e] at h3
    obtain ⟨b3, N3, ⟨O3, U3⟩, -⟩ := h3
    have hv := ptext_gv e
    obtain ⟨v1, v9, vw, vc, -⟩ := ptext_in e
    refine Pc.rdE (x := 0) (by rw [q12]; exact b3) (Pc.ifT rfl (Pc.bd (fun r u => z = u ∧ r = nI v.2.1) (m_lines (n := v.1) (w := v.2.2.1) (N3.fr (funext q150)) hs v9 vw ⟨rfl, by rw [← vc, Nat.mul_div_cancel_left _ (by omega)]⟩).pc ?_))
    rintro _ _ ⟨rfl, rfl⟩
    have h150 : RA 150 0 (upA (K m) s (vtl v)) z := My.2.1.up hs (N3.fr (funext q150)) (fun i hi => ?_) hv (fun j hj => ?_)
    · have hd : ∀ K' m', NXT K m s (vtl v) K' m' → Pc (FX12_done (nI v.2.1) z) (fun r u => MST K' m' u) := fun K' m' hN => by
        refine (m_done (a := nI v.2.1) hG hs hv hN (by rw [q3]; exact My.1) (fun i hi => ?_) h150 (fun j hj => (My.2.2 j hj).fr (fun i _ => by rw [qf 152 (by decide) (by decide) (by decide)]))).pc.mono (fun r u h => h.2.1)
        rw [Nat.zero_add, q151 i hi]
        have := My.2.1 i hi
        rw [Nat.zero_add] at this
        exact this
      refine Pc.bd (fun _ u => ∀ K' m', NXT K m s (vtl v) K' m' → MST K' m' u) (fun r u hru K' m' hN => hd K' m' hN r u hru) ?_
      rintro _ u hu
      exact Pc.ret hu
    · rw [q150, O3 i hi]
      by_cases c : i < v.1
      · rw [if_pos c]
        show _ = nI (if i < v.1 then trm v.1 v.2.2.2 i else 0)
        rw [if_pos c, trm_in c]
      · rw [if_neg c]
        show _ = nI (if i < v.1 then trm v.1 v.2.2.2 i else 0)
        rw [if_neg c]
    · rw [q150, U3 j hj]
      exact y23 j
end
end
