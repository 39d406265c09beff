/-! layers: the row by how far points are, then by numbers -/
def cky (n : Nat) (d : Nat → Nat) (T : Nat) : Nat := sm n (fun q => if 16 * d q + q < T then 1 else 0)
theorem sm_pt {f : Nat → Nat} {j : Nat} : ∀ {n : Nat}, (∀ i, i < n → i ≠ j → f i = 0) → sm n f = if j < n then f j else 0
  | 0, _ => by rw [if_neg (by omega)]; rfl
  | n + 1, h => by
    show sm n f + f n = _
    rw [sm_pt (n := n) (fun i hi hn => h i (by omega) hn)]
    by_cases e : j = n
    · subst e
      rw [if_neg (by omega), if_pos (by omega), Nat.zero_add]
    · rw [h n (by omega) (fun q => e q.symm)]
      by_cases c : j < n
      · rw [if_pos c, if_pos (by omega)]; rfl
      · rw [if_neg c, if_neg (by omega)]
theorem cky_s {n k j : Nat} {d : Nat → Nat} (hn : n < 10) (hj : j < 16) : cky n d (16 * k + j + 1) = cky n d (16 * k + j) + (if j < n ∧ d j = k then 1 else 0) := by
  have e : cky n d (16 * k + j + 1) = sm n (fun q => (if 16 * d q + q < 16 * k + j then 1 else 0) + (if 16 * d q + q = 16 * k + j then 1 else 0)) := by
    refine sm_congr (fun q hq => ?_)
    by_cases c : 16 * d q + q < 16 * k + j
    · rw [if_pos c, if_pos (by omega), if_neg (by omega)]
    · by_cases c2 : 16 * d q + q = 16 * k + j
      · rw [if_neg c, if_pos (by omega), if_pos c2]
      · rw [if_neg c, if_neg (by omega), if_neg c2]
  rw [e, sm_add, sm_pt (f := fun q => if 16 * d q + q = 16 * k + j then 1 else 0) (j := j) (fun i hi hne => if_neg (by omega))]
  unfold cky
  congr 1
  by_cases c : j < n
  · rw [if_pos c]
    by_cases c2 : d j = k
    · rw [if_pos (by omega), if_pos ⟨c, c2⟩]
    · rw [if_neg (by omega), if_neg (fun q => c2 q.2)]
  · rw [if_neg c, if_neg (fun q => c q.1)]
theorem cky_mono {n T U : Nat} {d : Nat → Nat} (h : T ≤ U) : cky n d T ≤ cky n d U := sm_mono (fun q _ => by
  by_cases c : 16 * d q + q < T
  · rw [if_pos c, if_pos (by omega)]; exact Nat.le_refl _
  · rw [if_neg c]; exact Nat.zero_le _)
theorem cky_le {n T : Nat} {d : Nat → Nat} : cky n d T ≤ n := sm_le1 (fun i => by split <;> omega)
theorem cky_0 {n : Nat} {d : Nat → Nat} : cky n d 0 = 0 := sm_zero (fun i _ => if_neg (by omega))
theorem cky_key {n q : Nat} {d : Nat → Nat} (hn : n < 10) (hq : q < n) : cky n d (16 * d q + q + 1) = cky n d (16 * d q + q) + 1 := by
  rw [cky_s hn (by omega), if_pos ⟨hq, rfl⟩]
def rnk (n : Nat) (d : Nat → Nat) (q : Nat) : Nat := cky n d (16 * d q + q)
theorem rnk_lt {n q : Nat} {d : Nat → Nat} (hn : n < 10) (hq : q < n) : rnk n d q < n := by
  have := cky_key (d := d) hn hq
  have := cky_le (n := n) (d := d) (T := 16 * d q + q + 1)
  unfold rnk
  omega
theorem rnk_ltk {n q T : Nat} {d : Nat → Nat} (hn : n < 10) (hq : q < n) (h : 16 * d q + q < T) : rnk n d q < cky n d T := by
  have := cky_key (d := d) hn hq
  have := cky_mono (n := n) (d := d) (T := 16 * d q + q + 1) (U := T) (by omega)
  unfold rnk
  omega
theorem rnk_inj {n q r : Nat} {d : Nat → Nat} (hn : n < 10) (hq : q < n) (hr : r < n) (h : rnk n d q = rnk n d r) : q = r := by
  rcases (show 16 * d q + q < 16 * d r + r ∨ 16 * d q + q = 16 * d r + r ∨ 16 * d r + r < 16 * d q + q by omega) with c | c | c
  · have : rnk n d q < rnk n d r := rnk_ltk hn hq c
    omega
  · omega
  · have : rnk n d r < rnk n d q := rnk_ltk hn hr c
    omega
noncomputable def lyr (n : Nat) (d : Nat → Nat) (i : Nat) : Nat := @dite Nat (∃ q, q < n ∧ rnk n d q = i) (Classical.propDecidable _) (fun h => Classical.choose h) (fun _ => 0)
theorem lyr_at {n q : Nat} {d : Nat → Nat} (hn : n < 10) (hq : q < n) : lyr n d (rnk n d q) = q := by
  have hx : ∃ r, r < n ∧ rnk n d r = rnk n d q := ⟨q, hq, rfl⟩
  unfold lyr
  rw [dif_pos hx]
  have h := Classical.choose_spec hx
  exact rnk_inj hn h.1 hq h.2
theorem lyr_lt {n i : Nat} {d : Nat → Nat} (h0 : 0 < n) : lyr n d i < n := by
  unfold lyr
  by_cases hx : ∃ r, r < n ∧ rnk n d r = i
  · rw [dif_pos hx]
    exact (Classical.choose_spec hx).1
  · rw [dif_neg hx]
    exact h0
theorem pfx_id {n : Nat} : PFX n n (fun i => i) := pfx_of (fun i hi => ⟨hi, lt_pow_bit (n := i) (amk_lt2 (fun k hk => hk)) (Nat.le_refl _)⟩) (Nat.le_refl _)
theorem lyr_pfx {n : Nat} {d : Nat → Nat} (hn : n < 10) : PFX n n (lyr n d) := pfx_perm pfx_id (fun k hk => lyr_lt (by omega)) (fun k hk => ⟨rnk n d k, rnk_lt hn hk, lyr_at hn hk⟩)
theorem ivt {c : Nat → Nat} (h0 : c 0 = 0) (hs : ∀ T, c (T + 1) ≤ c T + 1) : ∀ (T i : Nat), i < c T → ∃ U, c U = i ∧ c (U + 1) = i + 1
  | 0, i, h => by omega
  | T + 1, i, h => by
    by_cases e : i < c T
    · exact ivt h0 hs T i e
    · have := hs T
      exact ⟨T, by omega, by omega⟩
theorem cky_s1 {n T : Nat} {d : Nat → Nat} (hn : n < 10) : cky n d (T + 1) = cky n d T + (if T % 16 < n ∧ d (T % 16) = T / 16 then 1 else 0) := by
  have := cky_s (n := n) (d := d) (k := T / 16) (j := T % 16) hn (by omega)
  rw [show 16 * (T / 16) + T % 16 = T by omega] at this
  exact this
theorem rnk_on {n i : Nat} {d : Nat → Nat} (hn : n < 10) (hd : ∀ q, q < n → d q ≤ 9) (hi : i < n) : ∃ q, q < n ∧ rnk n d q = i := by
  have e : cky n d 160 = n := by
    have : cky n d 160 = sm n (fun _ => 1) := sm_congr (fun q hq => if_pos (by have := hd q hq; omega))
    rw [this]
    clear this hd hi hn
    induction n with
    | zero => rfl
    | succ n ih => show sm n (fun _ => 1) + 1 = n + 1; rw [ih]
  obtain ⟨U, h1, h2⟩ := ivt (c := cky n d) cky_0 (fun T => by rw [cky_s1 hn]; split <;> omega) 160 i (by omega)
  rw [cky_s1 hn, h1] at h2
  by_cases c : U % 16 < n ∧ d (U % 16) = U / 16
  · refine ⟨U % 16, c.1, ?_⟩
    unfold rnk
    rw [c.2, show 16 * (U / 16) + U % 16 = U by omega]
    exact h1
  · rw [if_neg c] at h2
    omega
/-- so far the row stands at place b, from e on -/
def LI (n : Nat) (d : Nat → Nat) (b T : Nat) (t : St) : Prop := ∀ q, q < n → 16 * d q + q < T → t b (rnk n d q) = nI q
theorem LI.s {n k j b : Nat} {d : Nat → Nat} {t u : St} (hn : n < 10) (h : LI n d b (16 * k + j) t) (hj : j < n) (hd : d j = k) (e : u = wr t b (cky n d (16 * k + j)) (nI j)) : LI n d b (16 * k + j + 1) u := by
  subst e
  intro q hq hT
  by_cases c : 16 * d q + q < 16 * k + j
  · rw [wrn (by have := rnk_ltk hn hq c; omega)]
    exact h q hq c
  · have : q = j := by omega
    subst this
    have : rnk n d q = cky n d (16 * k + q) := by unfold rnk; rw [hd]
    rw [this, wrs]
theorem LI.k {n k j b : Nat} {d : Nat → Nat} {t : St} (hn : n < 10) (h : LI n d b (16 * k + j) t) (hj : j < 16) (hd : ¬ (j < n ∧ d j = k)) : LI n d b (16 * k + j + 1) t := by
  intro q hq hT
  refine h q hq ?_
  by_cases c : q = j
  · subst c
    have : d q ≠ k := fun e => hd ⟨hq, e⟩
    omega
  · omega
theorem LI.fin {n b : Nat} {d : Nat → Nat} {t : St} (hn : n < 10) (hd : ∀ q, q < n → d q ≤ 9) (h : LI n d b 160 t) : ∀ i, i < n → t b i = nI (trm n (lyr n d) i) := by
  intro i hi
  obtain ⟨q, hq, rfl⟩ := rnk_on hn hd hi
  rw [trm_in hi, lyr_at hn hq]
  exact h q hq (by have := hd q hq; omega)
theorem cky_e {n k : Nat} {d : Nat → Nat} (hn : n < 10) : cky n d (16 * k + n) = cky n d (16 * (k + 1)) := sm_congr (fun q hq => by
  by_cases c : 16 * d q + q < 16 * k + n
  · rw [if_pos c, if_pos (by omega)]
  · rw [if_neg c, if_neg (by omega)])
theorem LI.e {n k b : Nat} {d : Nat → Nat} {t : St} (hn : n < 10) (h : LI n d b (16 * k + n) t) : LI n d b (16 * (k + 1)) t := fun q hq hT => h q hq (by omega)
/-! the class -/
theorem e_putInRow {x n l k S : Nat} {w : Nat → Nat → Nat} {d : Nat → Nat} {t : St} (h : CN x n l w t) (g : netAt x = true) (hn : n < 10) (hS : S < 512) (hb : ∀ q, q < n → (S.testBit q = true ↔ d q = k)) (hL : LI n d (x + 2) (16 * k) t) : Ok (FX8_putInRow x (nI (cky n d (16 * k))) (nI S) t) (fun r u => r = nI (cky n d (16 * (k + 1))) ∧ (∀ c, c ≠ x + 2 → u c = t c) ∧ LI n d (x + 2) (16 * (k + 1)) u) := by
  unfold FX8_putInRow
  refine Ok.ckT g (Ok.bd (fun r u => r = nI (cky n d (16 * (k + 1))) ∧ (∀ c, c ≠ x + 2 → u c = t c) ∧ LI n d (x + 2) (16 * (k + 1)) u) ?_ (fun _ _ hu => Ok.ret hu))
  refine Ok.count n (fun j c s => c = (nI (cky n d (16 * k + j)), nI j) ∧ (∀ c, c ≠ x + 2 → s c = t c) ∧ LI n d (x + 2) (16 * k + j) s) ?_ ?_ (Nat.zero_le _) ⟨rfl, fun _ _ => rfl, hL⟩
  · rintro j c s hj ⟨rfl, sf, s1⟩
    unfold SX8_putInRow_5
    dsimp only
    have e0 : s x 0 = nI n := by rw [sf x (by omega)]; exact h.1
    have hc := cky_le (n := n) (d := d) (T := 16 * k + j + 1)
    have hs := cky_s (n := n) (d := d) (k := k) (j := j) hn (by omega)
    refine Ok.rdE e0 (Ok.ifF (by rw [nI_leP (by omega) (by omega)]; omega) ?_)
    refine Ok.bd (fun r u => r = nI (cky n d (16 * k + j + 1)) ∧ (∀ c, c ≠ x + 2 → u c = t c) ∧ LI n d (x + 2) (16 * k + j + 1) u) ?_ ?_
    · refine Ok.cv (bitn (by omega) (by omega)) (Ok.ite (fun c => Ok.ret ?_) (fun c => ?_))
      · have c2 : ¬ (j < n ∧ d j = k) := fun q => by rw [(hb j hj).mpr q.2] at c; cases c
        rw [if_neg c2] at hs
        exact ⟨by rw [show cky n d (16 * k + j + 1) = cky n d (16 * k + j) by omega], sf, s1.k hn (by omega) c2⟩
      · have c2 := (hb j hj).mp (bT c)
        rw [if_pos ⟨hj, c2⟩] at hs
        refine Ok.rdE e0 (Ok.ifF (by rw [nI_leP (by omega) (by omega)]; omega) (Ok.ckT (inb_n (by omega) (by omega)) (OkwrE (Ok.ret ⟨by rw [nI_1, hs], fun c hc => by rw [wr_off c hc]; exact sf c hc, ?_⟩))))
        rw [nI_cl (by omega)]
        exact s1.s hn hj c2 rfl
    · rintro _ u ⟨rfl, u1, u2⟩
      exact Ok.ret ⟨by rw [nI_1]; rfl, u1, u2⟩
  · rintro c s ⟨rfl, sf, s1⟩
    unfold SX8_putInRow_5
    dsimp only
    refine Ok.rdE (x := nI n) (by rw [sf x (by omega)]; exact h.1) (Ok.ifT (by rw [nI_leP (by omega) (by omega)]; omega) (Ok.ret ⟨by rw [cky_e hn], sf, s1.e hn⟩))
/-- what is reached ahead of step k -/
def rbf (n : Nat) (w : Nat → Nat → Nat) (p : Nat) : Nat → Nat
  | 0 => 0
  | k + 1 => gsq n w (2 ^ p) k
theorem e_makeLayers {x n l p : Nat} {w : Nat → Nat → Nat} {t : St} (h : CN x n l w t) (g : netAt x = true) (hw : WF n w) (hn : n < 10) (hp : p < n) : Ok (FX8_makeLayers x (nI p) t) (fun _ u => (∀ c, c ≠ x + 2 → u c = t c) ∧ CO x n (trm n (lyr n (dst n w p))) u) := by
  have hS := pw_n hp
  have r9 : ∀ k, rbf n w p k < 512 := fun k => by
    cases k with
    | zero => exact (by omega : 0 < 512)
    | succ k => exact gsq_9 hw hn hS
  unfold FX8_makeLayers
  refine Ok.ckT g (Ok.bd (fun r u => r = (nI (cky n (dst n w p) (16 * n)), nI (rbf n w p n)) ∧ (∀ c, c ≠ x + 2 → u c = t c) ∧ LI n (dst n w p) (x + 2) (16 * n) u) ?_ ?_)
  · refine Ok.count n (fun k c s => c = (nI (cky n (dst n w p) (16 * k)), nI (rbf n w p k), nI (gsq n w (2 ^ p) k), nI k) ∧ (∀ c, c ≠ x + 2 → s c = t c) ∧ LI n (dst n w p) (x + 2) (16 * k) s) ?_ ?_ (Nat.zero_le _) ⟨by rw [cky_0, li_1, li_0, shl_1b (by omega)]; rfl, fun _ _ => rfl, fun q hq hT => by omega⟩
    · rintro k c s hk ⟨rfl, sf, s1⟩
      unfold SX8_makeLayers_12
      dsimp only
      have hx : CN x n l w s := h.fr (sf x (by omega)) (sf _ (by omega)) (sf _ (by omega))
      have h9 := gsq_9 (k := k) hw hn hS
      have hor : rbf n w p k ||| gsq n w (2 ^ p) k = gsq n w (2 ^ p) k := by
        cases k with
        | zero => exact Nat.zero_or _
        | succ k =>
          refine bit_ext (n := 9) (or9 (gsq_9 hw hn hS) h9) h9 (fun q _ => ?_)
          rw [Nat.testBit_or]
          show ((gsq n w (2 ^ p) k).testBit q || _) = _
          cases e : (gsq n w (2 ^ p) k).testBit q
          · rfl
          · rw [gsq_up (k := k + 1) e (by omega)]; rfl
      refine Ok.rdE hx.1 (Ok.ifF (by rw [nI_leP (by omega) (by omega)]; omega) ?_)
      rw [nI_dif h9 (r9 k)]
      refine Ok.bd _ (e_putInRow (k := k) (d := dst n w p) hx g hn (dif_lt h9) (fun q hq => ?_) s1) ?_
      · rw [dif_b h9]
        constructor
        · rintro ⟨a, b⟩
          refine fsf_eq (by omega) hk a (fun j hj => ?_)
          cases k with
          | zero => omega
          | succ k =>
            cases e : (gsq n w (2 ^ p) j).testBit q
            · rfl
            · have b : (gsq n w (2 ^ p) k).testBit q = false := b
              rw [gsq_up (k := k) e (by omega)] at b
              cases b
        · intro e
          rcases dst_in (a := p) (b := q) (w := w) hn with ⟨a, -⟩ | ⟨a, b, c⟩
          · omega
          · rw [e] at b c
            refine ⟨b, ?_⟩
            cases k with
            | zero => exact Nat.zero_testBit _
            | succ k => exact c k (by omega)
      · rintro _ u ⟨rfl, u1, u2⟩
        rw [nI_or, hor]
        have hu : CN x n l w u := hx.fr (u1 x (by omega)) (u1 _ (by omega)) (u1 _ (by omega))
        exact Ok.bq (q_grown hu g hn h9) (Ok.ret ⟨by rw [nI_1]; rfl, fun c hc => by rw [u1 c hc]; exact sf c hc, u2⟩)
    · rintro c s ⟨rfl, sf, s1⟩
      unfold SX8_makeLayers_12
      dsimp only
      exact Ok.rdE (x := nI n) (by rw [sf x (by omega)]; exact h.1) (Ok.ifT (by rw [nI_leP (by omega) (by omega)]; omega) (Ok.ret ⟨rfl, sf, s1⟩))
  · rintro _ t1 ⟨rfl, f1, L1⟩
    have hx : CN x n l w t1 := h.fr (f1 x (by omega)) (f1 _ (by omega)) (f1 _ (by omega))
    have a9 : 2 ^ n - 1 < 512 := by have := pow9 (k := n) (by omega); have := Nat.two_pow_pos n; omega
    have dd : ∀ q, q < n → dst n w p q < n ∨ dst n w p q = 9 := fun q hq => by
      rcases dst_in (a := p) (b := q) (w := w) hn with ⟨a, -⟩ | ⟨a, -⟩
      · exact Or.inr a
      · exact Or.inl a
    have ec : cky n (dst n w p) (16 * n) = cky n (dst n w p) (16 * 9) := sm_congr (fun q hq => by
      have := dd q hq
      by_cases c : 16 * dst n w p q + q < 16 * n
      · rw [if_pos c, if_pos (by omega)]
      · rw [if_neg c, if_neg (by omega)])
    refine Ok.bd _ (e_allBits hx hn g (Q := fun r u => r = nI (2 ^ n - 1) ∧ t1 = u) ⟨rfl, rfl⟩) ?_
    rintro _ _ ⟨rfl, rfl⟩
    show Ok (bnd (FX8_putInRow x (nI (cky n (dst n w p) (16 * n))) (nI (2 ^ n - 1) &&& (nI (rbf n w p n) ^^^ -1)) t1) _) _
    rw [nI_dif a9 (r9 n), ec]
    refine Ok.bd _ (e_putInRow (k := 9) (d := dst n w p) hx g hn (dif_lt a9) (fun q hq => ?_) (fun q hq hT => L1 q hq (by have := dd q hq; omega))) ?_
    · rw [dif_b a9, Nat.testBit_two_pow_sub_one]
      have hn1 : n = (n - 1) + 1 := by omega
      have er : rbf n w p n = gsq n w (2 ^ p) (n - 1) := by
        rw [hn1]
        rfl
      rw [er]
      constructor
      · rintro ⟨-, b⟩
        refine fsf_no (by omega) (fun j hj => ?_)
        show (gsq n w (2 ^ p) j).testBit q = false
        cases e : (gsq n w (2 ^ p) j).testBit q
        · rfl
        · rw [gsq_up (k := n - 1) e (by omega)] at b
          cases b
      · intro e
        refine ⟨decide_eq_true hq, ?_⟩
        rcases dst_in (a := p) (b := q) (w := w) hn with ⟨-, a⟩ | ⟨a, -⟩
        · exact a (n - 1) (by omega)
        · omega
    · rintro _ u ⟨-, u1, u2⟩
      exact Ok.ret ⟨fun c hc => by rw [u1 c hc]; exact f1 c hc, u2.fin hn (fun q _ => dst_le hn)⟩
section
variable {K K' : Nat → Nat → V4} {m m' s : Nat} {t : St}
theorem c_layers {p : Nat} (hG : GK K m) (hs : s < 3) (hC : CST K m t) (hp : p < (K m s).1) : Ok (FX11_layers (nI s) (nI p) t) (fun r u => r = nI (dfo (K m s).1 (K m s).2.2.2 (trm (K m s).1 (lyr (K m s).1 (dst (K m s).1 (K m s).2.2.1 p)))) ∧ CNX K m s (vwo (K m s) (trm (K m s).1 (lyr (K m s).1 (dst (K m s).1 (K m s).2.2.1 p)))) u ∧ AF s t u) := by
  have hv := hG.2 m (Nat.le_refl _) s hs
  have hn : (K m s).1 < 10 := hv.1.1
  have hx := hC.1 s hs
  have g := n_sl hs
  have hgo : GO (K m s).1 (trm (K m s).1 (lyr (K m s).1 (dst (K m s).1 (K m s).2.2.1 p))) := trm_go (lyr_pfx hn)
  unfold FX11_layers
  refine Ok.bq (g_netIn hs hn hx.1.1) ?_
  rw [if_neg (c := (K m s).1 = 0) (by omega)]
  refine Ok.ckT g (Ok.bq (g_has g hn hx.1.1 hp) (Ok.ifF (by decide) (Ok.bd _ (e_kept hG hs hC) ?_)))
  rintro _ t1 ⟨k1, x1, f1⟩
  refine Ok.bd _ (e_makeLayers x1.1 g hv.1.2.1 hn hp) ?_
  rintro _ t2 ⟨f2, o2⟩
  refine Ok.bd _ (c_note (v := vwo (K m s) (trm (K m s).1 (lyr (K m s).1 (dst (K m s).1 (K m s).2.2.1 p)))) hG hs (hv.vwo hgo) hC (fun c c1 c2 => by rw [f2 c (by omega)]; exact f1 c c2) (k1.fr4 (fun c c1 c2 => f2 c (by omega))) (x1.vwo f2 o2)) ?_
  rintro _ u ⟨u1, u2, u3⟩
  have xu : CS (12 + 24 * s) (vwo (K m s) (trm (K m s).1 (lyr (K m s).1 (dst (K m s).1 (K m s).2.2.1 p)))) u := (x1.vwo f2 o2).fr4 (fun c c1 c2 => u2 c (by omega))
  have ku : CS 141 (K m s) u := k1.fr4 (fun c c1 c2 => by rw [u2 c (by omega), f2 c (by omega)])
  exact Ok.bq (q_placesUnlike g n_141 hn xu.1.1 xu.2 ku.2 (fun i _ => hgo.lt hn i) (fun i _ => hv.o9 i)) (Ok.ret ⟨by rw [dfo_sy]; rfl, u1, u3⟩)
theorem m_layers {p : Nat} (hG : GK K m) (hs : s < 3) (hM : MST K m t) (hp : p < (K m s).1) (hN : NXT K m s (vwo (K m s) (trm (K m s).1 (lyr (K m s).1 (dst (K m s).1 (K m s).2.2.1 p)))) K' m') : Ok (FX12_layers (nI s) (nI p) t) (fun r u => r = nI (dfo (K m s).1 (K m s).2.2.2 (trm (K m s).1 (lyr (K m s).1 (dst (K m s).1 (K m s).2.2.1 p)))) ∧ MST K' m' u) := by
  have hv := hG.2 m (Nat.le_refl _) s hs
  have hn : (K m s).1 < 10 := hv.1.1
  have hr := hM.2.1.rn hs
  have hgo : GO (K m s).1 (trm (K m s).1 (lyr (K m s).1 (dst (K m s).1 (K m s).2.2.1 p))) := trm_go (lyr_pfx hn)
  unfold FX12_layers
  refine Ok.bq (g_isPt hs hn hr hp) (Ok.ifF (by decide) ?_)
  generalize hd : dst (K m s).1 (K m s).2.2.1 p = d at hgo hN ⊢
  have d9 : ∀ q, d q ≤ 9 := fun q => by rw [← hd]; exact dst_le hn
  refine Ok.bd (fun _ u => (∀ c, c ≠ 154 → u c = t c) ∧ MO (K m s).1 (trm (K m s).1 (lyr (K m s).1 d)) u) ?_ ?_
  · refine Ok.count 10 (fun k c s' => c = (nI (cky (K m s).1 d (16 * k)), nI k) ∧ (∀ c, c ≠ 154 → s' c = t c) ∧ LI (K m s).1 d 154 (16 * k) s') ?_ ?_ (Nat.zero_le _) ⟨by rw [cky_0]; rfl, fun _ _ => rfl, fun q hq hT => by omega⟩
    · rintro k c s' hk ⟨rfl, sf, s1⟩
      unfold SX12_layers_17
      dsimp only
      refine Ok.ifF (by rw [li_9, nI_ltP (by omega) (by omega)]; omega) (Ok.bd (fun r u => r = nI (cky (K m s).1 d (16 * (k + 1))) ∧ (∀ c, c ≠ 154 → u c = t c) ∧ LI (K m s).1 d 154 (16 * (k + 1)) u) ?_ ?_)
      · refine Ok.count (K m s).1 (fun j c s2 => c = (nI (cky (K m s).1 d (16 * k + j)), nI j) ∧ (∀ c, c ≠ 154 → s2 c = t c) ∧ LI (K m s).1 d 154 (16 * k + j) s2) ?_ ?_ (Nat.zero_le _) ⟨rfl, sf, s1⟩
        · rintro j c s2 hj ⟨rfl, sg, g1⟩
          unfold SX12_layers_27
          dsimp only
          have hx := hr.fr (sg 150 (by decide))
          have hc := cky_le (n := (K m s).1) (d := d) (T := 16 * k + j + 1)
          have hst := cky_s (n := (K m s).1) (d := d) (k := k) (j := j) hn (by omega)
          refine Ok.bq (q_points hx hs) (Ok.ifF (by rw [nI_leP (by omega) (by omega)]; omega) (Ok.bq (q_farOf hx hs hv.1.2.1 hn hp hj) ?_))
          rw [hd]
          refine Ok.bq (a := dI k) (t := s2) (Ok.eq (Ok.cv (nI_eqP (a := k) (b := 9) (by omega) (by omega)) (Ok.ite (fun c => Ok.ret ⟨rfl, ?_⟩) (fun c => Ok.ret ⟨rfl, ?_⟩)))) ?_
          · unfold dI; rw [if_pos c]
          · unfold dI; rw [if_neg c]
          refine Ok.bd (fun r u => r = nI (cky (K m s).1 d (16 * k + j + 1)) ∧ (∀ c, c ≠ 154 → u c = t c) ∧ LI (K m s).1 d 154 (16 * k + j + 1) u) ?_ ?_
          · refine Ok.cv (dI_eq (d9 j) (by omega)) (Ok.ite (fun c => ?_) (fun c => Ok.ret ?_))
            · rw [if_pos ⟨hj, c⟩] at hst
              refine Ok.ckT (inb_n (by omega) (by omega)) (OkwrE (Ok.ret ⟨by rw [nI_1, hst], fun c hc => by rw [wr_off c hc]; exact sg c hc, ?_⟩))
              rw [nI_cl (by omega)]
              exact g1.s hn hj c rfl
            · have c2 : ¬ (j < (K m s).1 ∧ d j = k) := fun q => c q.2
              rw [if_neg c2] at hst
              exact ⟨by rw [show cky (K m s).1 d (16 * k + j + 1) = cky (K m s).1 d (16 * k + j) by omega], sg, g1.k hn (by omega) c2⟩
          · rintro _ u ⟨rfl, u1, u2⟩
            exact Ok.ret ⟨by rw [nI_1]; rfl, u1, u2⟩
        · rintro c s2 ⟨rfl, sg, g1⟩
          unfold SX12_layers_27
          dsimp only
          exact Ok.bq (q_points (hr.fr (sg 150 (by decide))) hs) (Ok.ifT (by rw [nI_leP (by omega) (by omega)]; omega) (Ok.ret ⟨by rw [cky_e hn], sg, g1.e hn⟩))
      · rintro _ u ⟨rfl, u1, u2⟩
        exact Ok.ret ⟨by rw [nI_1], u1, u2⟩
    · rintro c s' ⟨rfl, sf, s1⟩
      unfold SX12_layers_17
      dsimp only
      exact Ok.ifT (by rw [li_9, nI_ltP (by omega) (by omega)]; omega) (Ok.ret ⟨sf, s1.fin hn (fun q _ => d9 q)⟩)
  · rintro _ t2 ⟨f2, o2⟩
    have M2 : MST K m t2 := hM.fr (by rw [f2 149 (by decide)]) (f2 150 (by decide)) (f2 152 (by decide))
    refine Ok.bd _ (m_takesRow hG hs M2 (hv.vwo hgo) hN o2) ?_
    rintro _ u ⟨rfl, u1, -⟩
    exact Ok.ret ⟨rfl, u1⟩
end
