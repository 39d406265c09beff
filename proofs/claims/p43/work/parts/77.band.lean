/-! who still waits, as a number -/
theorem wlo_all : ∀ i, i < 11 → ∀ L, L < 11 → mxI 0 ((nI i - 1) - nI L) = nI (i - 1 - L) := by decide +kernel
def whb (i n L k : Nat) : Bool := decide (mnI (nI i - 1) ((nI n - 2) - nI L) < nI k) == !(decide (k + 1 ≤ i) && decide (k + L + 2 ≤ n))
theorem whb_all : ∀ i, i < 11 → ∀ n, n < 10 → ∀ L, L < 11 → ∀ k, k < 11 → whb i n L k = true := by decide +kernel
theorem whi_all (i : Nat) (hi : i < 11) (n : Nat) (hn : n < 10) (L : Nat) (hL : L < 11) (k : Nat) (hk : k < 11) : (mnI (nI i - 1) ((nI n - 2) - nI L) < nI k ↔ ¬ (k + 1 ≤ i ∧ k + L + 2 ≤ n)) := by
  have h := eq_of_beq (whb_all i hi n hn L hL k hk)
  constructor
  · intro q
    rw [decide_eq_true q] at h
    rintro ⟨a, b⟩
    rw [decide_eq_true a, decide_eq_true b] at h
    cases h
  · intro q
    refine Decidable.byContradiction (fun r => q ?_)
    rw [decide_eq_false r] at h
    have h2 : (decide (k + 1 ≤ i) && decide (k + L + 2 ≤ n)) = true := by
      cases e : (decide (k + 1 ≤ i) && decide (k + L + 2 ≤ n))
      · rw [e] at h; cases h
      · rfl
    rw [Bool.and_eq_true, decide_eq_true_iff, decide_eq_true_iff] at h2
    exact h2
theorem and3_all : ∀ k, k < 11 → (4 : Int32) * (nI k &&& 3) = nI (4 * (k % 4)) := by decide +kernel
def wdu (w : Nat → Nat → Nat) (P : Nat → Nat) (i lo : Nat) : Nat → Nat
  | 0 => 0
  | c + 1 => wdu w P i lo c ||| mis w P i (lo + c)
def wmk (w : Nat → Nat → Nat) (P : Nat → Nat) (i lo : Nat) : Nat → Nat
  | 0 => 0
  | c + 1 => wmk w P i lo c ||| (if mis w P i (lo + c) = 0 then 0 else (P (lo + c) + 1) * 2 ^ (4 * ((lo + c) % 4)))
theorem wdu_lt {w : Nat → Nat → Nat} {P : Nat → Nat} {i lo : Nat} : ∀ {c : Nat}, wdu w P i lo c < 512
  | 0 => by show 0 < 512; omega
  | c + 1 => or9 wdu_lt mis_lt
theorem nib_lt {a r : Nat} (ha : a < 16) (hr : r < 4) : a * 2 ^ (4 * r) < 65536 := by
  rcases (show r = 0 ∨ r = 1 ∨ r = 2 ∨ r = 3 by omega) with rfl | rfl | rfl | rfl
  · show a * 1 < 65536; omega
  · show a * 16 < 65536; omega
  · show a * 256 < 65536; omega
  · show a * 4096 < 65536; omega
theorem wmk_lt {w : Nat → Nat → Nat} {P : Nat → Nat} {i lo : Nat} : ∀ {c : Nat}, (∀ j, j < c → P (lo + j) < 9) → wmk w P i lo c < 65536
  | 0, _ => by show 0 < 65536; omega
  | c + 1, h => by
    refine Nat.or_lt_two_pow (n := 16) (wmk_lt (fun j hj => h j (by omega))) ?_
    split
    · omega
    · exact nib_lt (by have := h c (by omega); omega) (by omega)
/-- the number of all on which the rest of the row depends -/
def wky (w : Nat → Nat → Nat) (P : Nat → Nat) (i L c : Nat) : Nat := (L * 512 ||| amk P i) * 65536 ||| wmk w P i (i - 1 - L) c
/-- how many places the window has -/
def wln (n i L : Nat) : Nat := Nat.min i (n - 1 - L) - (i - 1 - L)
theorem wln_in {n i L c : Nat} : c < wln n i L → (i - 1 - L) + c + 1 ≤ i ∧ (i - 1 - L) + c + L + 2 ≤ n := by
  unfold wln
  intro h
  have h1 : Nat.min i (n - 1 - L) ≤ i := Nat.min_le_left _ _
  have h2 : Nat.min i (n - 1 - L) ≤ n - 1 - L := Nat.min_le_right _ _
  omega
theorem wln_out {n i L : Nat} : ¬ ((i - 1 - L) + wln n i L + 1 ≤ i ∧ (i - 1 - L) + wln n i L + L + 2 ≤ n) := by
  unfold wln
  rintro ⟨a, b⟩
  rcases Nat.le_total i (n - 1 - L) with q | q
  · rw [show Nat.min i (n - 1 - L) = i from Nat.min_eq_left q] at a b
    omega
  · rw [show Nat.min i (n - 1 - L) = n - 1 - L from Nat.min_eq_right q] at a b
    omega
/-- some who wait cannot be had soon enough -/
def WNo (n : Nat) (w : Nat → Nat → Nat) (P : Nat → Nat) (i L : Nat) : Prop := ∃ c, c < wln n i L ∧ mis w P i (i - 1 - L + c) ≠ 0 ∧ (i - 1 - L + c) + L + 1 - i < cnt (wdu w P i (i - 1 - L) (c + 1)) 9
theorem q_waiting {n l i L : Nat} {w : Nat → Nat → Nat} {P : Nat → Nat} {t : St} (h : CN 91 n l w t) (hn : n < 10) (hi : i < n) (hL : L < 10) (hP : ∀ j, j < i → t 95 j = nI (P j)) (h9 : ∀ j, j < i → P j < 9) {Q : Int32 → St → Prop} (q1 : ¬ WNo n w P i L → Q (nI (wky w P i L (wln n i L))) t) (q0 : WNo n w P i L → Q (-1) t) : Ok (FX0_waiting (nI i) (nI (amk P i)) (nI L) t) Q := by
  have ha := amk_lt (o := P) (i := i) h9
  unfold FX0_waiting
  refine Ok.rdE h.1 ?_
  rw [wlo_all i (by omega) L (by omega)]
  generalize hlo : i - 1 - L = lo
  have hwi : ∀ c, c < wln n i L → lo + c + 1 ≤ i ∧ lo + c + L + 2 ≤ n := fun c hc => by rw [← hlo]; exact wln_in hc
  have hwo : ¬ (lo + wln n i L + 1 ≤ i ∧ lo + wln n i L + L + 2 ≤ n) := by rw [← hlo]; exact wln_out
  have hwl : lo + wln n i L ≤ i := by
    rw [← hlo]
    unfold wln
    have h1 : Nat.min i (n - 1 - L) ≤ i := Nat.min_le_left _ _
    omega
  refine Ok.bd (fun x u => t = u ∧ Sum.elim (fun v => v = -1 ∧ WNo n w P i L) (fun v => v = nI (wmk w P i lo (wln n i L)) ∧ ¬ WNo n w P i L) x) ?_ ?_
  · refine Ok.count (wln n i L) (fun c d s => d = (nI (wmk w P i lo c), nI (wdu w P i lo c), nI (lo + c)) ∧ t = s ∧ ∀ e, e < c → mis w P i (lo + e) ≠ 0 → cnt (wdu w P i lo (e + 1)) 9 ≤ (lo + e) + L + 1 - i) ?_ ?_ (Nat.zero_le _) ⟨rfl, rfl, fun e he => by omega⟩
    · rintro c d s hc ⟨rfl, rfl, hI⟩
      obtain ⟨w1, w2⟩ := hwi c hc
      unfold SX0_waiting_44
      dsimp only
      have hP9 := h9 (lo + c) (by omega)
      refine Ok.ifF (by rw [whi_all i (by omega) n (by omega) L (by omega) (lo + c) (by omega)]; exact fun q => q ⟨w1, w2⟩) (Ok.ckT (inb_n (by omega) (by omega)) ?_)
      rw [nI_cl (by omega)]
      refine Ok.rdE (hP (lo + c) (by omega)) (Ok.ckT (inb_n (by omega) (by omega)) ?_)
      rw [nI_cl (by omega)]
      refine Ok.rdE (h.2.2.1 _ hP9) ?_
      rw [nI_dif nr_lt ha, show dif (nr w (P (lo + c))) (amk P i) = mis w P i (lo + c) from rfl]
      have hml := mis_lt (w := w) (P := P) (i := i) (k := lo + c)
      have hdl := wdu_lt (w := w) (P := P) (i := i) (lo := lo) (c := c)
      refine Ok.cv (nI_q0 (by omega)) (Ok.ite (fun c0 => Ok.ret ⟨?_, rfl, fun e he hm => ?_⟩) (fun c0 => ?_))
      · rw [nI_1]
        show _ = (nI (wmk w P i lo c ||| _), nI (wdu w P i lo c ||| _), _)
        rw [if_pos c0, c0, Nat.or_zero, Nat.or_zero]
        rfl
      · by_cases e2 : e = c
        · subst e2; exact absurd c0 hm
        · exact hI e (by omega) hm
      · rw [nI_or]
        have hcn := cnt_le (S := wdu w P i lo c ||| mis w P i (lo + c)) (n := 9)
        have hge : i ≤ lo + c + L + 1 := by omega
        refine Ok.bq (q_bitCount (or9 hdl hml)) ?_
        rw [nI_add, nI_1, nI_sub hge]
        refine Ok.cv (nI_leP (by omega) (by omega)) (Ok.ite (fun c1 => Ok.ckT (inb_n (by omega) (by omega)) ?_) (fun c1 => Ok.ret ⟨rfl, rfl, c, hc, ?_, ?_⟩))
        · refine Ok.rdE (hP (lo + c) (by omega)) (Ok.ret ⟨?_, rfl, fun e he hm => ?_⟩)
          · rw [nI_1, nI_1, and3_all _ (by omega), shl_n (by omega) (by have := nib_lt (a := P (lo + c) + 1) (r := (lo + c) % 4) (by omega) (by omega); omega), nI_or]
            show _ = (nI (wmk w P i lo c ||| _), nI (wdu w P i lo c ||| _), _)
            rw [if_neg c0]
            rfl
          · by_cases e2 : e = c
            · subst e2; exact c1
            · exact hI e (by omega) hm
        · rw [hlo]; exact c0
        · rw [hlo]
          show _ < cnt (wdu w P i lo c ||| mis w P i (lo + c)) 9
          omega
    · rintro d s ⟨rfl, rfl, hI⟩
      unfold SX0_waiting_44
      dsimp only
      refine Ok.ifT (by rw [whi_all i (by omega) n (by omega) L (by omega) (lo + wln n i L) (by omega)]; exact hwo) (Ok.ret ⟨rfl, rfl, ?_⟩)
      rintro ⟨e, he, h1, h2⟩
      rw [hlo] at h1 h2
      have := hI e he h1
      omega
  · rintro (x | x) _ ⟨rfl, hx⟩
    · obtain ⟨rfl, hx⟩ := hx
      exact Ok.el (Ok.ret (q0 hx))
    · obtain ⟨rfl, hx⟩ := hx
      refine Ok.er (Ok.ret ?_)
      have e1 : shl (nI L) 9 = nI (L * 512) := by
        have := shl_n (a := L) (k := 9) (by omega) (by show L * 512 < 4294967296; omega)
        exact this
      have hk : L * 512 ||| amk P i < 8192 := Nat.or_lt_two_pow (n := 13) (by show L * 512 < 8192; omega) (by show amk P i < 8192; omega)
      have e2 : shl (nI (L * 512 ||| amk P i)) 16 = nI ((L * 512 ||| amk P i) * 65536) := by
        have := shl_n (a := L * 512 ||| amk P i) (k := 16) (by omega) (by show (L * 512 ||| amk P i) * 65536 < 4294967296; omega)
        exact this
      rw [e1, nI_or, e2, nI_or]
      have := q1 hx
      unfold wky at this
      rw [hlo] at this
      exact this
