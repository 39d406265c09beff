/-! numbers, steps: the rules by which a method's function is reckoned out -/
theorem bnd_s {α β : Type} (v : α) (s : St) (f : α → St → Option β) : bnd (some (v, s)) f = f v s := rfl
theorem chk_t {β : Type} (m : Option β) : chk true m = m := rfl
theorem nI_or (a b : Nat) : nI a ||| nI b = nI (a ||| b) := by
  apply Int32.toBitVec_inj.mp
  show BitVec.ofNat 32 a ||| BitVec.ofNat 32 b = BitVec.ofNat 32 (a ||| b)
  rw [BitVec.ofNat_or]
theorem nI_and (a b : Nat) : nI a &&& nI b = nI (a &&& b) := by
  apply Int32.toBitVec_inj.mp
  show BitVec.ofNat 32 a &&& BitVec.ofNat 32 b = BitVec.ofNat 32 (a &&& b)
  rw [BitVec.ofNat_and]
theorem nI_xor (a b : Nat) : nI a ^^^ nI b = nI (a ^^^ b) := by
  apply Int32.toBitVec_inj.mp
  show BitVec.ofNat 32 a ^^^ BitVec.ofNat 32 b = BitVec.ofNat 32 (a ^^^ b)
  rw [BitVec.ofNat_xor]
theorem nI_mul (a b : Nat) : nI a * nI b = nI (a * b) := pk_mul a b
theorem nI_sub {a b : Nat} (h : b ≤ a) : nI a - nI b = nI (a - b) := pk_sub h
theorem nI_divN {a d : Nat} (ha : a < 2147483648) (h0 : 0 < d) (hd : d < 2147483648) : nI a / nI d = nI (a / d) := pk_div ha h0 hd
theorem nI_remN {a d : Nat} (ha : a < 2147483648) (h0 : 0 < d) (hd : d < 2147483648) : nI a - nI a / nI d * nI d = nI (a % d) := pk_rem ha h0 hd
theorem nI_cl {n : Nat} (h : n < 2147483648) : (nI n).toNatClampNeg = n := nI_clamp h
theorem nI_leP {a b : Nat} (ha : a < 2147483648) (hb : b < 2147483648) : (nI a ≤ nI b) = (a ≤ b) := propext (nI_leI ha hb)
theorem nI_ltP {a b : Nat} (ha : a < 2147483648) (hb : b < 2147483648) : (nI a < nI b) = (a < b) := propext (nI_ltI ha hb)
theorem nI_eqP {a b : Nat} (ha : a < 4294967296) (hb : b < 4294967296) : (nI a = nI b) = (a = b) := by
  apply propext
  constructor
  · intro h
    have h1 : (nI a).toBitVec.toNat = (nI b).toBitVec.toNat := by rw [h]
    rw [pk_tn ha, pk_tn hb] at h1
    exact h1
  · intro h; rw [h]
theorem shl_31 {k : Nat} (h : k < 32) : (nI k &&& 31).toBitVec.smod 32 = BitVec.ofNat 32 k := by
  have e : nI k &&& 31 = nI k := by
    show nI k &&& nI 31 = nI k
    rw [nI_and]
    congr 1
    have : k &&& 31 = k % 32 := Nat.and_two_pow_sub_one_eq_mod k 5
    omega
  rw [e]
  show (BitVec.ofNat 32 k).smod 32 = BitVec.ofNat 32 k
  have : k = 0 ∨ k = 1 ∨ k = 2 ∨ k = 3 ∨ k = 4 ∨ k = 5 ∨ k = 6 ∨ k = 7 ∨ k = 8 ∨ k = 9 ∨ k = 10 ∨ k = 11 ∨ k = 12 ∨ k = 13 ∨ k = 14 ∨ k = 15 ∨ k = 16 ∨ k = 17 ∨ k = 18 ∨ k = 19 ∨ k = 20 ∨ k = 21 ∨ k = 22 ∨ k = 23 ∨ k = 24 ∨ k = 25 ∨ k = 26 ∨ k = 27 ∨ k = 28 ∨ k = 29 ∨ k = 30 ∨ k = 31 := by omega
  rcases this with rfl | rfl | rfl | rfl | rfl | rfl | rfl | rfl | rfl | rfl | rfl | rfl | rfl | rfl | rfl | rfl | rfl | rfl | rfl | rfl | rfl | rfl | rfl | rfl | rfl | rfl | rfl | rfl | rfl | rfl | rfl | rfl <;> decide
theorem shl_n {a k : Nat} (hk : k < 32) (h : a * 2 ^ k < 4294967296) : shl (nI a) (nI k) = nI (a * 2 ^ k) := by
  refine pk_shlN (nI k &&& 31) k ?_ h
  rw [shl_31 hk]
  show k % 4294967296 = k
  omega
theorem pow9 {k : Nat} (hk : k ≤ 9) : 2 ^ k ≤ 512 := by
  have : k = 0 ∨ k = 1 ∨ k = 2 ∨ k = 3 ∨ k = 4 ∨ k = 5 ∨ k = 6 ∨ k = 7 ∨ k = 8 ∨ k = 9 := by omega
  rcases this with rfl | rfl | rfl | rfl | rfl | rfl | rfl | rfl | rfl | rfl <;> decide
theorem shl_1 {k : Nat} (hk : k ≤ 9) : shl 1 (nI k) = nI (2 ^ k) := by
  have := shl_n (a := 1) (k := k) (by omega) (by have := pow9 hk; omega)
  rw [Nat.one_mul] at this
  exact this
theorem shr_n {a k : Nat} (ha : a < 2147483648) (hk : k < 32) : shr (nI a) (nI k) = nI (a / 2 ^ k) := by
  refine pk_shrN ha (nI k &&& 31) k ?_
  rw [shl_31 hk]
  show k % 4294967296 = k
  omega
theorem bit_n {a k : Nat} (ha : a < 2147483648) (hk : k < 32) : shr (nI a) (nI k) &&& 1 = nI (a.testBit k).toNat := by
  rw [shr_n ha hk]
  show nI _ &&& nI 1 = _
  rw [nI_and]
  congr 1
  rw [Nat.testBit, Nat.shiftRight_eq_div_pow, Nat.and_one_is_mod]
  rcases Nat.mod_two_eq_zero_or_one (a / 2 ^ k) with h | h <;> simp [Nat.and_comm 1, Nat.and_one_is_mod, h]
theorem inb_n {k n : Nat} (h : k < n) (hn : n < 2147483648) : inb (nI k) n = true := by
  unfold inb
  rw [nI_cl (by omega)]
  simp only [Bool.and_eq_true, Bool.not_eq_true', decide_eq_false_iff_not, decide_eq_true_eq]
  exact ⟨nI_pos (by omega), h⟩
theorem inb_neg {x : Int32} {n : Nat} (h : inb x n = true) : ∃ k, k < n ∧ x = nI k := by
  have h1 := inb_lt h
  have h2 := inb_vp h
  obtain ⟨j, hj, rfl⟩ := nI_of (fun q => h2 (Or.inl q))
  rw [nI_cl hj] at h1
  exact ⟨j, h1, rfl⟩
/-! a sum of steps -/
def fld {α : Type} (f : Nat → α → α) (a : α) : Nat → α
  | 0 => a
  | n + 1 => f n (fld f a n)
theorem wh_step {C R : Type} {f : C → St → Option ((C ⊕ R) × St)} {c d : C} {s t : St} {r : R × St} (h : f c s = some (.inl d, t)) (h2 : wh f d t = some r) : wh f c s = some r := by
  obtain ⟨k, hk⟩ := wh_itr h2
  refine wh_of (k := k + 1) ?_
  rw [itr, h]
  exact hk
theorem wh_last {C R : Type} {f : C → St → Option ((C ⊕ R) × St)} {c : C} {s t : St} {r : R} (h : f c s = some (.inr r, t)) : wh f c s = some (r, t) := by
  refine wh_of (k := 1) ?_
  rw [itr, h]
  rfl
/-- a loop that counts: the state after i rounds is c i, s i -/
theorem wh_for {C R : Type} {f : C → St → Option ((C ⊕ R) × St)} (n : Nat) (c : Nat → C) (s : Nat → St) {r : R} {t : St} (hs : ∀ i, i < n → f (c i) (s i) = some (.inl (c (i + 1)), s (i + 1))) (hl : f (c n) (s n) = some (.inr r, t)) : wh f (c 0) (s 0) = some (r, t) := by
  have key : ∀ j, j ≤ n → wh f (c (n - j)) (s (n - j)) = some (r, t) := by
    intro j
    induction j with
    | zero => intro _; exact wh_last hl
    | succ j ih =>
      intro hj
      have h1 := hs (n - (j + 1)) (by omega)
      rw [show n - (j + 1) + 1 = n - j by omega] at h1
      exact wh_step h1 (ih (by omega))
  have := key n (Nat.le_refl n)
  rw [Nat.sub_self] at this
  exact this
