section
/-! numbers, steps: the rules by which a method's function is reckoned out -/
theorem bnd_s {α β : Type} (v : α) (s : St) (f : α → St → Option β) : bnd (some (v, s)) f = f v s := rfl
theorem chk_t {β : Type} (m : Option β) : chk true m = m := rfl
theorem nI_or (a b : Nat) : nI a ||| nI b = nI (a ||| b) := by
  apply Int32.toBitVec_inj.mp
  show BitVec.ofNat 32 a ||| BitVec.ofNat 32 b = BitVec.ofNat 32 (a ||| b)
  rw [BitVec.ofNat_or]
theorem nI_and (a b : Nat) : nI a &&& nI b = nI (a &&& b) := by
  apply Int32.toBitVec_inj.mp
  show BitVec.ofNat 32 a &&& BitVec.ofNat 32 b = BitVec.ofNat 32 (a &&& b)
  rw [BitVec.ofNat_and]
theorem nI_xor (a b : Nat) : nI a ^^^ nI b = nI (a ^^^ b) := by
  apply Int32.toBitVec_inj.mp
  show BitVec.ofNat 32 a ^^^ BitVec.ofNat 32 b = BitVec.ofNat 32 (a ^^^ b)
  rw [BitVec.ofNat_xor]
theorem nI_mul (a b : Nat) : nI a * nI b = nI (a * b) := pk_mul a b
theorem nI_sub {a b : Nat} (h : b ≤ a) : nI a - nI b = nI (a - b) := pk_sub h
theorem nI_divN {a d : Nat} (ha : a < 2147483648) (h0 : 0 < d) (hd : d < 2147483648) : nI a / nI d = nI (a / d) := pk_div ha h0 hd
theorem nI_remN {a d : Nat} (ha : a < 2147483648) (h0 : 0 < d) (hd : d < 2147483648) : nI a - nI a / nI d * nI d = nI (a % d) := pk_rem ha h0 hd
theorem nI_cl {n : Nat} (h : n < 2147483648) : (nI n).toNatClampNeg = n := nI_clamp h
theorem nI_leP {a b : Nat} (ha : a < 2147483648) (hb : b < 2147483648) : (nI a ≤ nI b) = (a ≤ b) := propext (nI_leI ha hb)
theorem nI_ltP {a b : Nat} (ha : a < 2147483648) (hb : b < 2147483648) : (nI a < nI b) = (a < b) := propext (nI_ltI ha hb)
theorem nI_eqP {a b : Nat} (ha : a < 4294967296) (hb : b < 4294967296) : (nI a = nI b) = (a = b) := by
  apply propext
  constructor
  · intro h
    have h1 : (nI a).toBitVec.toNat = (nI b).toBitVec.toNat := by rw [h]
    rw [pk_tn ha, pk_tn hb] at h1
    exact h1
  · intro h; rw [h]
theorem shl_31 {k : Nat} (h : k < 32) : (nI k &&& 31).toBitVec.smod 32 = BitVec.ofNat 32 k := by
  have e : nI k &&& 31 = nI k := by
    show nI k &&& nI 31 = nI k
    rw [nI_and]
    congr 1
    have : k &&& 31 = k % 32 := Nat.and_two_pow_sub_one_eq_mod k 5
    omega
  rw [e]
  show (BitVec.ofNat 32 k).smod 32 = BitVec.ofNat 32 k
  have : k = 0 ∨ k = 1 ∨ k = 2 ∨ k = 3 ∨ k = 4 ∨ k = 5 ∨ k = 6 ∨ k = 7 ∨ k = 8 ∨ k = 9 ∨ k = 10 ∨ k = 11 ∨ k = 12 ∨ k = 13 ∨ k = 14 ∨ k = 15 ∨ k = 16 ∨ k = 17 ∨ k = 18 ∨ k = 19 ∨ k = 20 ∨ k = 21 ∨ k = 22 ∨ k = 23 ∨ k = 24 ∨ k = 25 ∨ k = 26 ∨ k = 27 ∨ k = 28 ∨ k = 29 ∨ k = 30 ∨ k = 31 := by omega
  rcases this with rfl | rfl | rfl | rfl | rfl | rfl | rfl | rfl | rfl | rfl | rfl | rfl | rfl | rfl | rfl | rfl | rfl | rfl | rfl | rfl | rfl | rfl | rfl | rfl | rfl | rfl | rfl | rfl | rfl | rfl | rfl | rfl <;> decide
theorem shl_n {a k : Nat} (hk : k < 32) (h : a * 2 ^ k < 4294967296) : shl (nI a) (nI k) = nI (a * 2 ^ k) := by
  refine pk_shlN (nI k &&& 31) k ?_ h
  rw [shl_31 hk]
  show k % 4294967296 = k
  omega
theorem pow9 {k : Nat} (hk : k ≤ 9) : 2 ^ k ≤ 512 := by
  have : k = 0 ∨ k = 1 ∨ k = 2 ∨ k = 3 ∨ k = 4 ∨ k = 5 ∨ k = 6 ∨ k = 7 ∨ k = 8 ∨ k = 9 := by omega
  rcases this with rfl | rfl | rfl | rfl | rfl | rfl | rfl | rfl | rfl | rfl <;> decide
theorem shl_1 {k : Nat} (hk : k ≤ 9) : shl 1 (nI k) = nI (2 ^ k) := by
  have := shl_n (a := 1) (k := k) (by omega) (by have := pow9 hk; omega)
  rw [Nat.one_mul] at this
  exact this
theorem shr_n {a k : Nat} (ha : a < 2147483648) (hk : k < 32) : shr (nI a) (nI k) = nI (a / 2 ^ k) := by
  refine pk_shrN ha (nI k &&& 31) k ?_
  rw [shl_31 hk]
  show k % 4294967296 = k
  omega
theorem bit_n {a k : Nat} (ha : a < 2147483648) (hk : k < 32) : shr (nI a) (nI k) &&& 1 = nI (a.testBit k).toNat := by
  rw [shr_n ha hk]
  show nI _ &&& nI 1 = _
  rw [nI_and]
  congr 1
  rw [Nat.testBit, Nat.shiftRight_eq_div_pow, Nat.and_one_is_mod]
  rcases Nat.mod_two_eq_zero_or_one (a / 2 ^ k) with h | h <;> simp [Nat.and_comm 1, Nat.and_one_is_mod, h]
theorem inb_n {k n : Nat} (h : k < n) (hn : n < 2147483648) : inb (nI k) n = true := by
  unfold inb
  rw [nI_cl (by omega)]
  simp only [Bool.and_eq_true, Bool.not_eq_true', decide_eq_false_iff_not, decide_eq_true_eq]
  exact ⟨nI_pos (by omega), h⟩
theorem inb_neg {x : Int32} {n : Nat} (h : inb x n = true) : ∃ k, k < n ∧ x = nI k := by
  have h1 := inb_lt h
  have h2 := inb_vp h
  obtain ⟨j, hj, rfl⟩ := nI_of (fun q => h2 (Or.inl q))
  rw [nI_cl hj] at h1
  exact ⟨j, h1, rfl⟩
/-! a sum of steps -/
def fld {α : Type} (f : Nat → α → α) (a : α) : Nat → α
  | 0 => a
  | n + 1 => f n (fld f a n)
theorem wh_step {C R : Type} {f : C → St → Option ((C ⊕ R) × St)} {c d : C} {s t : St} {r : R × St} (h : f c s = some (.inl d, t)) (h2 : wh f d t = some r) : wh f c s = some r := by
  obtain ⟨k, hk⟩ := wh_itr h2
  refine wh_of (k := k + 1) ?_
  rw [itr, h]
  exact hk
theorem wh_last {C R : Type} {f : C → St → Option ((C ⊕ R) × St)} {c : C} {s t : St} {r : R} (h : f c s = some (.inr r, t)) : wh f c s = some (r, t) := by
  refine wh_of (k := 1) ?_
  rw [itr, h]
  rfl
/-- a loop that counts: the state after i rounds is c i, s i -/
theorem wh_for {C R : Type} {f : C → St → Option ((C ⊕ R) × St)} (n : Nat) (c : Nat → C) (s : Nat → St) {r : R} {t : St} (hs : ∀ i, i < n → f (c i) (s i) = some (.inl (c (i + 1)), s (i + 1))) (hl : f (c n) (s n) = some (.inr r, t)) : wh f (c 0) (s 0) = some (r, t) := by
  have key : ∀ j, j ≤ n → wh f (c (n - j)) (s (n - j)) = some (r, t) := by
    intro j
    induction j with
    | zero => intro _; exact wh_last hl
    | succ j ih =>
      intro hj
      have h1 := hs (n - (j + 1)) (by omega)
      rw [show n - (j + 1) + 1 = n - j by omega] at h1
      exact wh_step h1 (ih (by omega))
  have := key n (Nat.le_refl n)
  rw [Nat.sub_self] at this
  exact this
end
section
/-! what a step comes to, and what the places hold -/
def Ok {α : Type} (m : Option (α × St)) (Q : α → St → Prop) : Prop := ∃ v s, m = some (v, s) ∧ Q v s
theorem Ok.ret {α : Type} {v : α} {s : St} {Q : α → St → Prop} (h : Q v s) : Ok (some (v, s)) Q := ⟨v, s, rfl, h⟩
theorem Ok.bd {α β : Type} {m : Option (α × St)} {f : α → St → Option (β × St)} {Q : β → St → Prop} (R : α → St → Prop) (h : Ok m R) (k : ∀ v s, R v s → Ok (f v s) Q) : Ok (bnd m f) Q := by
  obtain ⟨v, s, h1, h2⟩ := h
  obtain ⟨w, t, h3, h4⟩ := k v s h2
  exact ⟨w, t, by rw [h1]; exact h3, h4⟩
theorem Ok.ck {α : Type} {c : Bool} {m : Option (α × St)} {Q : α → St → Prop} (h : c = true) (k : c = true → Ok m Q) : Ok (chk c m) Q := by
  obtain ⟨v, s, h1, h2⟩ := k h
  exact ⟨v, s, by rw [h]; exact h1, h2⟩
theorem Ok.ite {α : Type} {c : Prop} [Decidable c] {x y : Option (α × St)} {Q : α → St → Prop} (a : c → Ok x Q) (b : ¬ c → Ok y Q) : Ok (if c then x else y) Q := by
  by_cases h : c
  · rw [if_pos h]; exact a h
  · rw [if_neg h]; exact b h
theorem Ok.rd {α : Type} {σ : St} {a i : Nat} {f : Int32 → Option (α × St)} {Q : α → St → Prop} (k : ∀ v, v = σ a i → Ok (f v) Q) : Ok (rdb σ a i f) Q := k _ rfl
theorem Ok.wr {α : Type} {σ : St} {a i : Nat} {v : Int32} {f : St → Option (α × St)} {Q : α → St → Prop} (k : ∀ s, s = wr σ a i v → Ok (f s) Q) : Ok (wrb σ a i v f) Q := k _ rfl
theorem Ok.cp {α : Type} {σ : St} {a b n : Nat} {f : St → Option (α × St)} {Q : α → St → Prop} (k : ∀ s, s = cpy σ a b n → Ok (f s) Q) : Ok (cpb σ a b n f) Q := k _ rfl
theorem Ok.mono {α : Type} {m : Option (α × St)} {Q R : α → St → Prop} (h : Ok m R) (k : ∀ v s, R v s → Q v s) : Ok m Q := by
  obtain ⟨v, s, h1, h2⟩ := h
  exact ⟨v, s, h1, k v s h2⟩
theorem Ok.loop {C R : Type} {f : C → St → Option ((C ⊕ R) × St)} {Q : R → St → Prop} (I : Nat → C → St → Prop) (step : ∀ k c s, I k c s → Ok (f c s) (fun x t => Sum.elim (fun d => ∃ j, j < k ∧ I j d t) (fun r => Q r t) x)) : ∀ k c s, I k c s → Ok (wh f c s) Q := by
  intro k
  induction k using Nat.strongRecOn with
  | ind k ih =>
    intro c s h
    obtain ⟨x, t, h1, h2⟩ := step k c s h
    rcases x with d | r
    · obtain ⟨j, hj, hi⟩ := h2
      obtain ⟨w, u, h3, h4⟩ := ih j hj d t hi
      exact ⟨w, u, wh_step h1 h3, h4⟩
    · exact ⟨r, t, wh_last h1, h2⟩
abbrev IsR (m : Nat) (x : Int32) : Prop := ∃ k, k < m ∧ x = nI k
theorem IsR.up {m n : Nat} {x : Int32} (h : IsR m x) (hn : m ≤ n) : IsR n x := by
  obtain ⟨k, h1, h2⟩ := h
  exact ⟨k, by omega, h2⟩
theorem IsR.mn {m : Nat} {x y : Int32} (h : IsR m x) (h2 : IsR m y) : IsR m (mnI x y) := by
  show IsR m (if y < x then y else x)
  split
  · exact h2
  · exact h
theorem IsR.mx {m : Nat} {x y : Int32} (h : IsR m x) (h2 : IsR m y) : IsR m (mxI x y) := by
  show IsR m (if x < y then y else x)
  split
  · exact h2
  · exact h
theorem IsR.ib {m : Nat} {x : Int32} (h : IsR m x) (hm : m < 2147483648) : inb x m = true := by
  obtain ⟨k, h1, rfl⟩ := h
  exact inb_n h1 hm
theorem IsR.of {m : Nat} {x : Int32} (h : inb x m = true) : IsR m x := inb_neg h
theorem li_0 : (0 : Int32) = nI 0 := rfl
theorem li_1 : (1 : Int32) = nI 1 := rfl
theorem li_2 : (2 : Int32) = nI 2 := rfl
theorem li_3 : (3 : Int32) = nI 3 := rfl
theorem li_4 : (4 : Int32) = nI 4 := rfl
theorem li_5 : (5 : Int32) = nI 5 := rfl
theorem li_6 : (6 : Int32) = nI 6 := rfl
theorem li_7 : (7 : Int32) = nI 7 := rfl
theorem li_8 : (8 : Int32) = nI 8 := rfl
theorem li_9 : (9 : Int32) = nI 9 := rfl
theorem li_10 : (10 : Int32) = nI 10 := rfl
theorem li_11 : (11 : Int32) = nI 11 := rfl
theorem li_12 : (12 : Int32) = nI 12 := rfl
theorem li_13 : (13 : Int32) = nI 13 := rfl
theorem li_16 : (16 : Int32) = nI 16 := rfl
theorem li_20 : (20 : Int32) = nI 20 := rfl
theorem li_24 : (24 : Int32) = nI 24 := rfl
theorem li_30 : (30 : Int32) = nI 30 := rfl
theorem li_31 : (31 : Int32) = nI 31 := rfl
theorem li_32 : (32 : Int32) = nI 32 := rfl
theorem li_48 : (48 : Int32) = nI 48 := rfl
theorem li_57 : (57 : Int32) = nI 57 := rfl
theorem li_58 : (58 : Int32) = nI 58 := rfl
theorem li_81 : (81 : Int32) = nI 81 := rfl
theorem li_82 : (82 : Int32) = nI 82 := rfl
theorem li_90 : (90 : Int32) = nI 90 := rfl
theorem li_91 : (91 : Int32) = nI 91 := rfl
theorem li_97 : (97 : Int32) = nI 97 := rfl
theorem li_100 : (100 : Int32) = nI 100 := rfl
theorem li_122 : (122 : Int32) = nI 122 := rfl
theorem li_255 : (255 : Int32) = nI 255 := rfl
theorem li_256 : (256 : Int32) = nI 256 := rfl
theorem li_273 : (273 : Int32) = nI 273 := rfl
theorem li_380 : (380 : Int32) = nI 380 := rfl
theorem li_400 : (400 : Int32) = nI 400 := rfl
theorem li_512 : (512 : Int32) = nI 512 := rfl
theorem li_1000 : (1000 : Int32) = nI 1000 := rfl
theorem li_2457 : (2457 : Int32) = nI 2457 := rfl
theorem li_2730 : (2730 : Int32) = nI 2730 := rfl
theorem li_4000 : (4000 : Int32) = nI 4000 := rfl
theorem li_999999 : (999999 : Int32) = nI 999999 := rfl
theorem li_1000000 : (1000000 : Int32) = nI 1000000 := rfl
theorem li_1048576 : (1048576 : Int32) = nI 1048576 := rfl
/-- what a place is: 1 a net, 2 a row of points, 3 weights, 4 the tape, 5 what is told, 6 the acts, 7 their slots; 8 the reference, 9 its slots, 10 its kept ones, 11 its tape -/
def tkl : List Nat := [0, 4, 0, 5, 0, 0, 1, 0, 2, 3, 0, 0, 1, 0, 2, 3, 0, 0, 1, 0, 2, 3, 0, 2, 0, 2, 0, 2, 0, 2, 0, 2, 0, 2, 0, 2, 1, 0, 2, 3, 0, 0, 1, 0, 2, 3, 0, 2, 0, 2, 0, 2, 0, 2, 0, 2, 0, 2, 0, 2, 1, 0, 2, 3, 0, 0, 1, 0, 2, 3, 0, 2, 0, 2, 0, 2, 0, 2, 0, 2, 0, 2, 0, 2, 0, 0, 0, 0, 0, 0, 0, 1, 0, 2, 3, 2, 0, 0, 6, 7, 0, 1, 0, 2, 3, 1, 0, 2, 3, 1, 0, 2, 3, 1, 0, 2, 3, 1, 0, 2, 3, 1, 0, 2, 3, 1, 0, 2, 3, 1, 0, 2, 3, 1, 0, 2, 3, 1, 0, 2, 3, 1, 0, 2, 3, 1, 0, 2, 3, 8, 9, 9, 10, 11, 2, 0, 0, 0, 2, 2, 0, 3, 0]
def tk (a : Nat) : Nat := tkl.getD a 0
def tyk : Nat → Nat → Nat
  | 1, 0 => 10
  | 2, i => if i < 9 then 9 else 0
  | 3, i => if i < 81 then 10 else 0
  | 4, 1 => 401
  | 5, 1 => 257
  | 6, 0 => 11
  | 6, 1 => 10
  | 7, i => if i < 10 then 3 else 0
  | 8, 3 => 11
  | 8, 5 => 401
  | 8, 8 => 401
  | 8, 9 => 401
  | 8, 12 => 2
  | 8, 17 => 512
  | 8, 25 => 401
  | 9, i => if i < 273 then (if 82 ≤ i % 91 then 9 else 10) else 0
  | 10, i => if i < 2730 then (if 82 ≤ i % 91 then 9 else 10) else 0
  | 11, i => if i < 400 then 256 else 0
  | _, _ => 0
def ty (a i : Nat) : Nat := tyk (tk a) i
/-- every place holds what it may -/
def TY (σ : St) : Prop := ∀ a i, 0 < ty a i → IsR (ty a i) (σ a i)
theorem TY.rd {σ : St} (h : TY σ) {a i m : Nat} (hm : ty a i = m) (h0 : 0 < m) : IsR m (σ a i) := by
  have := h a i (by omega)
  rw [hm] at this
  exact this
theorem TY.wr {σ : St} (h : TY σ) {a i : Nat} {v : Int32} (hv : ty a i = 0 ∨ IsR (ty a i) v) : TY (wr σ a i v) := by
  intro b j hb
  by_cases e : b = a
  · subst e
    rw [wr_at]
    by_cases e2 : j = i
    · subst e2
      rw [pk_us]
      exact hv.resolve_left (by omega)
    · rw [pk_un e2]
      exact h b j hb
  · rw [wr_off b e]
    exact h b j hb
theorem TY.cp {σ : St} (h : TY σ) {a b n : Nat} (hv : ∀ i, i < n → ty b i = 0 ∨ ty a i = ty b i) : TY (cpy σ a b n) := by
  intro c j hc
  unfold cpy
  by_cases e : c = b
  · subst e
    rw [if_pos rfl]
    by_cases hj : j < n
    · rw [pk_cpy_in (Nat.zero_le _) (by omega), Nat.sub_zero, Nat.zero_add]
      have := (hv j hj).resolve_left (by omega)
      rw [← this]
      exact h a j (by omega)
    · rw [pk_cpy_out (by omega)]
      exact h c j hc
  · rw [if_neg e]
    exact h c j hc
theorem Ok.rdT {α : Type} {σ : St} {a i m : Nat} {f : Int32 → Option (α × St)} {Q : α → St → Prop} (h : TY σ) (hm : ty a i = m) (h0 : 0 < m) (k : ∀ k, k < m → σ a i = nI k → Ok (f (nI k)) Q) : Ok (rdb σ a i f) Q := by
  obtain ⟨j, h1, h2⟩ := h.rd hm h0
  refine Ok.rd (fun v hv => ?_)
  rw [hv, h2]
  exact k j h1 h2
/-- the class's places but the tape may change -/
def GC (σ t : St) : Prop := TY t ∧ ∀ b, (b < 3 ∨ 149 ≤ b) → t b = σ b
theorem GC.tt {σ t : St} (h : GC σ t) : TY t := h.1
theorem GC.wrT {σ t u : St} (h : GC σ t) {a i m : Nat} {v : Int32} (e : u = wr t a i v) (ha : 3 ≤ a ∧ a < 149) (hm : ty a i = m) (hv : IsR m v) : GC σ u := by
  subst e
  refine ⟨h.1.wr (Or.inr (by rw [hm]; exact hv)), fun b hb => ?_⟩
  rw [wr_off b (by omega)]
  exact h.2 b hb
theorem GC.wrU {σ t u : St} (h : GC σ t) {a i : Nat} {v : Int32} (e : u = wr t a i v) (ha : 3 ≤ a ∧ a < 149) (hm : ty a i = 0) : GC σ u := by
  subst e
  refine ⟨h.1.wr (Or.inl hm), fun b hb => ?_⟩
  rw [wr_off b (by omega)]
  exact h.2 b hb
theorem GC.cp {σ t u : St} (h : GC σ t) {a b n : Nat} (e : u = cpy t a b n) (hb : 3 ≤ b ∧ b < 149) (hv : ∀ i, i < n → ty b i = 0 ∨ ty a i = ty b i) : GC σ u := by
  subst e
  refine ⟨h.1.cp hv, fun c hc => ?_⟩
  unfold cpy
  rw [if_neg (by omega)]
  exact h.2 c hc
theorem GC.refl {σ : St} (h : TY σ) : GC σ σ := ⟨h, fun _ _ => rfl⟩
theorem GC.trans {σ t u : St} (h : GC σ t) (h2 : GC t u) : GC σ u := ⟨h2.1, fun b hb => (h2.2 b hb).trans (h.2 b hb)⟩
theorem net_pl {x : Nat} (h : netAt x = true) : 3 ≤ x ∧ x + 3 < 149 := by
  have hx : x < 163 := by
    have := (List.getElem?_eq_some_iff.mp (netAt_0 h)).1
    have e : SH.length = 163 := by decide +kernel
    omega
  exact (by decide +kernel : ∀ x, x < 163 → netAt x = true → 3 ≤ x ∧ x + 3 < 149) x hx h
theorem net_ty {x : Nat} (h : netAt x = true) : tk x = 1 ∧ tk (x + 1) = 0 ∧ tk (x + 2) = 2 ∧ tk (x + 3) = 3 := by
  have hx : x < 163 := by have := net_pl h; omega
  exact (by decide +kernel : ∀ x, x < 163 → netAt x = true → tk x = 1 ∧ tk (x + 1) = 0 ∧ tk (x + 2) = 2 ∧ tk (x + 3) = 3) x hx h
theorem ty_n0 {x : Nat} (h : netAt x = true) : ty x 0 = 10 := by unfold ty; rw [(net_ty h).1]; rfl
theorem ty_n1 {x : Nat} (h : netAt x = true) : ty x 1 = 0 := by unfold ty; rw [(net_ty h).1]; rfl
theorem ty_nr {x i : Nat} (h : netAt x = true) : ty (x + 1) i = 0 := by unfold ty; rw [(net_ty h).2.1]; rfl
theorem ty_od {x i : Nat} (h : netAt x = true) (hi : i < 9) : ty (x + 2) i = 9 := by
  unfold ty; rw [(net_ty h).2.2.1]; show (if i < 9 then 9 else 0) = 9; rw [if_pos hi]
theorem ty_wt {x i : Nat} (h : netAt x = true) (hi : i < 81) : ty (x + 3) i = 10 := by
  unfold ty; rw [(net_ty h).2.2.2]; show (if i < 81 then 10 else 0) = 10; rw [if_pos hi]
theorem find_pl {x : Nat} (h : findAt x = true) : 3 ≤ x ∧ x + 1 < 149 ∧ tk x = 0 ∧ tk (x + 1) = 2 := by
  have hx : x < 163 := by
    have := (List.getElem?_eq_some_iff.mp (findAt_0 h)).1
    have e : SH.length = 163 := by decide +kernel
    omega
  exact (by decide +kernel : ∀ x, x < 163 → findAt x = true → 3 ≤ x ∧ x + 1 < 149 ∧ tk x = 0 ∧ tk (x + 1) = 2) x hx h
theorem ty_f0 {x i : Nat} (h : findAt x = true) : ty x i = 0 := by unfold ty; rw [(find_pl h).2.2.1]; rfl
theorem ty_fr {x i : Nat} (h : findAt x = true) (hi : i < 9) : ty (x + 1) i = 9 := by
  unfold ty; rw [(find_pl h).2.2.2]; show (if i < 9 then 9 else 0) = 9; rw [if_pos hi]
theorem el_10 {v : Int32} (h : IsR 3 v) : netAt (el 10 v) = true := by
  obtain ⟨k, hk, rfl⟩ := h
  rcases (show k = 0 ∨ k = 1 ∨ k = 2 by omega) with rfl | rfl | rfl <;> decide +kernel
theorem el_11 {v : Int32} (h : IsR 3 v) : findsAt (el 11 v) = true := by
  obtain ⟨k, hk, rfl⟩ := h
  rcases (show k = 0 ∨ k = 1 ∨ k = 2 by omega) with rfl | rfl | rfl <;> decide +kernel
theorem el_100 {v : Int32} (h : IsR 10 v) : netAt (el 100 v) = true := by
  obtain ⟨k, hk, rfl⟩ := h
  rcases (show k = 0 ∨ k = 1 ∨ k = 2 ∨ k = 3 ∨ k = 4 ∨ k = 5 ∨ k = 6 ∨ k = 7 ∨ k = 8 ∨ k = 9 by omega) with rfl | rfl | rfl | rfl | rfl | rfl | rfl | rfl | rfl | rfl <;> decide +kernel
theorem finds_pl {x : Nat} (h : findsAt x = true) : netAt (x + 2) = true ∧ ∀ k, k < 7 → findAt (x + 6 + 2 * k) = true := by
  have hx : x < 163 := by
    have := (List.getElem?_eq_some_iff.mp (findsAt_0 h)).1
    have e : SH.length = 163 := by decide +kernel
    omega
  exact (by decide +kernel : ∀ x, x < 163 → findsAt x = true → netAt (x + 2) = true ∧ ∀ k, k < 7 → findAt (x + 6 + 2 * k) = true) x hx h
theorem el_fs {x : Nat} {v : Int32} (hx : findsAt x = true) (h : IsR 7 v) : findAt (el (x + 1) v) = true := by
  obtain ⟨k, hk, rfl⟩ := h
  have e : el (x + 1) (nI k) = x + 6 + 2 * k := by
    unfold el
    rw [findsAt_1 hx, nI_cl (by omega)]
    rcases (show k = 0 ∨ k = 1 ∨ k = 2 ∨ k = 3 ∨ k = 4 ∨ k = 5 ∨ k = 6 by omega) with rfl | rfl | rfl | rfl | rfl | rfl | rfl <;> rfl
  rw [e]
  exact (finds_pl hx).2 k hk
theorem or9 {a b : Nat} (ha : a < 512) (hb : b < 512) : a ||| b < 512 := Nat.or_lt_two_pow (n := 9) ha hb
theorem xor9 {a b : Nat} (ha : a < 512) (hb : b < 512) : a ^^^ b < 512 := Nat.xor_lt_two_pow (n := 9) ha hb
theorem and9 {a b : Nat} (ha : a < 512) : a &&& b < 512 := Nat.lt_of_le_of_lt Nat.and_le_left ha
theorem pw9 {k : Nat} (h : k < 9) : 2 ^ k < 512 := by
  have : k = 0 ∨ k = 1 ∨ k = 2 ∨ k = 3 ∨ k = 4 ∨ k = 5 ∨ k = 6 ∨ k = 7 ∨ k = 8 := by omega
  rcases this with rfl | rfl | rfl | rfl | rfl | rfl | rfl | rfl | rfl <;> decide
theorem shl_1b {k : Nat} (hk : k ≤ 9) : shl (nI 1) (nI k) = nI (2 ^ k) := shl_1 hk
end
