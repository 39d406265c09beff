/-! exact steps: bits, sums, sets as numbers -/
theorem Ok.and {α : Type} {m : Option (α × St)} {Q R : α → St → Prop} (h : Ok m Q) (k : Ok m R) : Ok m (fun v s => Q v s ∧ R v s) := by
  obtain ⟨v, s, h1, h2⟩ := h
  obtain ⟨w, t, h3, h4⟩ := k
  rw [h1] at h3
  obtain ⟨rfl, rfl⟩ := some_pair h3
  exact ⟨v, s, h1, h2, h4⟩
theorem Ok.out {α : Type} {m : Option (α × St)} {Q : α → St → Prop} {v : α} {s : St} (h : Ok m Q) (e : m = some (v, s)) : Q v s := by
  obtain ⟨w, t, h1, h2⟩ := h
  rw [e] at h1
  obtain ⟨rfl, rfl⟩ := some_pair h1
  exact h2
theorem Ok.rdE {α : Type} {σ : St} {a i : Nat} {x : Int32} {f : Int32 → Option (α × St)} {Q : α → St → Prop} (e : σ a i = x) (k : Ok (f x) Q) : Ok (rdb σ a i f) Q := by
  show Ok (f (σ a i)) Q
  rw [e]
  exact k
theorem Ok.ifT {α : Type} {c : Prop} [Decidable c] {x y : Option (α × St)} {Q : α → St → Prop} (h : c) (k : Ok x Q) : Ok (if c then x else y) Q := by rw [if_pos h]; exact k
theorem Ok.ifF {α : Type} {c : Prop} [Decidable c] {x y : Option (α × St)} {Q : α → St → Prop} (h : ¬ c) (k : Ok y Q) : Ok (if c then x else y) Q := by rw [if_neg h]; exact k
theorem Ok.cv {α : Type} {c d : Prop} [Decidable c] [Decidable d] {x y : Option (α × St)} {Q : α → St → Prop} (e : c = d) (h : Ok (if d then x else y) Q) : Ok (if c then x else y) Q := by
  by_cases q : d
  · rw [if_pos q] at h
    rw [if_pos (by rw [e]; exact q)]
    exact h
  · rw [if_neg q] at h
    rw [if_neg (by rw [e]; exact q)]
    exact h
theorem Ok.ckT {α : Type} {c : Bool} {m : Option (α × St)} {Q : α → St → Prop} (h : c = true) (k : Ok m Q) : Ok (chk c m) Q := by rw [h]; exact k
theorem OkwrE {α : Type} {σ : St} {a i : Nat} {v : Int32} {f : St → Option (α × St)} {Q : α → St → Prop} (k : Ok (f (wr σ a i v)) Q) : Ok (wrb σ a i v f) Q := k
/-- a loop that counts from i to n -/
theorem Ok.count {C R : Type} {f : C → St → Option ((C ⊕ R) × St)} {Q : R → St → Prop} (n : Nat) (I : Nat → C → St → Prop) (step : ∀ j c s, j < n → I j c s → Ok (f c s) (fun x t => Sum.elim (fun d => I (j + 1) d t) (fun r => Q r t) x)) (last : ∀ c s, I n c s → Ok (f c s) (fun x t => Sum.elim (fun _ => False) (fun r => Q r t) x)) {j : Nat} {c : C} {s : St} (hj : j ≤ n) (h : I j c s) : Ok (wh f c s) Q := by
  refine Ok.loop (fun k c s => ∃ j, j ≤ n ∧ k = n - j ∧ I j c s) ?_ (n - j) c s ⟨j, hj, rfl, h⟩
  rintro k c s ⟨j, hj, rfl, h⟩
  by_cases e : j < n
  · refine (step j c s e h).mono ?_
    rintro (d | r) t q
    · exact ⟨n - (j + 1), by omega, j + 1, by omega, rfl, q⟩
    · exact q
  · have : j = n := by omega
    subst this
    refine (last c s h).mono ?_
    rintro (d | r) t q
    · exact q.elim
    · exact q
theorem wrs {t : St} {a i : Nat} {v : Int32} : wr t a i v a i = v := by rw [wr_at, pk_us]
theorem wrn {t : St} {a i j : Nat} {v : Int32} (h : j ≠ i) : wr t a i v a j = t a j := by rw [wr_at, pk_un h]
theorem wrf {t : St} {a b i j : Nat} {v : Int32} (h : b ≠ a) : wr t a i v b j = t b j := by rw [wr_off b h]
/-! sums -/
def sm : Nat → (Nat → Nat) → Nat
  | 0, _ => 0
  | n + 1, f => sm n f + f n
theorem sm_congr {f g : Nat → Nat} : ∀ {n : Nat}, (∀ i, i < n → f i = g i) → sm n f = sm n g
  | 0, _ => rfl
  | n + 1, h => by
    show sm n f + f n = sm n g + g n
    rw [sm_congr (fun i hi => h i (by omega)), h n (by omega)]
theorem sm_zero {f : Nat → Nat} {n : Nat} (h : ∀ i, i < n → f i = 0) : sm n f = 0 := by
  induction n with
  | zero => rfl
  | succ n ih =>
    show sm n f + f n = 0
    rw [ih (fun i hi => h i (by omega)), h n (by omega)]
theorem sm_add {f g : Nat → Nat} : ∀ {n : Nat}, sm n (fun i => f i + g i) = sm n f + sm n g
  | 0 => rfl
  | n + 1 => by
    show sm n (fun i => f i + g i) + (f n + g n) = sm n f + f n + (sm n g + g n)
    rw [sm_add]
    omega
theorem sm_le {f : Nat → Nat} {b : Nat} : ∀ {n : Nat}, (∀ i, i < n → f i ≤ b) → sm n f ≤ n * b
  | 0, _ => by rw [Nat.zero_mul]; exact Nat.le_refl 0
  | n + 1, h => by
    have h1 := sm_le (f := f) (b := b) (n := n) (fun i hi => h i (by omega))
    have h2 := h n (by omega)
    have h3 : (n + 1) * b = n * b + b := Nat.succ_mul n b
    show sm n f + f n ≤ (n + 1) * b
    omega
theorem sm_mono {f g : Nat → Nat} : ∀ {n : Nat}, (∀ i, i < n → f i ≤ g i) → sm n f ≤ sm n g
  | 0, _ => Nat.le_refl 0
  | n + 1, h => by
    have h1 := sm_mono (f := f) (g := g) (n := n) (fun i hi => h i (by omega))
    have h2 := h n (by omega)
    show sm n f + f n ≤ sm n g + g n
    omega
theorem sm_one {f g : Nat → Nat} {a : Nat} : ∀ {n : Nat}, a < n → (∀ i, i < n → i ≠ a → f i = g i) → sm n f + g a = sm n g + f a
  | 0, h, _ => by omega
  | n + 1, h, k => by
    show sm n f + f n + g a = sm n g + g n + f a
    by_cases e : a = n
    · subst e
      rw [sm_congr (f := f) (g := g) (fun i hi => k i (by omega) (by omega))]
      omega
    · have h1 := sm_one (f := f) (g := g) (a := a) (n := n) (by omega) (fun i hi hn => k i (by omega) hn)
      have h2 := k n (by omega) (fun q => e q.symm)
      omega
theorem sm_swap {f : Nat → Nat → Nat} {m : Nat} : ∀ {n : Nat}, sm n (fun i => sm m (fun j => f i j)) = sm m (fun j => sm n (fun i => f i j))
  | 0 => (sm_zero (fun _ _ => rfl)).symm
  | n + 1 => by
    show sm n (fun i => sm m (fun j => f i j)) + sm m (fun j => f n j) = sm m (fun j => sm n (fun i => f i j) + f n j)
    rw [sm_add, sm_swap]
/-! sets as numbers -/
def mkm : Nat → (Nat → Bool) → Nat
  | 0, _ => 0
  | n + 1, P => mkm n P ||| (if P n = true then 2 ^ n else 0)
theorem mkm_lt {P : Nat → Bool} : ∀ {n : Nat}, mkm n P < 2 ^ n
  | 0 => Nat.lt_succ_self 0
  | n + 1 => by
    have h1 := mkm_lt (P := P) (n := n)
    have h2 : 2 ^ (n + 1) = 2 ^ n * 2 := Nat.pow_succ 2 n
    refine Nat.or_lt_two_pow (n := n + 1) (by omega) ?_
    by_cases h : P n = true
    · rw [if_pos h]; omega
    · rw [if_neg h]; omega
theorem mkm_bit {P : Nat → Bool} {k : Nat} : ∀ {n : Nat}, (mkm n P).testBit k = (decide (k < n) && P k)
  | 0 => by simp [mkm]
  | n + 1 => by
    show (mkm n P ||| (if P n = true then 2 ^ n else 0)).testBit k = _
    rw [Nat.testBit_or, mkm_bit]
    by_cases h : P n = true
    · rw [if_pos h, Nat.testBit_two_pow]
      by_cases e : k = n
      · subst e; simp [h]
      · have e2 : ¬ n = k := fun q => e q.symm
        by_cases e3 : k < n
        · have : k < n + 1 := by omega
          simp [e2, e3, this]
        · have : ¬ k < n + 1 := by omega
          simp [e2, e3, this]
    · rw [if_neg h, Nat.zero_testBit]
      by_cases e : k = n
      · subst e; simp [h]
      · by_cases e3 : k < n
        · have : k < n + 1 := by omega
          simp [e3, this]
        · have : ¬ k < n + 1 := by omega
          simp [e3, this]
theorem lt_pow_bit {a n k : Nat} (h : a < 2 ^ n) (hk : n ≤ k) : a.testBit k = false := Nat.testBit_lt_two_pow (Nat.lt_of_lt_of_le h (Nat.pow_le_pow_right (by decide) hk))
theorem bit_ext {a b n : Nat} (ha : a < 2 ^ n) (hb : b < 2 ^ n) (h : ∀ k, k < n → a.testBit k = b.testBit k) : a = b := by
  apply Nat.eq_of_testBit_eq
  intro k
  by_cases hk : k < n
  · exact h k hk
  · rw [lt_pow_bit ha (by omega), lt_pow_bit hb (by omega)]
theorem mkm_self {S n : Nat} (h : S < 2 ^ n) : mkm n (fun i => S.testBit i) = S := by
  refine bit_ext mkm_lt h (fun k hk => ?_)
  rw [mkm_bit]
  simp [hk]
theorem mkm_congr {P Q : Nat → Bool} {n : Nat} (h : ∀ i, i < n → P i = Q i) : mkm n P = mkm n Q := by
  refine bit_ext mkm_lt mkm_lt (fun k hk => ?_)
  rw [mkm_bit, mkm_bit, h k hk]
theorem bit_511 {k : Nat} : (511 : Nat).testBit k = decide (k < 9) := Nat.testBit_two_pow_sub_one (i := k) (n := 9)
/-- a without b -/
def dif (a b : Nat) : Nat := a &&& (b ^^^ 511)
theorem dif_bit {a b k : Nat} (ha : a < 512) : (dif a b).testBit k = (a.testBit k && !b.testBit k) := by
  unfold dif
  rw [Nat.testBit_and, Nat.testBit_xor, bit_511]
  by_cases h : k < 9
  · simp [h]
  · rw [lt_pow_bit (n := 9) ha (by omega)]
    simp
theorem dif_lt {a b : Nat} (ha : a < 512) : dif a b < 512 := and9 ha
theorem nI_dif {a b : Nat} (ha : a < 512) (hb : b < 512) : nI a &&& (nI b ^^^ -1) = nI (dif a b) := by
  have e : nI b ^^^ -1 = nI (b ^^^ 511) ||| nI 4294966784 := by
    apply Int32.toBitVec_inj.mp
    show BitVec.ofNat 32 b ^^^ 4294967295#32 = BitVec.ofNat 32 (b ^^^ 511) ||| 4294966784#32
    apply BitVec.eq_of_getLsbD_eq
    intro i hi
    rw [BitVec.getLsbD_xor, BitVec.getLsbD_or, BitVec.getLsbD_ofNat (x := b), BitVec.getLsbD_ofNat (x := b ^^^ 511), Nat.testBit_xor, bit_511]
    by_cases h : i < 9
    · have h1 : (4294967295#32).getLsbD i = true := (by decide : ∀ i, i < 9 → (4294967295#32).getLsbD i = true) i h
      have h2 : (4294966784#32).getLsbD i = false := (by decide : ∀ i, i < 9 → (4294966784#32).getLsbD i = false) i h
      rw [h1, h2]
      simp [hi, h]
    · have h1 : (4294967295#32).getLsbD i = true := (by decide : ∀ i, i < 32 → (4294967295#32).getLsbD i = true) i hi
      have h2 : (4294966784#32).getLsbD i = true := (by decide : ∀ i, i < 32 → ¬ i < 9 → (4294966784#32).getLsbD i = true) i hi h
      rw [h1, h2, lt_pow_bit (n := 9) hb (by omega)]
      simp [hi, h]
  rw [e, nI_or, nI_and]
  congr 1
  unfold dif
  apply Nat.eq_of_testBit_eq
  intro k
  rw [Nat.testBit_and, Nat.testBit_and, Nat.testBit_or]
  by_cases h : k < 9
  · have : (4294966784 : Nat).testBit k = false := (by decide : ∀ i, i < 9 → (4294966784 : Nat).testBit i = false) k h
    rw [this]
    simp
  · rw [lt_pow_bit (n := 9) ha (by omega)]
    simp
theorem or_lt {a b : Nat} (ha : a < 512) (hb : b < 512) : a ||| b < 512 := or9 ha hb
theorem pow_bit {q k : Nat} : (2 ^ q : Nat).testBit k = decide (q = k) := Nat.testBit_two_pow
theorem bitn {S j : Nat} (hS : S < 2147483648) (hj : j < 32) : (shr (nI S) (nI j) &&& 1 = 0) = (S.testBit j = false) := by
  rw [bit_n hS hj]
  cases S.testBit j
  · exact propext ⟨fun _ => rfl, fun _ => rfl⟩
  · exact propext ⟨fun h => absurd h (by decide), fun h => by cases h⟩
theorem bitn1 {S j : Nat} (hS : S < 2147483648) (hj : j < 32) : (shr (nI S) (nI j) &&& 1 = 1) = (S.testBit j = true) := by
  rw [bit_n hS hj]
  cases S.testBit j
  · exact propext ⟨fun h => absurd h (by decide), fun h => by cases h⟩
  · exact propext ⟨fun _ => rfl, fun _ => rfl⟩
/-- how many are in a set -/
theorem cnt_succ (S n : Nat) : cnt S (n + 1) = cnt S n + (if S.testBit n = true then 1 else 0) := by
  rw [cnt]
  cases S.testBit n <;> rfl
theorem cnt_sm (S : Nat) : ∀ n, cnt S n = sm n (fun i => if S.testBit i = true then 1 else 0)
  | 0 => rfl
  | n + 1 => by rw [cnt_succ, cnt_sm S n]; rfl
noncomputable def bcx (a : Int32) : Int32 := ((FJ6_bitCount_0f7a4 a (fun _ _ => 0)).map Prod.fst).getD 0
theorem bcx_e (a : Int32) (σ : St) : FJ6_bitCount_0f7a4 a σ = some (bcx a, σ) := rfl
theorem bcx_all : ∀ S, S < 512 → bcx (nI S) = nI (cnt S 9) := by decide +kernel
theorem e_bitCount {S : Nat} (hS : S < 512) {t : St} {Q : Int32 → St → Prop} (k : Q (nI (cnt S 9)) t) : Ok (FJ6_bitCount_0f7a4 (nI S) t) Q := by
  rw [bcx_e, bcx_all S hS]
  exact ⟨_, _, rfl, k⟩
/-- the lowest bit goes -/
theorem low_all : ∀ S, S < 512 → S ≠ 0 → (nI S &&& (nI S - 1) = nI (S &&& (S - 1))) ∧ cnt (S &&& (S - 1)) 9 + 1 = cnt S 9 ∧ S &&& (S - 1) < 512 := by decide +kernel
theorem cnt9_0 : ∀ S, S < 512 → cnt S 9 = 0 → S = 0 := by decide +kernel
theorem e_ones {S : Nat} (hS : S < 512) {t : St} {Q : Int32 → St → Prop} (k : Q (nI (cnt S 9)) t) : Ok (FX12_ones (nI S) t) Q := by
  unfold FX12_ones
  refine Ok.bd (fun r u => r = nI (cnt S 9) ∧ t = u) ?_ ?_
  · refine Ok.loop (fun j c s => t = s ∧ ∃ T, T < 512 ∧ j = cnt T 9 ∧ j ≤ cnt S 9 ∧ c = (nI (cnt S 9 - j), nI T)) ?_ (cnt S 9) _ _ ⟨rfl, S, hS, rfl, Nat.le_refl _, by rw [Nat.sub_self]; rfl⟩
    rintro j c s ⟨rfl, T, hT, rfl, hj, rfl⟩
    unfold SX12_ones_4
    dsimp only
    have hc9 : cnt S 9 ≤ 9 := cnt_le
    refine Ok.ite (fun c => Ok.ret ?_) (fun c => Ok.ret ?_)
    · rw [li_0, nI_eqP (by omega) (by omega)] at c
      subst c
      refine ⟨?_, rfl⟩
      rw [cnt_0, Nat.sub_zero]
    · rw [li_0, nI_eqP (by omega) (by omega)] at c
      obtain ⟨e1, e2, e3⟩ := low_all T hT c
      refine ⟨cnt (T &&& (T - 1)) 9, by omega, rfl, T &&& (T - 1), e3, rfl, by omega, ?_⟩
      rw [e1, nI_1]
      congr 2
      omega
  · rintro r u ⟨rfl, rfl⟩
    exact Ok.ret k
