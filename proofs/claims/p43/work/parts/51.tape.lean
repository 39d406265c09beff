/-! the tape, byte by byte -/
theorem b8 (x : Int32) : x.toInt8.toInt32.toInt8.toInt32 &&& 255 = x &&& 255 := by
  apply Int32.toBitVec_inj.mp
  show ((((x.toBitVec.signExtend 8).signExtend 32).signExtend 8).signExtend 32) &&& 255#32 = x.toBitVec &&& 255#32
  apply BitVec.eq_of_getLsbD_eq
  intro i hi
  rw [BitVec.getLsbD_and, BitVec.getLsbD_and]
  by_cases h : i < 8
  · have h3 : i < 32 := hi
    rw [BitVec.getLsbD_signExtend, if_pos h, BitVec.getLsbD_signExtend, if_pos h3, BitVec.getLsbD_signExtend, if_pos h, BitVec.getLsbD_signExtend, if_pos h3]
    simp [h, h3]
  · have h2 : (255#32).getLsbD i = false := (by decide : ∀ i, i < 32 → ¬ i < 8 → (255#32).getLsbD i = false) i hi h
    rw [h2]
    simp
/-- both tapes hold the k bytes bt -/
def CT (k : Nat) (bt : Nat → Nat) (t : St) : Prop := k < 401 ∧ t 1 1 = nI k ∧ ∀ i, i < k → bt i < 256 ∧ t 2 i &&& 255 = nI (bt i)
def MT (k : Nat) (bt : Nat → Nat) (t : St) : Prop := k < 401 ∧ t 149 5 = nI k ∧ ∀ i, i < k → bt i < 256 ∧ t 153 i = nI (bt i)
theorem CT.fr {k : Nat} {bt : Nat → Nat} {t u : St} (h : CT k bt t) (e1 : u 1 = t 1) (e2 : u 2 = t 2) : CT k bt u := by
  unfold CT
  rw [e1, e2]
  exact h
theorem e_at {k : Nat} {bt : Nat → Nat} {t : St} (h : CT k bt t) {i : Nat} (hi : i < 1000) {Q : Int32 → St → Prop} (q1 : i < k → bt i < 256 → Q (nI (bt i)) t) (q2 : k ≤ i → Q (-1) t) : Ok (FX1_at_1 (nI i) t) Q := by
  obtain ⟨hk, e1, hb⟩ := h
  unfold FX1_at_1
  refine Ok.ifF (by rw [li_0, nI_ltP (by omega) (by omega)]; omega) (Ok.rdE e1 ?_)
  by_cases c : i < k
  · refine Ok.ifF (by rw [nI_leP (by omega) (by omega)]; omega) (Ok.ckT (inb_n (by omega) (by omega)) (Ok.rdE rfl ?_))
    rw [nI_cl (by omega), (hb i c).2]
    exact Ok.ret (q1 c (hb i c).1)
  · exact Ok.ifT (by rw [nI_leP (by omega) (by omega)]; omega) (Ok.ret (q2 (by omega)))
/-- byte i of twenty -/
def by20 (ff : Nat → Int32) (i : Nat) : Int32 := ushr (ff (i / 4)) (nI (24 - 8 * (i % 4))) &&& 255
theorem ushr_0 (x : Int32) : ushr x (nI 0) = x := by
  apply Int32.toBitVec_inj.mp
  show x.toBitVec >>> ((0 : BitVec 32) % 32#32) = x.toBitVec
  simp
theorem f_put {t u : St} {k : Nat} (ho : ∀ b, b ≠ 1 → b ≠ 2 → u b = t b) (e1 : u 1 1 = nI k) (hk : k < 400) {a : Int32} : Ok (FX1_put_1 a u) (fun _ w => (∀ b, b ≠ 1 → b ≠ 2 → w b = t b) ∧ w 1 1 = nI (k + 1) ∧ w 2 k &&& 255 = a &&& 255 ∧ ∀ i, i ≠ k → w 2 i = u 2 i) := by
  unfold FX1_put_1
  refine Ok.bd _ (xX1_hasRoom (j := 1) e1 (by omega) (by omega)) ?_
  rintro v _ ⟨rfl, hv⟩
  refine Ok.ifF (fun c => ?_) ?_
  · rcases hv with ⟨-, h⟩ | ⟨h, -⟩
    · omega
    · exact absurd (h.symm.trans c) (by decide)
  refine Ok.rdE e1 (Ok.ckT (inb_n (by omega) (by omega)) (OkwrE (Ok.rdE (x := nI k) ?_ (OkwrE (Ok.ret ⟨?_, ?_, ?_, ?_⟩)))))
  · rw [wrf (by decide)]
    exact e1
  · intro b h1 h2
    rw [wr_off b h1, wr_off b h2]
    exact ho b h1 h2
  · rw [wrs, nI_1]
  · rw [wrf (by decide), nI_cl (by omega), wrs, b8]
  · intro i hi
    rw [wrf (by decide), nI_cl (by omega), wrn hi]
theorem f_putFour {t u : St} {k : Nat} (ho : ∀ b, b ≠ 1 → b ≠ 2 → u b = t b) (e1 : u 1 1 = nI k) (hk : k + 4 ≤ 400) {a : Int32} : Ok (FX1_putFour_1 a u) (fun _ w => (∀ b, b ≠ 1 → b ≠ 2 → w b = t b) ∧ w 1 1 = nI (k + 4) ∧ (∀ i, i < k → w 2 i = u 2 i) ∧ ∀ r, r < 4 → w 2 (k + r) &&& 255 = ushr a (nI (24 - 8 * r)) &&& 255) := by
  unfold FX1_putFour_1
  refine Ok.bd _ (f_put ho e1 (by omega)) ?_
  rintro _ w1 ⟨h1, a1, b1, c1⟩
  refine Ok.bd _ (f_put h1 a1 (by omega)) ?_
  rintro _ w2 ⟨h2, a2, b2, c2⟩
  refine Ok.bd _ (f_put h2 a2 (by omega)) ?_
  rintro _ w3 ⟨h3, a3, b3, c3⟩
  refine Ok.bd _ (f_put h3 a3 (by omega)) ?_
  rintro _ w4 ⟨h4, a4, b4, c4⟩
  refine Ok.ret ⟨h4, a4, fun i hi => ?_, fun r hr => ?_⟩
  · rw [c4 i (by omega), c3 i (by omega), c2 i (by omega), c1 i (by omega)]
  · rcases (show r = 0 ∨ r = 1 ∨ r = 2 ∨ r = 3 by omega) with rfl | rfl | rfl | rfl
    · rw [Nat.add_zero, c4 k (by omega), c3 k (by omega), c2 k (by omega)]
      exact b1
    · rw [c4 _ (by omega), c3 _ (by omega)]
      exact b2
    · rw [c4 _ (by omega)]
      exact b3
    · have := b4
      rw [← ushr_0 a] at this
      exact this
def ff5 (a b c d e : Int32) : Nat → Int32 := upd (upd (upd (upd (upd (fun _ => 0) (0 : Int32).toNatClampNeg a) (1 : Int32).toNatClampNeg b) (2 : Int32).toNatClampNeg c) (3 : Int32).toNatClampNeg d) (4 : Int32).toNatClampNeg e
theorem f_feedC {t : St} {k : Nat} (e1 : t 1 1 = nI k) (hk : k ≤ 380) {a b c d e : Int32} : Ok (FX11_feed a b c d e t) (fun r w => r = nI (k + 20) ∧ (∀ b, b ≠ 1 → b ≠ 2 → w b = t b) ∧ w 1 1 = nI (k + 20) ∧ (∀ i, i < k → w 2 i = t 2 i) ∧ ∀ i, i < 20 → w 2 (k + i) &&& 255 = by20 (ff5 a b c d e) i) := by
  unfold FX11_feed
  refine Ok.bd _ (xX1_hasRoom (j := 20) e1 (by omega) (by omega)) ?_
  rintro v _ ⟨rfl, hv⟩
  refine Ok.ifF (fun c => ?_) ?_
  · rcases hv with ⟨-, h⟩ | ⟨h, -⟩
    · omega
    · exact absurd (h.symm.trans c) (by decide)
  refine Ok.bd _ (f_putFour (t := t) (fun _ _ _ => rfl) e1 (by omega)) ?_
  rintro _ w1 ⟨h1, a1, b1, c1⟩
  refine Ok.bd _ (f_putFour h1 a1 (by omega)) ?_
  rintro _ w2 ⟨h2, a2, b2, c2⟩
  refine Ok.bd _ (f_putFour h2 a2 (by omega)) ?_
  rintro _ w3 ⟨h3, a3, b3, c3⟩
  refine Ok.bd _ (f_putFour h3 a3 (by omega)) ?_
  rintro _ w4 ⟨h4, a4, b4, c4⟩
  refine Ok.bd _ (f_putFour h4 a4 (by omega)) ?_
  rintro _ w5 ⟨h5, a5, b5, c5⟩
  refine Ok.rdE a5 (Ok.ret ⟨rfl, h5, a5, fun i hi => ?_, fun i hi => ?_⟩)
  · rw [b5 i (by omega), b4 i (by omega), b3 i (by omega), b2 i (by omega), b1 i (by omega)]
  · rcases (show i < 4 ∨ (4 ≤ i ∧ i < 8) ∨ (8 ≤ i ∧ i < 12) ∨ (12 ≤ i ∧ i < 16) ∨ (16 ≤ i ∧ i < 20) by omega) with h | h | h | h | h
    · rw [b5 _ (by omega), b4 _ (by omega), b3 _ (by omega), b2 _ (by omega), c1 i h]
      unfold by20
      rw [show i / 4 = 0 by omega, show i % 4 = i by omega]
      rfl
    · rw [b5 _ (by omega), b4 _ (by omega), b3 _ (by omega), show k + i = k + 4 + (i - 4) by omega, c2 (i - 4) (by omega)]
      unfold by20
      rw [show i / 4 = 1 by omega, show i % 4 = i - 4 by omega]
      rfl
    · rw [b5 _ (by omega), b4 _ (by omega), show k + i = k + 4 + 4 + (i - 8) by omega, c3 (i - 8) (by omega)]
      unfold by20
      rw [show i / 4 = 2 by omega, show i % 4 = i - 8 by omega]
      rfl
    · rw [b5 _ (by omega), show k + i = k + 4 + 4 + 4 + (i - 12) by omega, c4 (i - 12) (by omega)]
      unfold by20
      rw [show i / 4 = 3 by omega, show i % 4 = i - 12 by omega]
      rfl
    · rw [show k + i = k + 4 + 4 + 4 + 4 + (i - 16) by omega, c5 (i - 16) (by omega)]
      unfold by20
      rw [show i / 4 = 4 by omega, show i % 4 = i - 16 by omega]
      rfl
theorem f_feedM {t : St} {k : Nat} (e1 : t 149 5 = nI k) (hk : k ≤ 380) {a b c d e : Int32} : Ok (FX12_feed a b c d e t) (fun r w => r = nI (k + 20) ∧ (∀ b, b ≠ 149 → b ≠ 153 → w b = t b) ∧ w 149 = upd (t 149) 5 (nI (k + 20)) ∧ (∀ i, i < k → w 153 i = t 153 i) ∧ ∀ i, i < 20 → w 153 (k + i) = by20 (ff5 a b c d e) i) := by
  unfold FX12_feed
  refine Ok.rdE e1 (Ok.ifT (by rw [li_380, nI_leP (by omega) (by omega)]; omega) ?_)
  refine Ok.bd (fun _ w => (∀ b, b ≠ 153 → w b = t b) ∧ (∀ i, i < k → w 153 i = t 153 i) ∧ ∀ i, i < 20 → w 153 (k + i) = by20 (ff5 a b c d e) i) ?_ ?_
  · refine Ok.count 20 (fun j cc s => cc = nI j ∧ (∀ b, b ≠ 153 → s b = t b) ∧ (∀ i, i < k → s 153 i = t 153 i) ∧ ∀ i, i < j → s 153 (k + i) = by20 (ff5 a b c d e) i) ?_ ?_ (Nat.zero_le _) ⟨rfl, fun _ _ => rfl, fun _ _ => rfl, fun i hi => by omega⟩
    · rintro j cc s hj ⟨rfl, h1, h2, h3⟩
      unfold SX12_feed_42
      refine Ok.ifF (by rw [li_20, nI_leP (by omega) (by omega)]; omega) (Ok.rdE (x := nI k) (by rw [h1 149 (by decide)]; exact e1) ?_)
      have ed : nI j / (4 : Int32) = nI (j / 4) := by rw [li_4]; exact nI_divN (by omega) (by omega) (by omega)
      have er : irem (nI j) (4 : Int32) = nI (j % 4) := by rw [li_4]; exact nI_remN (by omega) (by omega) (by omega)
      rw [ed, er, nI_add]
      refine Ok.ckT (inb_n (by omega) (by omega)) (Ok.ckT (inb_n (by omega) (by omega)) (OkwrE (Ok.ret ⟨nI_1 j, fun b hb => ?_, fun i hi => ?_, fun i hi => ?_⟩)))
      · rw [wr_off b hb]
        exact h1 b hb
      · rw [nI_cl (by omega), wrn (by omega)]
        exact h2 i hi
      · rw [nI_cl (by omega)]
        by_cases e : i = j
        · subst e
          rw [wrs, nI_cl (by omega)]
          unfold by20
          have es : (24 : Int32) - (8 : Int32) * nI (i % 4) = nI (24 - 8 * (i % 4)) := by
            rw [li_8, li_24, nI_mul, nI_sub (by omega)]
          rw [es]
          rfl
        · rw [wrn (by omega)]
          exact h3 i (by omega)
    · rintro cc s ⟨rfl, h1, h2, h3⟩
      unfold SX12_feed_42
      exact Ok.ifT (by rw [li_20, nI_leP (by omega) (by omega)]; omega) (Ok.ret ⟨h1, h2, h3⟩)
  · rintro _ w ⟨h1, h2, h3⟩
    refine Ok.rdE (x := nI k) (by rw [h1 149 (by decide)]; exact e1) ?_
    rw [li_20, nI_add]
    refine OkwrE (Ok.rdE wrs (Ok.ret ⟨rfl, fun b hb hb2 => ?_, ?_, fun i hi => ?_, fun i hi => ?_⟩))
    · rw [wr_off b hb]
      exact h1 b hb2
    · rw [wr_at, h1 149 (by decide)]
    · rw [wrf (by decide)]
      exact h2 i hi
    · rw [wrf (by decide)]
      exact h3 i hi
/-! the tape as tokens -/
def bl (b : Nat) : Bool := b == 32 || b == 10
def kd (b : Nat) : Nat := if 97 ≤ b ∧ b ≤ 122 then 1 else if 48 ≤ b ∧ b ≤ 57 then 2 else 3
/-- e is the first from i on that is not P, or the end -/
def AV (P : Nat → Bool) (k i e : Nat) : Prop := i ≤ e ∧ e ≤ k ∧ (∀ j, i ≤ j → j < e → P j = true) ∧ (e < k → P e = false)
theorem AV.uq {P : Nat → Bool} {k i e f : Nat} (h : AV P k i e) (g : AV P k i f) : e = f := by
  obtain ⟨h1, h2, h3, h4⟩ := h
  obtain ⟨g1, g2, g3, g4⟩ := g
  rcases Nat.lt_trichotomy e f with q | q | q
  · have a := h4 (by omega)
    have b := g3 e h1 q
    rw [a] at b
    cases b
  · exact q
  · have a := g4 (by omega)
    have b := h3 f g1 q
    rw [a] at b
    cases b
def adv (P : Nat → Bool) (k : Nat) : Nat → Nat → Nat
  | 0, i => i
  | f + 1, i => if i < k ∧ P i = true then adv P k f (i + 1) else i
theorem adv_AV {P : Nat → Bool} {k : Nat} : ∀ f i, i ≤ k → k ≤ i + f → AV P k i (adv P k f i)
  | 0, i, h1, h2 => ⟨Nat.le_refl _, h1, fun j a b => absurd b (by show ¬ j < i; omega), fun q => absurd q (by show ¬ i < k; omega)⟩
  | f + 1, i, h1, h2 => by
    rw [adv]
    by_cases c : i < k ∧ P i = true
    · rw [if_pos c]
      obtain ⟨a1, a2, a3, a4⟩ := adv_AV (P := P) (k := k) f (i + 1) (by omega) (by omega)
      refine ⟨by omega, a2, fun j b1 b2 => ?_, a4⟩
      by_cases e : j = i
      · rw [e]; exact c.2
      · exact a3 j (by omega) b2
    · rw [if_neg c]
      refine ⟨Nat.le_refl _, h1, fun j a b => by omega, fun q => ?_⟩
      cases hp : P i
      · rfl
      · exact absurd ⟨q, hp⟩ c
/-- the token from place i on: its first byte, what it is (0 the end, 1 a word, 2 digits, 3 a sign), the place behind it -/
def tkb (k : Nat) (bt : Nat → Nat) (i : Nat) : Nat := adv (fun j => bl (bt j)) k 401 i
def tkc (k : Nat) (bt : Nat → Nat) (i : Nat) : Nat := if tkb k bt i < k then kd (bt (tkb k bt i)) else 0
def tke (k : Nat) (bt : Nat → Nat) (i : Nat) : Nat := if tkb k bt i < k then (if kd (bt (tkb k bt i)) = 3 then tkb k bt i + 1 else adv (fun j => kd (bt j) == kd (bt (tkb k bt i))) k 401 (tkb k bt i + 1)) else tkb k bt i
theorem tkb_AV {k : Nat} {bt : Nat → Nat} {i : Nat} (hk : k < 401) (h : i ≤ k) : AV (fun j => bl (bt j)) k i (tkb k bt i) := adv_AV _ _ h (by omega)
theorem tkb_le {k : Nat} {bt : Nat → Nat} {i : Nat} (hk : k < 401) (h : i ≤ k) : i ≤ tkb k bt i ∧ tkb k bt i ≤ k := ⟨(tkb_AV hk h).1, (tkb_AV hk h).2.1⟩
theorem tke_AV {k : Nat} {bt : Nat → Nat} {i : Nat} (hk : k < 401) (h : i ≤ k) (hb : tkb k bt i < k) (h3 : ¬ kd (bt (tkb k bt i)) = 3) : AV (fun j => kd (bt j) == kd (bt (tkb k bt i))) k (tkb k bt i + 1) (tke k bt i) := by
  unfold tke
  rw [if_pos hb, if_neg h3]
  exact adv_AV _ _ (by omega) (by omega)
theorem tke_le {k : Nat} {bt : Nat → Nat} {i : Nat} (hk : k < 401) (h : i ≤ k) : tkb k bt i ≤ tke k bt i ∧ tke k bt i ≤ k ∧ (tkb k bt i < k → tkb k bt i < tke k bt i) := by
  have h1 := tkb_le (bt := bt) hk h
  by_cases hb : tkb k bt i < k
  · by_cases h3 : kd (bt (tkb k bt i)) = 3
    · have : tke k bt i = tkb k bt i + 1 := by unfold tke; rw [if_pos hb, if_pos h3]
      omega
    · have := tke_AV hk h hb h3
      have a := this.1
      have b := this.2.1
      omega
  · have : tke k bt i = tkb k bt i := by unfold tke; rw [if_neg hb]
    omega
theorem kd_r (b : Nat) : kd b = 1 ∨ kd b = 2 ∨ kd b = 3 := by
  unfold kd
  by_cases h : 97 ≤ b ∧ b ≤ 122
  · rw [if_pos h]; exact Or.inl rfl
  · rw [if_neg h]
    by_cases g : 48 ≤ b ∧ b ≤ 57
    · rw [if_pos g]; exact Or.inr (Or.inl rfl)
    · rw [if_neg g]; exact Or.inr (Or.inr rfl)
theorem tke_kd {k : Nat} {bt : Nat → Nat} {i : Nat} (hk : k < 401) (h : i ≤ k) (hb : tkb k bt i < k) : ∀ j, tkb k bt i ≤ j → j < tke k bt i → kd (bt j) = kd (bt (tkb k bt i)) := by
  intro j h1 h2
  by_cases e : j = tkb k bt i
  · rw [e]
  by_cases h3 : kd (bt (tkb k bt i)) = 3
  · have : tke k bt i = tkb k bt i + 1 := by unfold tke; rw [if_pos hb, if_pos h3]
    omega
  · have := (tke_AV hk h hb h3).2.2.1 j (by omega) h2
    exact eq_of_beq this
/-- digits as a number, 1000 at most -/
def vl (bt : Nat → Nat) (b : Nat) : Nat → Nat
  | 0 => 0
  | m + 1 => Nat.min 1000 (10 * vl bt b m + bt (b + m) - 48)
theorem vl_le {bt : Nat → Nat} {b : Nat} : ∀ m, vl bt b m ≤ 1000
  | 0 => Nat.zero_le _
  | _ + 1 => Nat.min_le_left _ _
