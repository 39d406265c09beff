/-! the reference: small ones, greedy rows, minors (wip/ext/g35.py) -/
theorem rX12_octet {t : St} (hT : TY t) {a : Int32} : Ok (FX12_octet a t) (fun r u => t = u ∧ True) := by
  unfold FX12_octet
  obtain ⟨n, hn, en⟩ := hT.rd ty_m25 (by omega)
  refine Ok.rd (fun v1 h1 => ?_)
  rw [en] at h1
  subst h1
  refine Ok.bd _ (rX12_in hT) ?_
  rintro v _ ⟨rfl, -, hv⟩
  refine Ok.ite (fun _ => Ok.ret ⟨rfl, True.intro⟩) (fun c => ?_)
  have h2 : (nI n - 1).toInt64.toInt = (n : Int) - 1 := by
    rw [Int32.toInt_toInt64, li_1, Int32.toInt_sub, nI_toInt (by omega), nI_toInt (by omega)]
    simp only [Int.bmod]
    omega
  have h3 := hv.resolve_left c
  rw [h2] at h3
  obtain ⟨k, hk, rfl⟩ := in_R (m := 400) ⟨h3.1, Int.le_refl _⟩ (by decide) (by omega)
  refine Ok.ck (inb_n (by omega) (by omega)) (fun g => Ok.rd (fun v hv => ?_))
  exact Ok.ret ⟨rfl, True.intro⟩
theorem rX12_isAt {t : St} (hT : TY t) {a b : Int32} : Ok (FX12_isAt a b t) (fun r u => t = u ∧ (isb r = true ∧ (r = 0 ∨ ∃ i n, t 149 8 = nI i ∧ t 149 5 = nI n ∧ i < n ∧ n < 401 ∧ a.toInt ≤ (t 153 i).toInt ∧ (t 153 i).toInt ≤ b.toInt))) := by
  unfold FX12_isAt
  obtain ⟨i, hi, ei⟩ := hT.rd ty_m8 (by omega)
  obtain ⟨n, hn, en⟩ := hT.rd ty_m5 (by omega)
  refine Ok.rd (fun v1 h1 => Ok.rd (fun v3 h3 => ?_))
  rw [ei] at h1
  rw [en] at h3
  subst h1 h3
  refine Ok.ite (fun _ => Ok.ret ⟨rfl, rfl, Or.inl rfl⟩) (fun c => ?_)
  rw [nI_leP (by omega) (by omega)] at c
  refine Ok.rd (fun v7 h7 => ?_)
  rw [ei] at h7
  subst h7
  refine Ok.ck (inb_n (by omega) (by omega)) (fun g => Ok.rd (fun v10 h10 => ?_))
  rw [nI_cl (by omega)] at h10
  subst h10
  refine Ok.bd _ (rX12_in hT) ?_
  rintro v _ ⟨rfl, -, hv⟩
  refine Ok.ite (fun _ => Ok.ret ⟨rfl, rfl, Or.inl rfl⟩) (fun c2 => ?_)
  have h := hv.resolve_left c2
  simp only [Int32.toInt_toInt64] at h
  exact Ok.ret ⟨rfl, rfl, Or.inr ⟨i, n, ei, en, by omega, hn, h⟩⟩
theorem xX12_has {t : St} {S j : Nat} (hS : S < 2147483648) (hj : j < 32) : Ok (FX12_has (nI S) (nI j) t) (fun r u => t = u ∧ r = nI (S.testBit j).toNat) := by
  unfold FX12_has
  rw [bit_n hS hj]
  refine Ok.ite (fun c => ?_) (fun c => ?_)
  · rw [c]
    exact Ok.ret ⟨rfl, rfl⟩
  · refine Ok.ret ⟨rfl, ?_⟩
    cases h : S.testBit j
    · rfl
    · rw [h] at c
      exact absurd rfl c
theorem cnt_le {S : Nat} : ∀ {n : Nat}, cnt S n ≤ n
  | 0 => Nat.le_refl _
  | n + 1 => by
    rw [cnt]
    have := cnt_le (S := S) (n := n)
    cases S.testBit n <;> simp <;> omega
theorem cnt_full {S : Nat} : ∀ {n : Nat}, cnt S n = n → ∀ p, p < n → S.testBit p = true
  | 0, _, p, hp => absurd hp (by omega)
  | n + 1, h, p, hp => by
    rw [cnt] at h
    have := cnt_le (S := S) (n := n)
    cases hb : S.testBit n
    · rw [hb] at h
      simp at h
      omega
    · rw [hb] at h
      by_cases e : p = n
      · rw [e]; exact hb
      · exact cnt_full (by simp at h; omega) p (by omega)
theorem cnt_0 (m : Nat) : cnt 0 m = 0 := by
  induction m with
  | zero => rfl
  | succ m ih => rw [cnt, ih]; simp
/-- only the row that is looked at has changed -/
def OX (t u : St) : Prop := TY u ∧ ∀ b, b ≠ 154 → u b = t b
theorem nX12_greedy {σ t : St} (hG : GM σ t) {a b : Int32} : Ok (FX12_greedy a b t) (fun r u => GM σ u ∧ True) := by
  unfold FX12_greedy
  refine Ok.bd _ (rX12_isNet hG.tt) ?_
  rintro v _ ⟨rfl, -, hv⟩
  refine Ok.ite (fun _ => Ok.ret ⟨hG, True.intro⟩) (fun c => ?_)
  obtain ⟨⟨s, hs, rfl⟩, n, en, hn, -⟩ := hv.resolve_left c
  rw [nI_cl (by omega)] at en
  clear hv c
  refine Ok.bd _ (rX12_isMeasure hG.tt) ?_
  rintro v _ ⟨rfl, -, -⟩
  refine Ok.ite (fun _ => Ok.ret ⟨hG, True.intro⟩) (fun _ => ?_)
  refine Ok.ite (fun _ => Ok.ret ⟨hG, True.intro⟩) (fun _ => ?_)
  refine Ok.bd (fun _ u => OD t n u) ?_ ?_
  · refine Ok.loop (fun k c u => OX t u ∧ ∃ S i, c = (nI S, nI i) ∧ S < 512 ∧ cnt S n = i ∧ i ≤ n ∧ k = 9 - i ∧ ∀ p, S.testBit p = true → ∃ k, k < i ∧ u 154 k = nI p) ?_ 9 _ _ ⟨⟨hG.tt, fun _ _ => rfl⟩, 0, 0, rfl, by omega, cnt_0 n, by omega, rfl, fun p hp => by simp at hp⟩
    intro k c u hI
    obtain ⟨⟨hT, hu⟩, S, i, rfl, hS, hc, hi, rfl, hrow⟩ := hI
    have en' : u 150 (91 * s) = nI n := by rw [hu 150 (by decide)]; exact en
    unfold SX12_greedy_28
    dsimp only
    refine Ok.bd _ (xX12_points hT hs) ?_
    rintro _ _ ⟨rfl, rfl⟩
    rw [en']
    refine Ok.ite (fun c1 => ?_) (fun c1 => ?_)
    · rw [nI_leP (by omega) (by omega)] at c1
      have hin : i = n := by omega
      refine Ok.ret ⟨hT, hu, fun p hp => ?_⟩
      obtain ⟨k, hk, e⟩ := hrow p (cnt_full (hc.trans hin) p hp)
      exact ⟨k, by omega, e⟩
    rw [nI_leP (by omega) (by omega)] at c1
    refine Ok.bd (fun v w => u = w ∧ ∃ q, q < n ∧ v = nI q ∧ S.testBit q = false) ?_ ?_
    · refine Ok.loop (fun k c w => u = w ∧ ∃ j, c.2 = nI j ∧ j ≤ n ∧ k = 9 - j ∧ ((c.1 = -1 ∧ ∀ p, p < j → S.testBit p = true) ∨ ∃ q, q < n ∧ c.1 = nI q ∧ S.testBit q = false)) ?_ 9 _ _ ⟨rfl, 0, rfl, by omega, rfl, Or.inl ⟨rfl, fun p hp => absurd hp (by omega)⟩⟩
      intro k c w hI
      obtain ⟨rfl, j, ej, hj, rfl, hd⟩ := hI
      obtain ⟨c0, c2⟩ := c
      dsimp only at ej hd
      subst ej
      unfold SX12_greedy_44
      dsimp only
      refine Ok.bd _ (xX12_points hT hs) ?_
      rintro _ _ ⟨rfl, rfl⟩
      rw [en']
      refine Ok.ite (fun c3 => ?_) (fun c3 => ?_)
      · rw [nI_leP (by omega) (by omega)] at c3
        refine Ok.ret ⟨rfl, ?_⟩
        rcases hd with ⟨-, hall⟩ | h
        · have := cnt_all (S := S) (n := n) (fun p hp => hall p (by omega))
          omega
        · exact h
      · rw [nI_leP (by omega) (by omega)] at c3
        refine Ok.bd _ (xX12_has (by omega) (by omega)) ?_
        rintro _ _ ⟨rfl, rfl⟩
        refine Ok.bd (fun v w => u = w ∧ ((v = -1 ∧ ∀ p, p < j + 1 → S.testBit p = true) ∨ ∃ q, q < n ∧ v = nI q ∧ S.testBit q = false)) ?_ ?_
        · cases hb : S.testBit j
          · refine Ok.ite (fun _ => ?_) (fun c4 => absurd rfl c4)
            refine Ok.ite (fun _ => Ok.ret ⟨rfl, Or.inr ⟨j, by omega, rfl, hb⟩⟩) (fun c5 => ?_)
            obtain ⟨q, hq, rfl, hqb⟩ := hd.resolve_left (fun h => c5 h.1)
            refine Ok.bd _ (rX12_cost hT ⟨s, hs, rfl⟩ ⟨j, by omega, rfl⟩) ?_
            rintro v29 _ ⟨rfl, -⟩
            refine Ok.bd _ (rX12_cost hT ⟨s, hs, rfl⟩ ⟨q, by omega, rfl⟩) ?_
            rintro v32 _ ⟨rfl, -⟩
            exact Ok.ite (fun _ => Ok.ret ⟨rfl, Or.inr ⟨q, hq, rfl, hqb⟩⟩) (fun _ => Ok.ret ⟨rfl, Or.inr ⟨j, by omega, rfl, hb⟩⟩)
          · refine Ok.ite (fun c4 => absurd c4 (by decide)) (fun _ => ?_)
            refine Ok.ret ⟨rfl, ?_⟩
            rcases hd with ⟨h1, hall⟩ | h
            · refine Or.inl ⟨h1, fun p hp => ?_⟩
              by_cases e : p = j
              · rw [e]; exact hb
              · exact hall p (by omega)
            · exact Or.inr h
        · rintro v _ ⟨rfl, hv⟩
          exact Ok.ret ⟨9 - (j + 1), by omega, rfl, j + 1, nI_1 j, by omega, rfl, hv⟩
    · rintro _ _ ⟨rfl, q, hq, rfl, hb⟩
      refine Ok.ck (inb_n (by omega) (by omega)) (fun g2 => ?_)
      refine Ok.wr (fun w ew => ?_)
      rw [nI_cl (by omega)] at ew
      refine Ok.ret ⟨9 - (i + 1), by omega, ⟨?_, fun b hb => ?_⟩, S ||| 2 ^ q, i + 1, ?_, or9 hS (pw9 (by omega)), ?_, by omega, rfl, fun p hp => ?_⟩
      · rw [ew]
        exact hT.wr (Or.inr (by rw [ty_a154 (by omega)]; exact ⟨q, by omega, rfl⟩))
      · rw [ew, wr_off b hb]
        exact hu b hb
      · rw [shl_1 (by omega), nI_or, nI_1]
      · rw [cnt_or hb, if_pos hq, hc]
      · rw [Nat.testBit_or, Nat.testBit_two_pow] at hp
        rw [ew, wr_at]
        by_cases e : q = p
        · exact ⟨i, by omega, by rw [pk_us, e]⟩
        · have hp' : S.testBit p = true := by simpa [e] using hp
          obtain ⟨k, hk, h⟩ := hrow p hp'
          exact ⟨k, by omega, by rw [pk_un (by omega)]; exact h⟩
  · rintro _ u hu
    have hGu := hu.gm hG
    refine Ok.bd _ (nX12_takesRow hGu hs (hu.pts en) hn hu.2.2) ?_
    rintro _ w ⟨hw, -⟩
    refine Ok.bd _ (rX12_valueOf hw.tt ⟨s, hs, rfl⟩) ?_
    rintro v50 _ ⟨rfl, -⟩
    exact Ok.ret ⟨hw, True.intro⟩
theorem xX12_ones {t : St} {a : Int32} : Ok (FX12_ones a t) (fun _ u => t = u) := by
  unfold FX12_ones
  refine Ok.bd (fun _ u => t = u) ?_ (fun _ _ h => Ok.ret h)
  refine Ok.loop (fun k c s => t = s ∧ k = c.2.toBitVec.toNat) ?_ _ _ _ ⟨rfl, rfl⟩
  intro k c s hI
  obtain ⟨rfl, rfl⟩ := hI
  unfold SX12_ones_4
  refine Ok.ite (fun _ => Ok.ret rfl) (fun c1 => Ok.ret ⟨_, nd_dec c1, rfl, rfl⟩)
/-- of a set the one with the fewest: none only where the set has no bit -/
theorem xX12_fewestOf {t : St} {a : Int32} : Ok (FX12_fewestOf a t) (fun r u => t = u ∧ ((r = -1 ∧ ∀ p, p < 9 → ¬ shr a (nI p) &&& 1 = 1) ∨ ∃ q, q < 9 ∧ r = nI q ∧ shr a (nI q) &&& 1 = 1)) := by
  unfold FX12_fewestOf
  refine Ok.bd (fun r u => t = u ∧ ((r = -1 ∧ ∀ p, p < 9 → ¬ shr a (nI p) &&& 1 = 1) ∨ ∃ q, q < 9 ∧ r = nI q ∧ shr a (nI q) &&& 1 = 1)) ?_ (fun _ _ h => Ok.ret h)
  refine Ok.loop (fun k c u => t = u ∧ ∃ j, c.2 = nI j ∧ j ≤ 9 ∧ k = 9 - j ∧ ((c.1 = -1 ∧ ∀ p, p < j → ¬ shr a (nI p) &&& 1 = 1) ∨ ∃ q, q < 9 ∧ c.1 = nI q ∧ shr a (nI q) &&& 1 = 1)) ?_ 9 _ _ ⟨rfl, 0, rfl, by omega, rfl, Or.inl ⟨rfl, fun p hp => absurd hp (by omega)⟩⟩
  intro k c u hI
  obtain ⟨rfl, j, ej, hj, rfl, hd⟩ := hI
  obtain ⟨c0, c2⟩ := c
  dsimp only at ej hd
  subst ej
  unfold SX12_fewestOf_4
  dsimp only
  refine Ok.ite (fun c3 => ?_) (fun c3 => ?_)
  · rw [li_9, nI_leP (by omega) (by omega)] at c3
    refine Ok.ret ⟨rfl, ?_⟩
    rcases hd with ⟨h1, hall⟩ | h
    · exact Or.inl ⟨h1, fun p hp => hall p (by omega)⟩
    · exact Or.inr h
  rw [li_9, nI_leP (by omega) (by omega)] at c3
  refine Ok.bd (fun v u => t = u ∧ ((v = 1 ∧ shr a (nI j) &&& 1 = 1) ∨ (v = 0 ∧ ¬ shr a (nI j) &&& 1 = 1))) ?_ ?_
  · unfold FX12_has
    exact Ok.ite (fun c => Ok.ret ⟨rfl, Or.inl ⟨rfl, c⟩⟩) (fun c => Ok.ret ⟨rfl, Or.inr ⟨rfl, c⟩⟩)
  rintro v _ ⟨rfl, hv⟩
  refine Ok.bd (fun v u => t = u ∧ ((v = -1 ∧ ∀ p, p < j + 1 → ¬ shr a (nI p) &&& 1 = 1) ∨ ∃ q, q < 9 ∧ v = nI q ∧ shr a (nI q) &&& 1 = 1)) ?_ ?_
  · refine Ok.ite (fun c4 => ?_) (fun c4 => ?_)
    · have hn := (hv.resolve_left (fun h => absurd (h.1.symm.trans c4) (by decide))).2
      refine Ok.ret ⟨rfl, ?_⟩
      rcases hd with ⟨h1, hall⟩ | h
      · refine Or.inl ⟨h1, fun p hp => ?_⟩
        by_cases e : p = j
        · rw [e]; exact hn
        · exact hall p (by omega)
      · exact Or.inr h
    · have hy := (hv.resolve_right (fun h => c4 h.1)).2
      refine Ok.ite (fun _ => Ok.ret ⟨rfl, Or.inr ⟨j, by omega, rfl, hy⟩⟩) (fun c5 => ?_)
      obtain ⟨q, hq, rfl, hqb⟩ := hd.resolve_left (fun h => c5 h.1)
      refine Ok.ck (inb_n (by omega) (by omega)) (fun _ => Ok.rd (fun v12 _ => ?_))
      refine Ok.bd (fun _ u => t = u) ?_ ?_
      · exact xX12_ones
      rintro v14 _ rfl
      refine Ok.ck (inb_n (by omega) (by omega)) (fun _ => Ok.rd (fun v18 _ => ?_))
      refine Ok.bd (fun _ u => t = u) ?_ ?_
      · exact xX12_ones
      rintro v20 _ rfl
      exact Ok.ite (fun _ => Ok.ret ⟨rfl, Or.inr ⟨q, hq, rfl, hqb⟩⟩) (fun _ => Ok.ret ⟨rfl, Or.inr ⟨j, by omega, rfl, hy⟩⟩)
  · rintro v _ ⟨rfl, hv⟩
    exact Ok.ret ⟨9 - (j + 1), by omega, rfl, j + 1, nI_1 j, by omega, rfl, hv⟩
theorem bit_g {x : Int32} {k : Nat} (hk : k < 32) : (shr x (nI k) &&& 1 = 1) ↔ x.toBitVec.getLsbD k = true := by
  have e : (shr x (nI k)).toBitVec = x.toBitVec.sshiftRight k := by
    show (x >>> (nI k &&& 31)).toBitVec = _
    rw [Int32.toBitVec_shiftRight, shl_31 hk]
    show x.toBitVec.sshiftRight (BitVec.ofNat 32 k).toNat = _
    congr 1
    show k % 4294967296 = k
    omega
  rw [← Int32.toBitVec_inj, Int32.toBitVec_and, e]
  have e1 : (1 : Int32).toBitVec = 1#32 := rfl
  rw [e1]
  have hb : (x.toBitVec.sshiftRight k).getLsbD 0 = x.toBitVec.getLsbD k := by
    rw [BitVec.getLsbD_sshiftRight]
    simp [hk]
  constructor
  · intro h
    have := congrArg (fun b => b.getLsbD 0) h
    simp only [BitVec.getLsbD_and, hb] at this
    simpa using this
  · intro h
    apply BitVec.eq_of_getLsbD_eq
    intro i hi
    rw [BitVec.getLsbD_and]
    by_cases q : i = 0
    · subst q
      rw [hb, h]
      rfl
    · have : (1#32).getLsbD i = false := by
        rw [BitVec.getLsbD_one]
        simp [q]
      rw [this, Bool.and_false]
theorem bit_and {x y : Int32} {k : Nat} (hk : k < 32) (h : shr (x &&& y) (nI k) &&& 1 = 1) : shr x (nI k) &&& 1 = 1 := by
  rw [bit_g hk, Int32.toBitVec_and, BitVec.getLsbD_and] at h
  rw [bit_g hk]
  simp at h
  exact h.1
theorem bit_clr {S p : Nat} (hS : S < 512) (hp : p < 9) (hb : S.testBit p = true) : ∃ T, T < S ∧ nI S &&& (shl 1 (nI p) ^^^ -1) = nI T := by
  have e : (-1 : Int32) = nI 4294967295 := rfl
  rw [shl_1 (by omega), e, nI_xor, nI_and]
  refine ⟨_, ?_, rfl⟩
  have h1 := Nat.and_le_left (n := S) (m := 2 ^ p ^^^ 4294967295)
  have h2 : S &&& (2 ^ p ^^^ 4294967295) ≠ S := fun q => by
    have := congrArg (fun b => b.testBit p) q
    simp only [Nat.testBit_and, Nat.testBit_xor, hb] at this
    have e2 : (4294967295 : Nat).testBit p = true := by
      rcases (show p = 0 ∨ p = 1 ∨ p = 2 ∨ p = 3 ∨ p = 4 ∨ p = 5 ∨ p = 6 ∨ p = 7 ∨ p = 8 by omega) with rfl | rfl | rfl | rfl | rfl | rfl | rfl | rfl | rfl <;> decide
    rw [e2, Nat.testBit_two_pow] at this
    simp at this
  omega
theorem nX12_minor {σ t : St} (hG : GM σ t) {a : Int32} : Ok (FX12_minor a t) (fun r u => GM σ u ∧ True) := by
  unfold FX12_minor
  refine Ok.bd _ (rX12_isNet hG.tt) ?_
  rintro v _ ⟨rfl, -, hv⟩
  refine Ok.ite (fun _ => Ok.ret ⟨hG, True.intro⟩) (fun c => ?_)
  obtain ⟨⟨s, hs, rfl⟩, -⟩ := hv.resolve_left c
  clear hv c
  refine Ok.bd (fun _ u => GM σ u) ?_ ?_
  · refine Ok.loop (fun k c u => GM σ u ∧ ∃ j, c = nI j ∧ j ≤ 9 ∧ k = 9 - j) ?_ 9 _ _ ⟨hG, 0, rfl, by omega, rfl⟩
    clear hG
    intro k c u hI
    obtain ⟨hG, j, rfl, hj, rfl⟩ := hI
    unfold SX12_minor_13
    refine Ok.bd _ (rX12_points hG.tt ⟨s, hs, rfl⟩) ?_
    rintro _ _ ⟨rfl, n, hn, rfl⟩
    refine Ok.ite (fun _ => Ok.ret hG) (fun c1 => ?_)
    rw [nI_leP (by omega) (by omega)] at c1
    refine Ok.bd _ (rX12_nearOf hG.tt ⟨s, hs, rfl⟩ ⟨j, by omega, rfl⟩) ?_
    rintro v9 _ ⟨rfl, -⟩
    refine Ok.ck (inb_n (by omega) (by omega)) (fun _ => Ok.wr (fun w ew => ?_))
    exact Ok.ret ⟨9 - (j + 1), by omega, hG.wrU ew (by omega) ty_u160, j + 1, nI_1 j, by omega, rfl⟩
  clear hG
  rintro _ t hG
  refine Ok.bd _ (rX12_points hG.tt ⟨s, hs, rfl⟩) ?_
  rintro _ _ ⟨rfl, n, hn, rfl⟩
  refine Ok.bd (fun _ u => GM σ u) ?_ (fun _ _ h => Ok.ret ⟨h, True.intro⟩)
  refine Ok.loop (fun k c u => GM σ u ∧ ∃ S, c.2 = nI S ∧ S < 512 ∧ k = S) ?_ (2 ^ n - 1) _ _ ⟨hG, 2 ^ n - 1, ?_, ?_, rfl⟩
  rotate_left
  · have := Nat.two_pow_pos n
    rw [shl_1 (by omega), li_1, nI_sub (by omega)]
  · have := pow9 (k := n) (by omega)
    have := Nat.two_pow_pos n
    omega
  clear hG
  intro k c u hI
  obtain ⟨hG, S, eS, hS, rfl⟩ := hI
  obtain ⟨c0, c1⟩ := c
  dsimp only at eS
  subst eS
  unfold SX12_minor_52
  dsimp only
  refine Ok.ite (fun _ => Ok.ret hG) (fun c2 => ?_)
  refine Ok.bd _ xX12_fewestOf ?_
  rintro v23 _ ⟨rfl, h23⟩
  obtain ⟨p, hp, rfl, hb⟩ := h23.resolve_left (fun h => by
    apply c2
    rw [li_0]
    congr 1
    apply Nat.eq_of_testBit_eq
    intro i
    rw [Nat.zero_testBit]
    by_cases q : i < 9
    · have h9 := h.2 i q
      rw [bit_n (by omega) (by omega)] at h9
      cases hb : k.testBit i
      · rfl
      · rw [hb] at h9
        exact absurd rfl h9
    · exact Nat.testBit_lt_two_pow (Nat.lt_of_lt_of_le hS (Nat.pow_le_pow_right (n := 2) (by omega) (show 9 ≤ i by omega))))
  have hbS : k.testBit p = true := by
    rw [bit_n (by omega) (by omega)] at hb
    cases h : k.testBit p
    · rw [h] at hb
      exact absurd hb (by decide)
    · rfl
  obtain ⟨T, hTS, eT⟩ := bit_clr hS hp hbS
  rw [eT]
  refine Ok.ck (inb_n (by omega) (by omega)) (fun _ => Ok.rd (fun v27 h27 => ?_))
  rw [nI_cl (by omega)] at h27
  refine Ok.bd _ xX12_fewestOf ?_
  rintro q _ ⟨rfl, hq⟩
  refine Ok.ck (inb_n (by omega) (by omega)) (fun _ => Ok.rd (fun v33 h33 => ?_))
  refine Ok.bd _ xX12_ones ?_
  rintro v35 _ rfl
  refine Ok.bd (fun _ u => GM σ u) ?_ (fun _ w h => Ok.ret ⟨T, hTS, h, T, rfl, by omega, rfl⟩)
  refine Ok.loop (fun k c w => GM σ w ∧ (IsR 9 q ∨ ∀ i, i < 9 → ¬ shr (w 160 p) (nI i) &&& 1 = 1) ∧ ∃ j, c = nI j ∧ j ≤ 9 ∧ k = 9 - j) ?_ 9 _ _ ⟨hG, ?_, 0, rfl, by omega, rfl⟩
  rotate_left
  · rcases hq with ⟨-, h⟩ | ⟨k, hk, e, -⟩
    · rw [h27] at h
      exact Or.inr h
    · exact Or.inl ⟨k, hk, e⟩
  clear hG hq h27 h33
  intro k c w hI
  obtain ⟨hG, hq, j, rfl, hj, rfl⟩ := hI
  unfold SX12_minor_103
  refine Ok.bd _ (rX12_points hG.tt ⟨s, hs, rfl⟩) ?_
  rintro _ _ ⟨rfl, n, hn, rfl⟩
  refine Ok.ite (fun _ => Ok.ret hG) (fun c1 => ?_)
  rw [nI_leP (by omega) (by omega)] at c1
  refine Ok.ck (inb_n (by omega) (by omega)) (fun _ => Ok.rd (fun v43 h43 => ?_))
  rw [nI_cl (by omega)] at h43
  refine Ok.bd (fun v u => w = u ∧ (v = 0 ∨ IsR 9 q)) ?_ ?_
  · unfold FX12_has
    refine Ok.ite (fun c => Ok.ret ⟨rfl, Or.inr ?_⟩) (fun c => Ok.ret ⟨rfl, Or.inl rfl⟩)
    rcases hq with h | h
    · exact h
    · rw [h43] at c
      exact absurd c (h j (by omega))
  rintro v45 _ ⟨rfl, h45⟩
  refine Ok.ck (inb_n (by omega) (by omega)) (fun _ => Ok.rd (fun v49 h49 => ?_))
  rw [nI_cl (by omega)] at h49
  refine Ok.ck (inb_n (by omega) (by omega)) (fun _ => Ok.wr (fun w1 e1 => ?_))
  rw [nI_cl (by omega)] at e1
  have hG1 := hG.wrU e1 (by omega) ty_u160
  have hq1 : IsR 9 q ∨ ∀ i, i < 9 → ¬ shr (w1 160 p) (nI i) &&& 1 = 1 := by
    refine hq.imp id (fun h i hi hb => ?_)
    rw [e1, wr_at] at hb
    by_cases e : p = j
    · subst e
      rw [pk_us, h49] at hb
      exact h i hi (bit_and (by omega) hb)
    · rw [pk_un e] at hb
      exact h i hi hb
  refine Ok.bd (fun _ u => GM σ u ∧ (IsR 9 q ∨ ∀ i, i < 9 → ¬ shr (u 160 p) (nI i) &&& 1 = 1)) ?_ (fun _ u h => Ok.ret ⟨9 - (j + 1), by omega, h.1, h.2, j + 1, nI_1 j, by omega, rfl⟩)
  refine Ok.ite (fun _ => Ok.ret ⟨hG1, hq1⟩) (fun c2 => ?_)
  have hqR := h45.resolve_left c2
  obtain ⟨m, hm, rfl⟩ := hqR
  refine Ok.ite (fun _ => Ok.ret ⟨hG1, hq1⟩) (fun _ => ?_)
  refine Ok.ck (inb_n (by omega) (by omega)) (fun _ => Ok.rd (fun v61 _ => ?_))
  refine Ok.ck (inb_n (by omega) (by omega)) (fun _ => Ok.wr (fun w2 e2 => ?_))
  have hG2 := hG1.wrU e2 (by omega) ty_u160
  refine Ok.ck (inb_n (by omega) (by omega)) (fun _ => Ok.rd (fun v67 _ => ?_))
  refine Ok.ck (inb_n (by omega) (by omega)) (fun _ => Ok.wr (fun w3 e3 => ?_))
  exact Ok.ret ⟨hG2.wrU e3 (by omega) ty_u160, Or.inl ⟨m, hm, rfl⟩⟩
