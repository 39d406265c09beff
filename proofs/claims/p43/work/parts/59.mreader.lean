/-! the reference reads a text, the end -/
theorem plines_in {k : Nat} {bt : Nat → Nat} {N : Nat} (h1 : 1 ≤ N) (h9 : N < 10) : ∀ {f c p : Nat} {w : Nat → Nat → Nat} {v : Nat × Nat × (Nat → Nat → Nat)}, WF N w → 2 * c = dcn N w → plines k bt N f w c p = .inr v → WF N v.2.2 ∧ 2 * v.2.1 = dcn N v.2.2 ∧ v.2.1 ≤ 30
  | 0, c, p, w, v, _, _, h => by cases h
  | f + 1, c, p, w, v, hw, hc, h => by
    unfold plines at h
    cases e : pline k bt N w c (tke k bt p) with
    | inl q => rw [sbn_l e] at h; cases h
    | inr r =>
      rw [sbn_r e] at h
      obtain ⟨hc30, a, b, x, ha, hb, hab, hx1, hx9, h0, er⟩ := pline_in e
      have hw2 : WF N r.2 := by rw [er]; exact hw.set (by omega) (by omega) hab (by omega)
      have hc2 : 2 * (c + 1) = dcn N r.2 := by
        rw [er, dcn_add (by omega) (by omega) h9 hab h0 (by rw [hw.2.1]; exact h0) (by omega)]
        omega
      by_cases s44 : sgn k bt 44 r.1 = true
      · rw [if_pos s44] at h
        exact plines_in h1 h9 hw2 hc2 h
      · rw [if_neg s44] at h
        have h := Sum.inr.inj h
        subst h
        exact ⟨hw2, hc2, by show c + 1 ≤ 30; omega⟩
theorem plns_in {k : Nat} {bt : Nat → Nat} {N p : Nat} {v : Nat × Nat × (Nat → Nat → Nat)} (h1 : 1 ≤ N) (h9 : N < 10) (h : plns k bt N p = .inr v) : WF N v.2.2 ∧ 2 * v.2.1 = dcn N v.2.2 ∧ v.2.1 ≤ 30 := by
  have z : dcn N (fun _ _ => 0) = 0 := by
    unfold dcn
    refine sm_zero (fun i _ => ?_)
    rw [nr_0, cnt_0]
  unfold plns at h
  cases e : (if sgn k bt 58 p = true then plines k bt N 31 (fun _ _ => 0) 0 p else .inr (p, 0, fun _ _ => 0) : (Nat × Nat) ⊕ (Nat × Nat × (Nat → Nat → Nat))) with
  | inl f => rw [sbn_l e] at h; cases h
  | inr r =>
    rw [sbn_r e] at h
    have hr : WF N r.2.2 ∧ 2 * r.2.1 = dcn N r.2.2 ∧ r.2.1 ≤ 30 := by
      by_cases s58 : sgn k bt 58 p = true
      · rw [if_pos s58] at e
        exact plines_in h1 h9 WF.z (by rw [z]) e
      · rw [if_neg s58] at e
        have e := Sum.inr.inj e
        subst e
        exact ⟨WF.z, z.symm, by show 0 ≤ 30; omega⟩
    by_cases s59 : sgn k bt 59 r.1 = true
    · rw [if_pos s59] at h
      have h := Sum.inr.inj h
      subst h
      exact hr
    · rw [if_neg s59] at h
      cases h
/-- how many of the first m digits are new -/
def dnew (bt : Nat → Nat) (b N : Nat) : Nat → Prop
  | 0 => True
  | m + 1 => dnew bt b N m ∧ bt (b + m) - 48 < N ∧ (dm bt b m).testBit (bt (b + m) - 48) = false
theorem dnew_cnt {bt : Nat → Nat} {b N : Nat} : ∀ {m : Nat}, dnew bt b N m → (∀ i, i < m → bt (b + i) - 48 < N) ∧ cnt (dm bt b m) N = m
  | 0, _ => ⟨fun i hi => by omega, cnt_0 N⟩
  | m + 1, h => by
    obtain ⟨h1, h2, h3⟩ := h
    obtain ⟨a1, a2⟩ := dnew_cnt h1
    refine ⟨fun i hi => ?_, ?_⟩
    · by_cases e : i = m
      · rw [e]; exact h2
      · exact a1 i (by omega)
    · show cnt (dm bt b m ||| 2 ^ (bt (b + m) - 48)) N = m + 1
      rw [cnt_or h3, a2, if_pos h2]
theorem cnt_dup {S q : Nat} (h : S.testBit q = true) : S ||| 2 ^ q = S := by
  apply Nat.eq_of_testBit_eq
  intro k
  rw [Nat.testBit_or, pow_bit]
  by_cases e : q = k
  · subst e; rw [h]; rfl
  · simp [e]
theorem cnt_dm {bt : Nat → Nat} {b N : Nat} : ∀ {m : Nat}, cnt (dm bt b m) N ≤ m
  | 0 => by show cnt 0 N ≤ 0; rw [cnt_0]; exact Nat.le_refl 0
  | m + 1 => by
    have h1 := cnt_dm (bt := bt) (b := b) (N := N) (m := m)
    show cnt (dm bt b m ||| 2 ^ (bt (b + m) - 48)) N ≤ m + 1
    cases e : (dm bt b m).testBit (bt (b + m) - 48)
    · rw [cnt_or e]
      split <;> omega
    · rw [cnt_dup e]
      omega
theorem cnt_dnew {bt : Nat → Nat} {b N : Nat} : ∀ {m : Nat}, (∀ i, i < m → bt (b + i) - 48 < N) → cnt (dm bt b m) N = m → dnew bt b N m
  | 0, _, _ => trivial
  | m + 1, h, e => by
    have h1 := cnt_dm (bt := bt) (b := b) (N := N) (m := m)
    have e : cnt (dm bt b m ||| 2 ^ (bt (b + m) - 48)) N = m + 1 := e
    cases e2 : (dm bt b m).testBit (bt (b + m) - 48)
    · rw [cnt_or e2, if_pos (h m (by omega))] at e
      exact ⟨cnt_dnew (fun i hi => h i (by omega)) (by omega), h m (by omega), e2⟩
    · rw [cnt_dup e2] at e
      omega
theorem full_cnt {S N : Nat} (h : S < 2 ^ N) : cnt S N = N ↔ S = 2 ^ N - 1 := by
  constructor
  · intro e
    have h1 := cnt_full e
    refine bit_ext h (by have := Nat.two_pow_pos N; omega) (fun k hk => ?_)
    rw [h1 k hk, Nat.testBit_two_pow_sub_one]
    simp [hk]
  · rintro rfl
    refine cnt_all (fun p hp => ?_)
    rw [Nat.testBit_two_pow_sub_one]
    simp [hp]
theorem digs_iff {k : Nat} {bt : Nat → Nat} {N p : Nat} (h9 : N < 10) : digs k bt N p = true ↔ (tke k bt p = tkb k bt p + N ∧ dnew bt (tkb k bt p) N N) := by
  unfold digs
  rw [decide_eq_true_iff]
  constructor
  · rintro ⟨h1, h2, h3⟩
    exact ⟨h1, cnt_dnew h2 ((full_cnt (dm_lt (by omega) h2)).mpr h3)⟩
  · rintro ⟨h1, h2⟩
    obtain ⟨a1, a2⟩ := dnew_cnt h2
    exact ⟨h1, a1, (full_cnt (dm_lt (by omega) a1)).mp a2⟩
theorem dnew_dec {bt : Nat → Nat} {b N : Nat} : ∀ m, dnew bt b N m ∨ ¬ dnew bt b N m := fun m => Classical.em _
/-- the reference's row of slot s -/
def RO (s n : Nat) (o : Nat → Nat) (t : St) : Prop := ∀ i, i < 9 → t 150 (91 * s + 82 + i) = nI (if i < n then o i else 0)
theorem m_puts {s i v : Nat} {t : St} (hs : s < 3) (hi : i < 9) {Q : Unit → St → Prop} (q : Q () (wr t 150 (91 * s + 82 + i) (nI v))) : Ok (FX12_puts (nI s) (nI i) (nI v) t) Q := by
  refine (xX12_puts hs hi).mono ?_
  rintro _ _ rfl
  exact q
