section
/-! the reference reads a text -/
theorem b_word4 {t : St} (hb : t 149 12 = 1) {Q : Int32 → St → Prop} (q : Q 0 t) : Ok (FX12_isWord_s4 t) Q := by
  unfold FX12_isWord_s4
  refine Ok.rdE hb (Ok.bd (fun r u => t = u ∧ r = 0) (Ok.ifF (by decide) (Ok.ret ⟨rfl, rfl⟩)) ?_)
  rintro _ _ ⟨rfl, rfl⟩
  refine Ok.bd (fun r u => t = u ∧ r = 0) ?_ (by rintro _ _ ⟨rfl, rfl⟩; exact Ok.ckT rfl (Ok.ret q))
  refine Ok.count 0 (fun j c s => c = ((0 : Int32), (0 : Int32)) ∧ t = s) (fun j _ _ h => by omega) ?_ (Nat.zero_le _) ⟨rfl, rfl⟩
  rintro c s ⟨rfl, rfl⟩
  unfold SX12_isWord_s4_39
  exact Ok.ifF (by decide) (Ok.ifT rfl (Ok.ret ⟨rfl, rfl⟩))
theorem m_word4 {k : Nat} {bt : Nat → Nat} {t : St} {p : Nat} (h : RM k bt p t) (hb : t 149 12 = 0) {Q : Int32 → St → Prop} (q1 : wrd k bt 110 101 116 p = true → Q 1 t) (q0 : wrd k bt 110 101 116 p = false → Q 0 t) : Ok (FX12_isWord_s4 t) Q := by
  have hle := h.le
  have hc4 := tkc_lt (k := k) (bt := bt) (p := p)
  unfold FX12_isWord_s4
  refine Ok.rdE hb (Ok.bd (fun r u => t = u ∧ ((r = 1 ∧ tkc k bt p = 1 ∧ tke k bt p = tkb k bt p + 3) ∨ (r = 0 ∧ wrd k bt 110 101 116 p = false))) ?_ ?_)
  · refine Ok.ifT rfl (Ok.rdE h.2.2.2.1 ?_)
    by_cases c1 : tkc k bt p = 1
    · refine Ok.ifT (by rw [c1]; rfl) (Ok.rdE h.2.2.2.2.1 (Ok.rdE h.2.2.1 ?_))
      rw [nI_sub (by omega), li_3]
      refine Ok.cv (nI_eqP (by omega) (by omega)) ?_
      exact Ok.ite (fun c => Ok.ret ⟨rfl, Or.inl ⟨rfl, c1, by omega⟩⟩) (fun c => Ok.ret ⟨rfl, Or.inr ⟨rfl, decide_eq_false (fun a => c (by omega))⟩⟩)
    · exact Ok.ifF (by rw [li_1, nI_eqP (by omega) (by omega)]; exact c1) (Ok.ret ⟨rfl, Or.inr ⟨rfl, decide_eq_false (fun a => c1 a.1)⟩⟩)
  rintro r _ ⟨rfl, ⟨rfl, c1, c3⟩ | ⟨rfl, hw⟩⟩
  · skip
    refine Ok.bd (fun r u => t = u ∧ ((r = 1 ∧ wrd k bt 110 101 116 p = true) ∨ (r = 0 ∧ wrd k bt 110 101 116 p = false))) ?_ ?_
    · refine Ok.count 3 (fun j c s => c.2 = nI j ∧ t = s ∧ ((c.1 = 1 ∧ (0 < j → bt (tkb k bt p) = 110) ∧ (1 < j → bt (tkb k bt p + 1) = 101) ∧ (2 < j → bt (tkb k bt p + 2) = 116)) ∨ (c.1 = 0 ∧ wrd k bt 110 101 116 p = false))) ?_ ?_ (Nat.zero_le _) ⟨rfl, rfl, Or.inl ⟨rfl, fun q => by omega, fun q => by omega, fun q => by omega⟩⟩
      · rintro j ⟨c1', c2'⟩ s hj ⟨rfl, rfl, ⟨rfl, h0, h1, h2⟩ | ⟨rfl, hw⟩⟩
        · unfold SX12_isWord_s4_39
          dsimp only
          have hb3 := h.1.2.2 (tkb k bt p + j) (by omega)
          rw [li_3]
          refine Ok.cv (nI_leP (by omega) (by omega)) ?_
          refine Ok.ifF (by omega) (Ok.ifF (by decide) (Ok.rdE h.2.2.1 ?_))
          rw [nI_add]
          refine Ok.ckT (inb_n (by omega) (by omega)) ?_
          rw [nI_cl (by omega)]
          refine Ok.rdE hb3.2 (Ok.ckT (inb_n hj (by omega)) ?_)
          rcases (show j = 0 ∨ j = 1 ∨ j = 2 by omega) with rfl | rfl | rfl
          · rw [show chr [110, 101, 116] (nI 0) = nI 110 from rfl]
            refine Ok.bd (fun r u => t = u ∧ ((r = 1 ∧ bt (tkb k bt p) = 110) ∨ (r = 0 ∧ ¬ bt (tkb k bt p) = 110))) (Ok.cv (nI_eqP (by omega) (by omega)) (Ok.ite (fun q => Ok.ret ⟨rfl, Or.inl ⟨rfl, q⟩⟩) (fun q => Ok.ret ⟨rfl, Or.inr ⟨rfl, q⟩⟩))) ?_
            rintro r _ ⟨rfl, ⟨rfl, q⟩ | ⟨rfl, q⟩⟩
            · exact Ok.ret ⟨rfl, rfl, Or.inl ⟨rfl, fun _ => q, fun q => by omega, fun q => by omega⟩⟩
            · exact Ok.ret ⟨rfl, rfl, Or.inr ⟨rfl, decide_eq_false (fun a => q a.2.2.1)⟩⟩
          · rw [show chr [110, 101, 116] (nI 1) = nI 101 from rfl]
            refine Ok.bd (fun r u => t = u ∧ ((r = 1 ∧ bt (tkb k bt p + 1) = 101) ∨ (r = 0 ∧ ¬ bt (tkb k bt p + 1) = 101))) (Ok.cv (nI_eqP (by omega) (by omega)) (Ok.ite (fun q => Ok.ret ⟨rfl, Or.inl ⟨rfl, q⟩⟩) (fun q => Ok.ret ⟨rfl, Or.inr ⟨rfl, q⟩⟩))) ?_
            rintro r _ ⟨rfl, ⟨rfl, q⟩ | ⟨rfl, q⟩⟩
            · exact Ok.ret ⟨rfl, rfl, Or.inl ⟨rfl, fun _ => h0 (by omega), fun _ => q, fun q => by omega⟩⟩
            · exact Ok.ret ⟨rfl, rfl, Or.inr ⟨rfl, decide_eq_false (fun a => q a.2.2.2.1)⟩⟩
          · rw [show chr [110, 101, 116] (nI 2) = nI 116 from rfl]
            refine Ok.bd (fun r u => t = u ∧ ((r = 1 ∧ bt (tkb k bt p + 2) = 116) ∨ (r = 0 ∧ ¬ bt (tkb k bt p + 2) = 116))) (Ok.cv (nI_eqP (by omega) (by omega)) (Ok.ite (fun q => Ok.ret ⟨rfl, Or.inl ⟨rfl, q⟩⟩) (fun q => Ok.ret ⟨rfl, Or.inr ⟨rfl, q⟩⟩))) ?_
            rintro r _ ⟨rfl, ⟨rfl, q⟩ | ⟨rfl, q⟩⟩
            · exact Ok.ret ⟨rfl, rfl, Or.inl ⟨rfl, fun _ => h0 (by omega), fun _ => h1 (by omega), fun _ => q⟩⟩
            · exact Ok.ret ⟨rfl, rfl, Or.inr ⟨rfl, decide_eq_false (fun a => q a.2.2.2.2)⟩⟩
        · unfold SX12_isWord_s4_39
          dsimp only
          rw [li_3]
          refine Ok.cv (nI_leP (by omega) (by omega)) ?_
          exact Ok.ifF (by omega) (Ok.ifT rfl (Ok.ret ⟨rfl, Or.inr ⟨rfl, hw⟩⟩))
      · rintro ⟨c1', c2'⟩ s ⟨rfl, rfl, hc⟩
        unfold SX12_isWord_s4_39
        dsimp only at hc ⊢
        rw [li_3]
        refine Ok.cv (nI_leP (by omega) (by omega)) ?_
        refine Ok.ifT (by omega) (Ok.ret ⟨rfl, ?_⟩)
        rcases hc with ⟨rfl, h0, h1, h2⟩ | ⟨rfl, hw⟩
        · exact Or.inl ⟨rfl, decide_eq_true ⟨c1, c3, h0 (by omega), h1 (by omega), h2 (by omega)⟩⟩
        · exact Or.inr ⟨rfl, hw⟩
    · rintro r _ ⟨rfl, ⟨rfl, hw⟩ | ⟨rfl, hw⟩⟩
      · exact Ok.ckT rfl (Ok.ret (q1 hw))
      · exact Ok.ckT rfl (Ok.ret (q0 hw))
  · skip
    refine Ok.bd (fun r u => t = u ∧ r = 0) ?_ (by rintro _ _ ⟨rfl, rfl⟩; exact Ok.ckT rfl (Ok.ret (q0 hw)))
    refine Ok.count 0 (fun j c s => c = ((0 : Int32), (0 : Int32)) ∧ t = s) (fun j _ _ h => by omega) ?_ (Nat.zero_le _) ⟨rfl, rfl⟩
    rintro c s ⟨rfl, rfl⟩
    unfold SX12_isWord_s4_39
    exact Ok.ifF (by decide) (Ok.ifT rfl (Ok.ret ⟨rfl, rfl⟩))
theorem b_word5 {t : St} (hb : t 149 12 = 1) {Q : Int32 → St → Prop} (q : Q 0 t) : Ok (FX12_isWord_s5 t) Q := by
  unfold FX12_isWord_s5
  refine Ok.rdE hb (Ok.bd (fun r u => t = u ∧ r = 0) (Ok.ifF (by decide) (Ok.ret ⟨rfl, rfl⟩)) ?_)
  rintro _ _ ⟨rfl, rfl⟩
  refine Ok.bd (fun r u => t = u ∧ r = 0) ?_ (by rintro _ _ ⟨rfl, rfl⟩; exact Ok.ckT rfl (Ok.ret q))
  refine Ok.count 0 (fun j c s => c = ((0 : Int32), (0 : Int32)) ∧ t = s) (fun j _ _ h => by omega) ?_ (Nat.zero_le _) ⟨rfl, rfl⟩
  rintro c s ⟨rfl, rfl⟩
  unfold SX12_isWord_s5_39
  exact Ok.ifF (by decide) (Ok.ifT rfl (Ok.ret ⟨rfl, rfl⟩))
theorem m_word5 {k : Nat} {bt : Nat → Nat} {t : St} {p : Nat} (h : RM k bt p t) (hb : t 149 12 = 0) {Q : Int32 → St → Prop} (q1 : wrd k bt 114 111 119 p = true → Q 1 t) (q0 : wrd k bt 114 111 119 p = false → Q 0 t) : Ok (FX12_isWord_s5 t) Q := by
  have hle := h.le
  have hc4 := tkc_lt (k := k) (bt := bt) (p := p)
  unfold FX12_isWord_s5
  refine Ok.rdE hb (Ok.bd (fun r u => t = u ∧ ((r = 1 ∧ tkc k bt p = 1 ∧ tke k bt p = tkb k bt p + 3) ∨ (r = 0 ∧ wrd k bt 114 111 119 p = false))) ?_ ?_)
  · refine Ok.ifT rfl (Ok.rdE h.2.2.2.1 ?_)
    by_cases c1 : tkc k bt p = 1
    · refine Ok.ifT (by rw [c1]; rfl) (Ok.rdE h.2.2.2.2.1 (Ok.rdE h.2.2.1 ?_))
      rw [nI_sub (by omega), li_3]
      refine Ok.cv (nI_eqP (by omega) (by omega)) ?_
      exact Ok.ite (fun c => Ok.ret ⟨rfl, Or.inl ⟨rfl, c1, by omega⟩⟩) (fun c => Ok.ret ⟨rfl, Or.inr ⟨rfl, decide_eq_false (fun a => c (by omega))⟩⟩)
    · exact Ok.ifF (by rw [li_1, nI_eqP (by omega) (by omega)]; exact c1) (Ok.ret ⟨rfl, Or.inr ⟨rfl, decide_eq_false (fun a => c1 a.1)⟩⟩)
  rintro r _ ⟨rfl, ⟨rfl, c1, c3⟩ | ⟨rfl, hw⟩⟩
  · skip
    refine Ok.bd (fun r u => t = u ∧ ((r = 1 ∧ wrd k bt 114 111 119 p = true) ∨ (r = 0 ∧ wrd k bt 114 111 119 p = false))) ?_ ?_
    · refine Ok.count 3 (fun j c s => c.2 = nI j ∧ t = s ∧ ((c.1 = 1 ∧ (0 < j → bt (tkb k bt p) = 114) ∧ (1 < j → bt (tkb k bt p + 1) = 111) ∧ (2 < j → bt (tkb k bt p + 2) = 119)) ∨ (c.1 = 0 ∧ wrd k bt 114 111 119 p = false))) ?_ ?_ (Nat.zero_le _) ⟨rfl, rfl, Or.inl ⟨rfl, fun q => by omega, fun q => by omega, fun q => by omega⟩⟩
      · rintro j ⟨c1', c2'⟩ s hj ⟨rfl, rfl, ⟨rfl, h0, h1, h2⟩ | ⟨rfl, hw⟩⟩
        · unfold SX12_isWord_s5_39
          dsimp only
          have hb3 := h.1.2.2 (tkb k bt p + j) (by omega)
          rw [li_3]
          refine Ok.cv (nI_leP (by omega) (by omega)) ?_
          refine Ok.ifF (by omega) (Ok.ifF (by decide) (Ok.rdE h.2.2.1 ?_))
          rw [nI_add]
          refine Ok.ckT (inb_n (by omega) (by omega)) ?_
          rw [nI_cl (by omega)]
          refine Ok.rdE hb3.2 (Ok.ckT (inb_n hj (by omega)) ?_)
          rcases (show j = 0 ∨ j = 1 ∨ j = 2 by omega) with rfl | rfl | rfl
          · rw [show chr [114, 111, 119] (nI 0) = nI 114 from rfl]
            refine Ok.bd (fun r u => t = u ∧ ((r = 1 ∧ bt (tkb k bt p) = 114) ∨ (r = 0 ∧ ¬ bt (tkb k bt p) = 114))) (Ok.cv (nI_eqP (by omega) (by omega)) (Ok.ite (fun q => Ok.ret ⟨rfl, Or.inl ⟨rfl, q⟩⟩) (fun q => Ok.ret ⟨rfl, Or.inr ⟨rfl, q⟩⟩))) ?_
            rintro r _ ⟨rfl, ⟨rfl, q⟩ | ⟨rfl, q⟩⟩
            · exact Ok.ret ⟨rfl, rfl, Or.inl ⟨rfl, fun _ => q, fun q => by omega, fun q => by omega⟩⟩
            · exact Ok.ret ⟨rfl, rfl, Or.inr ⟨rfl, decide_eq_false (fun a => q a.2.2.1)⟩⟩
          · rw [show chr [114, 111, 119] (nI 1) = nI 111 from rfl]
            refine Ok.bd (fun r u => t = u ∧ ((r = 1 ∧ bt (tkb k bt p + 1) = 111) ∨ (r = 0 ∧ ¬ bt (tkb k bt p + 1) = 111))) (Ok.cv (nI_eqP (by omega) (by omega)) (Ok.ite (fun q => Ok.ret ⟨rfl, Or.inl ⟨rfl, q⟩⟩) (fun q => Ok.ret ⟨rfl, Or.inr ⟨rfl, q⟩⟩))) ?_
            rintro r _ ⟨rfl, ⟨rfl, q⟩ | ⟨rfl, q⟩⟩
            · exact Ok.ret ⟨rfl, rfl, Or.inl ⟨rfl, fun _ => h0 (by omega), fun _ => q, fun q => by omega⟩⟩
            · exact Ok.ret ⟨rfl, rfl, Or.inr ⟨rfl, decide_eq_false (fun a => q a.2.2.2.1)⟩⟩
          · rw [show chr [114, 111, 119] (nI 2) = nI 119 from rfl]
            refine Ok.bd (fun r u => t = u ∧ ((r = 1 ∧ bt (tkb k bt p + 2) = 119) ∨ (r = 0 ∧ ¬ bt (tkb k bt p + 2) = 119))) (Ok.cv (nI_eqP (by omega) (by omega)) (Ok.ite (fun q => Ok.ret ⟨rfl, Or.inl ⟨rfl, q⟩⟩) (fun q => Ok.ret ⟨rfl, Or.inr ⟨rfl, q⟩⟩))) ?_
            rintro r _ ⟨rfl, ⟨rfl, q⟩ | ⟨rfl, q⟩⟩
            · exact Ok.ret ⟨rfl, rfl, Or.inl ⟨rfl, fun _ => h0 (by omega), fun _ => h1 (by omega), fun _ => q⟩⟩
            · exact Ok.ret ⟨rfl, rfl, Or.inr ⟨rfl, decide_eq_false (fun a => q a.2.2.2.2)⟩⟩
        · unfold SX12_isWord_s5_39
          dsimp only
          rw [li_3]
          refine Ok.cv (nI_leP (by omega) (by omega)) ?_
          exact Ok.ifF (by omega) (Ok.ifT rfl (Ok.ret ⟨rfl, Or.inr ⟨rfl, hw⟩⟩))
      · rintro ⟨c1', c2'⟩ s ⟨rfl, rfl, hc⟩
        unfold SX12_isWord_s5_39
        dsimp only at hc ⊢
        rw [li_3]
        refine Ok.cv (nI_leP (by omega) (by omega)) ?_
        refine Ok.ifT (by omega) (Ok.ret ⟨rfl, ?_⟩)
        rcases hc with ⟨rfl, h0, h1, h2⟩ | ⟨rfl, hw⟩
        · exact Or.inl ⟨rfl, decide_eq_true ⟨c1, c3, h0 (by omega), h1 (by omega), h2 (by omega)⟩⟩
        · exact Or.inr ⟨rfl, hw⟩
    · rintro r _ ⟨rfl, ⟨rfl, hw⟩ | ⟨rfl, hw⟩⟩
      · exact Ok.ckT rfl (Ok.ret (q1 hw))
      · exact Ok.ckT rfl (Ok.ret (q0 hw))
  · skip
    refine Ok.bd (fun r u => t = u ∧ r = 0) ?_ (by rintro _ _ ⟨rfl, rfl⟩; exact Ok.ckT rfl (Ok.ret (q0 hw)))
    refine Ok.count 0 (fun j c s => c = ((0 : Int32), (0 : Int32)) ∧ t = s) (fun j _ _ h => by omega) ?_ (Nat.zero_le _) ⟨rfl, rfl⟩
    rintro c s ⟨rfl, rfl⟩
    unfold SX12_isWord_s5_39
    exact Ok.ifF (by decide) (Ok.ifT rfl (Ok.ret ⟨rfl, rfl⟩))
/-- slot s of the reference: n points, weights w -/
def RN (s n : Nat) (w : Nat → Nat → Nat) (t : St) : Prop := t 150 (91 * s) = nI n ∧ ∀ a b, a < 9 → b < 9 → t 150 (91 * s + 1 + 9 * a + b) = nI (w a b)
theorem RN.fr {s n : Nat} {w : Nat → Nat → Nat} {t u : St} (h : RN s n w t) (e : u 150 = t 150) : RN s n w u := by
  unfold RN
  rw [e]
  exact h
/-- a net's weights -/
def WF (n : Nat) (w : Nat → Nat → Nat) : Prop := (∀ a b, w a b < 10) ∧ (∀ a b, w a b = w b a) ∧ (∀ a, w a a = 0) ∧ ∀ a b, n ≤ a → w a b = 0
theorem WF.r {n : Nat} {w : Nat → Nat → Nat} (h : WF n w) {a b : Nat} (hb : n ≤ b) : w a b = 0 := by rw [h.2.1]; exact h.2.2.2 b a hb
theorem WF.set {n : Nat} {w : Nat → Nat → Nat} (h : WF n w) {a b v : Nat} (ha : a < n) (hb : b < n) (hab : a ≠ b) (hv : v < 10) : WF n (setw w a b v) := by
  refine ⟨fun p q => ?_, fun p q => ?_, fun p => ?_, fun p q hp => ?_⟩
  · unfold setw
    by_cases c : (p = a ∧ q = b) ∨ (p = b ∧ q = a)
    · rw [if_pos c]; exact hv
    · rw [if_neg c]; exact h.1 p q
  · unfold setw
    by_cases c : (p = a ∧ q = b) ∨ (p = b ∧ q = a)
    · rw [if_pos c, if_pos (by omega)]
    · rw [if_neg c, if_neg (by omega)]; exact h.2.1 p q
  · rw [setw_n (by omega) (by omega)]; exact h.2.2.1 p
  · rw [setw_n (by omega) (by omega)]; exact h.2.2.2 p q hp
theorem WF.z {n : Nat} : WF n (fun _ _ => 0) := ⟨fun _ _ => (by show 0 < 10; omega), fun _ _ => rfl, fun _ => rfl, fun _ _ _ => rfl⟩
theorem m_points {s n : Nat} {w : Nat → Nat → Nat} {t : St} (h : RN s n w t) (hs : s < 3) {Q : Int32 → St → Prop} (q : Q (nI n) t) : Ok (FX12_points (nI s) t) Q := by
  unfold FX12_points
  rw [li_91, nI_mul]
  refine Ok.ckT (inb_n (by omega) (by omega)) (Ok.rdE (x := nI n) ?_ (Ok.ret q))
  rw [nI_cl (by omega)]
  exact h.1
theorem m_weight {s n : Nat} {w : Nat → Nat → Nat} {t : St} (h : RN s n w t) (hs : s < 3) {a b : Nat} (ha : a < 9) (hb : b < 9) {Q : Int32 → St → Prop} (q : Q (nI (w a b)) t) : Ok (FX12_weight (nI s) (nI a) (nI b) t) Q := by
  unfold FX12_weight
  rw [li_91, li_1, li_9, nI_mul, nI_add, nI_mul, nI_add, nI_add]
  refine Ok.ckT (inb_n (by omega) (by omega)) (Ok.rdE (x := nI (w a b)) ?_ (Ok.ret q))
  rw [nI_cl (by omega)]
  exact h.2 a b ha hb
theorem nr_n {n : Nat} {w : Nat → Nat → Nat} (h : WF n w) (hn : n ≤ 9) {a : Nat} : mkm n (fun b => decide (0 < w a b)) = nr w a := by
  refine bit_ext (n := 9) (Nat.lt_of_lt_of_le mkm_lt (pow9 hn)) nr_lt (fun k hk => ?_)
  rw [mkm_bit, nr_bit hk]
  by_cases c : k < n
  · simp [c]
  · rw [h.r (by omega)]
    simp
theorem m_nearOf {s n : Nat} {w : Nat → Nat → Nat} {t : St} (h : RN s n w t) (hs : s < 3) (hn : n < 10) (hw : WF n w) {a : Nat} (ha : a < 9) {Q : Int32 → St → Prop} (q : Q (nI (nr w a)) t) : Ok (FX12_nearOf (nI s) (nI a) t) Q := by
  unfold FX12_nearOf
  refine Ok.bd (fun r u => t = u ∧ r = nI (nr w a)) ?_ (by rintro _ _ ⟨rfl, rfl⟩; exact Ok.ret q)
  refine Ok.count n (fun j c s' => c = (nI (mkm j (fun b => decide (0 < w a b))), nI j) ∧ t = s') ?_ ?_ (Nat.zero_le _) ⟨rfl, rfl⟩
  · rintro j c s' hj ⟨rfl, rfl⟩
    unfold SX12_nearOf_5
    dsimp only
    refine Ok.bd (fun r u => t = u ∧ r = nI n) (m_points h hs ⟨rfl, rfl⟩) ?_
    rintro _ _ ⟨rfl, rfl⟩
    refine Ok.ifF (by rw [nI_leP (by omega) (by omega)]; omega) (Ok.bd (fun r u => t = u ∧ r = nI (w a j)) (m_weight h hs ha (by omega) ⟨rfl, rfl⟩) ?_)
    rintro _ _ ⟨rfl, rfl⟩
    have hw9 := hw.1 a j
    rw [li_0, shl_1 (by omega)]
    refine Ok.bd (fun r u => t = u ∧ r = nI (if 0 < w a j then 2 ^ j else 0)) (Ok.cv (nI_leP (by omega) (by omega)) (Ok.ite (fun c => Ok.ret ⟨rfl, ?_⟩) (fun c => Ok.ret ⟨rfl, ?_⟩))) ?_
    · rw [if_neg (by omega)]
    · rw [if_pos (by omega)]
    rintro _ _ ⟨rfl, rfl⟩
    refine Ok.ret ⟨?_, rfl⟩
    rw [nI_or, nI_1]
    show _ = (nI (mkm j (fun b => decide (0 < w a b)) ||| (if decide (0 < w a j) = true then 2 ^ j else 0)), nI (j + 1))
    by_cases c : 0 < w a j
    · rw [if_pos c, if_pos (decide_eq_true c)]
    · rw [if_neg c, if_neg (by simp [c])]
  · rintro c s' ⟨rfl, rfl⟩
    unfold SX12_nearOf_5
    dsimp only
    refine Ok.bd (fun r u => t = u ∧ r = nI n) (m_points h hs ⟨rfl, rfl⟩) ?_
    rintro _ _ ⟨rfl, rfl⟩
    exact Ok.ifT (by rw [nI_leP (by omega) (by omega)]; omega) (Ok.ret ⟨rfl, by rw [nr_n hw (by omega)]⟩)
/-- how many ends of lines there are -/
def dcn (n : Nat) (w : Nat → Nat → Nat) : Nat := sm n (fun p => cnt (nr w p) 9)
theorem dcn_le {n : Nat} {w : Nat → Nat → Nat} (hn : n < 10) : dcn n w ≤ 81 := by
  have := sm_le (f := fun p => cnt (nr w p) 9) (b := 9) (n := n) (fun i _ => cnt_le)
  unfold dcn
  omega
theorem m_lines {s n : Nat} {w : Nat → Nat → Nat} {t : St} (h : RN s n w t) (hs : s < 3) (hn : n < 10) (hw : WF n w) {Q : Int32 → St → Prop} (q : Q (nI (dcn n w / 2)) t) : Ok (FX12_lines (nI s) t) Q := by
  unfold FX12_lines
  refine Ok.bd (fun r u => t = u ∧ r = nI (dcn n w)) ?_ ?_
  · refine Ok.count n (fun j c s' => c = (nI (sm j (fun p => cnt (nr w p) 9)), nI j) ∧ t = s') ?_ ?_ (Nat.zero_le _) ⟨rfl, rfl⟩
    · rintro j c s' hj ⟨rfl, rfl⟩
      unfold SX12_lines_4
      dsimp only
      refine Ok.bd (fun r u => t = u ∧ r = nI n) (m_points h hs ⟨rfl, rfl⟩) ?_
      rintro _ _ ⟨rfl, rfl⟩
      refine Ok.ifF (by rw [nI_leP (by omega) (by omega)]; omega) (Ok.bd (fun r u => t = u ∧ r = nI (nr w j)) (m_nearOf h hs hn hw (by omega) ⟨rfl, rfl⟩) ?_)
      rintro _ _ ⟨rfl, rfl⟩
      refine Ok.bd (fun r u => t = u ∧ r = nI (cnt (nr w j) 9)) (e_ones nr_lt ⟨rfl, rfl⟩) ?_
      rintro _ _ ⟨rfl, rfl⟩
      refine Ok.ret ⟨?_, rfl⟩
      rw [nI_add, nI_1]
      rfl
    · rintro c s' ⟨rfl, rfl⟩
      unfold SX12_lines_4
      dsimp only
      refine Ok.bd (fun r u => t = u ∧ r = nI n) (m_points h hs ⟨rfl, rfl⟩) ?_
      rintro _ _ ⟨rfl, rfl⟩
      exact Ok.ifT (by rw [nI_leP (by omega) (by omega)]; omega) (Ok.ret ⟨rfl, rfl⟩)
  · rintro _ _ ⟨rfl, rfl⟩
    have := dcn_le (w := w) hn
    rw [li_2, nI_divN (by omega) (by omega) (by omega)]
    exact Ok.ret q
theorem sm_two {f g : Nat → Nat} {a b n : Nat} (ha : a < n) (hb : b < n) (hab : a ≠ b) (h : ∀ i, i < n → i ≠ a → i ≠ b → f i = g i) : sm n f + g a + g b = sm n g + f a + f b := by
  have h1 := sm_one (f := f) (g := fun i => if i = a then g a else f i) (a := a) (n := n) ha (fun i _ hi => by show f i = if i = a then g a else f i; rw [if_neg hi])
  have h2 := sm_one (f := fun i => if i = a then g a else f i) (g := g) (a := b) (n := n) hb (fun i hi hb => by
    show (if i = a then g a else f i) = g i
    by_cases e : i = a
    · rw [if_pos e, e]
    · rw [if_neg e]; exact h i hi e hb)
  have h1 : sm n f + (if a = a then g a else f a) = _ := h1
  have h2 : _ = sm n g + (if b = a then g a else f b) := h2
  rw [if_pos rfl] at h1
  rw [if_neg (fun q => hab q.symm)] at h2
  omega
theorem dcn_add {n : Nat} {w : Nat → Nat → Nat} {a b v : Nat} (ha : a < n) (hb : b < n) (hn : n < 10) (hab : a ≠ b) (h0 : w a b = 0) (h1 : w b a = 0) (hv : 0 < v) : dcn n (setw w a b v) = dcn n w + 2 := by
  unfold dcn
  have := sm_two (f := fun p => cnt (nr (setw w a b v) p) 9) (g := fun p => cnt (nr w p) 9) ha hb hab (fun i _ h1 h2 => by show cnt (nr (setw w a b v) i) 9 = _; rw [nr_set h1 h2])
  have e1 : cnt (nr (setw w a b v) a) 9 = cnt (nr w a) 9 + 1 := by
    rw [nr_set1 hab (by omega) hv, cnt_or (by rw [nr_bit (by omega), h0]; rfl), if_pos (by omega)]
  have e2 : cnt (nr (setw w a b v) b) 9 = cnt (nr w b) 9 + 1 := by
    rw [setw_sw, nr_set1 (fun e => hab e.symm) (by omega) hv, cnt_or (by rw [nr_bit (by omega), h1]; rfl), if_pos (by omega)]
  omega
theorem m_weighs {s n : Nat} {w : Nat → Nat → Nat} {t : St} (h : RN s n w t) (hs : s < 3) {a b v : Nat} (ha : a < 9) (hb : b < 9) (hab : a ≠ b) : Ok (FX12_weighs (nI s) (nI a) (nI b) (nI v) t) (fun _ u => RN s n (setw w a b v) u ∧ (∀ c, c ≠ 150 → u c = t c) ∧ ∀ k, (k < 91 * s + 1 ∨ 91 * s + 82 ≤ k) → u 150 k = t 150 k) := by
  refine (xX12_weighs hs ha hb).mono ?_
  rintro _ u rfl
  refine ⟨⟨?_, fun p q hp hq => ?_⟩, fun c hc => by rw [wr_off c hc, wr_off c hc], fun k hk => by rw [wrn (by omega), wrn (by omega)]⟩
  · rw [wrn (by omega), wrn (by omega)]; exact h.1
  · by_cases e1 : p = b ∧ q = a
    · obtain ⟨rfl, rfl⟩ := e1
      rw [wrs, setw_b]
    · rw [wrn (by omega)]
      by_cases e2 : p = a ∧ q = b
      · obtain ⟨rfl, rfl⟩ := e2
        rw [wrs, setw_a]
      · rw [wrn (by omega), setw_n e2 e1]
        exact h.2 p q hp hq
theorem b_readsLine {t : St} {s n : Nat} {w : Nat → Nat → Nat} (hb : t 149 12 = 1) (h : RN s n w t) (hs : s < 3) {Q : Unit → St → Prop} (q : Q () t) : Ok (FX12_readsLine (nI s) t) Q := by
  unfold FX12_readsLine
  refine Ok.bd (fun r u => t = u) (m_points h hs rfl) ?_
  rintro _ _ rfl
  refine Ok.bd (fun r u => t = u) (b_here hb rfl) ?_
  rintro _ _ rfl
  refine Ok.rdE hb (Ok.bd (fun r u => t = u) (Ok.ifF (by decide) (Ok.ret rfl)) ?_)
  rintro _ _ rfl
  refine Ok.bd (fun r u => t = u) (b_passes hb rfl) ?_
  rintro _ _ rfl
  refine Ok.bd (fun r u => t = u) (b_sign hb rfl) ?_
  rintro _ _ rfl
  refine Ok.bd (fun r u => t = u) (b_must hb rfl) ?_
  rintro _ _ rfl
  refine Ok.bd (fun r u => t = u) (m_points h hs rfl) ?_
  rintro _ _ rfl
  refine Ok.bd (fun r u => t = u) (b_here hb rfl) ?_
  rintro _ _ rfl
  refine Ok.rdE hb (Ok.bd (fun r u => t = u) (Ok.ifF (by decide) (Ok.ret rfl)) ?_)
  rintro _ _ rfl
  refine Ok.rdE hb (Ok.bd (fun r u => t = u) (Ok.ifF (by decide) (Ok.ret rfl)) ?_)
  rintro _ _ rfl
  refine Ok.bd (fun r u => t = u) (b_passes hb rfl) ?_
  rintro _ _ rfl
  refine Ok.bd (fun r u => t = u ∧ r = 0) (b_sign hb ⟨rfl, rfl⟩) ?_
  rintro _ _ ⟨rfl, rfl⟩
  refine Ok.bd (fun r u => t = u) (Ok.ifT rfl (Ok.ret rfl)) ?_
  rintro _ _ rfl
  exact Ok.rdE hb (Ok.ifF (by decide) (Ok.ret q))
end
section
/-! the reference reads a text, on -/
/-- the slots change at the weights of slot s alone -/
def SO (s : Nat) (t u : St) : Prop := ∀ k, (k < 91 * s + 1 ∨ 91 * s + 82 ≤ k) → u 150 k = t 150 k
theorem SO.rf {s : Nat} {t : St} : SO s t t := fun _ _ => rfl
theorem SO.tr {s : Nat} {t u v : St} (h : SO s t u) (g : SO s u v) : SO s t v := fun k hk => (g k hk).trans (h k hk)
theorem SO.eq {s : Nat} {t u : St} (e : u 150 = t 150) : SO s t u := fun k _ => by rw [e]
theorem RM.md {k : Nat} {bt : Nat → Nat} {p : Nat} {t u : St} (h : RM k bt p t) (e1 : u 149 = t 149) (e2 : u 153 = t 153) : RM k bt p u := by
  unfold RM MT
  rw [e1, e2]
  exact h
theorem m_faultsX {k : Nat} {bt : Nat → Nat} {t : St} {p f : Nat} (h : RM k bt p t) (hb : t 149 12 = 0) : Ok (FX12_faults (nI f) t) (fun _ u => BD (f, tkb k bt p) u ∧ FM t u ∧ u 150 = t 150) := by
  unfold FX12_faults
  refine Ok.rdE hb (Ok.ifT rfl (OkwrE (OkwrE (Ok.rdE (x := nI (tkb k bt p)) ?_ (OkwrE (Ok.ret ⟨⟨?_, ?_, wrs⟩, ⟨fun c h1 _ => ?_, fun i hi => ?_⟩, ?_⟩))))))
  · rw [wrn (by decide), wrn (by decide)]; exact h.2.2.1
  · rw [wrn (by decide), wrn (by decide), wrs]
  · rw [wrn (by decide), wrs]
  · rw [wr_off c h1, wr_off c h1, wr_off c h1]
  · rw [wrn (by omega), wrn (by omega), wrn (by omega)]
  · rw [wr_off 150 (by decide), wr_off 150 (by decide), wr_off 150 (by decide)]
theorem m_must0X {k : Nat} {bt : Nat → Nat} {t : St} {p : Nat} (h : RM k bt p t) (hb : t 149 12 = 0) : Ok (FX12_must 0 t) (fun _ u => BD (1, tkb k bt p) u ∧ FM t u ∧ u 150 = t 150) := by
  unfold FX12_must
  refine Ok.bd (fun _ u => BD (1, tkb k bt p) u ∧ FM t u ∧ u 150 = t 150) (Ok.ifT rfl (Ok.bd _ (m_faultsX (f := 1) h hb) (fun _ u hu => Ok.ret hu))) ?_
  rintro _ u ⟨h1, h2⟩
  exact Ok.bd (fun _ v => u = v) (b_passes h1.1 rfl) (by rintro _ _ rfl; exact Ok.ret ⟨h1, h2⟩)
theorem m_hereX {k : Nat} {bt : Nat → Nat} {t : St} {p lo hi : Nat} (h : RM k bt p t) (hb : t 149 12 = 0) (hlo : lo < 1001) (hhi : hi < 1001) : Ok (FX12_here (nI lo) (nI hi) t) (fun r u => Sum.elim (fun f => r = nI lo ∧ BD f u ∧ FM t u ∧ u 150 = t 150) (fun v => r = nI v ∧ t = u) (num k bt lo hi p)) := by
  have hc4 := tkc_lt (k := k) (bt := bt) (p := p)
  unfold FX12_here
  refine Ok.rdE hb (Ok.ifT rfl (Ok.rdE h.2.2.2.1 ?_))
  by_cases c2 : tkc k bt p = 2
  · have hv := vl_le (bt := bt) (b := tkb k bt p) (tke k bt p - tkb k bt p)
    have e11 := h.2.2.2.2.2
    rw [if_pos c2] at e11
    by_cases c : lo ≤ vl bt (tkb k bt p) (tke k bt p - tkb k bt p) ∧ vl bt (tkb k bt p) (tke k bt p - tkb k bt p) ≤ hi
    · have en : num k bt lo hi p = .inr (vl bt (tkb k bt p) (tke k bt p - tkb k bt p)) := by unfold num; rw [if_pos c2, if_pos c]
      rw [en]
      refine Ok.bd (fun _ u => t = u) (Ok.ifT (by rw [c2]; rfl) (Ok.rdE e11 (Ok.bd (fun r u => t = u ∧ r = 1) (e_in (fun _ _ => ⟨rfl, rfl⟩) (fun a => absurd ?_ a)) ?_))) ?_
      · rw [n64 (by omega), n64 (by omega), n64 (by omega)]
        omega
      · rintro _ _ ⟨rfl, rfl⟩
        exact Ok.ifF (by decide) (Ok.ret rfl)
      · rintro _ _ rfl
        exact Ok.rdE hb (Ok.ifT rfl (Ok.rdE e11 (Ok.ret ⟨rfl, rfl⟩)))
    · have en : num k bt lo hi p = .inl (2, tkb k bt p) := by unfold num; rw [if_pos c2, if_neg c]
      rw [en]
      refine Ok.bd (fun _ u => BD (2, tkb k bt p) u ∧ FM t u ∧ u 150 = t 150) (Ok.ifT (by rw [c2]; rfl) (Ok.rdE e11 (Ok.bd (fun r u => t = u ∧ r = 0) (e_in (fun a b => absurd ?_ c) (fun _ => ⟨rfl, rfl⟩)) ?_))) ?_
      · rw [n64 (by omega), n64 (by omega)] at a b
        omega
      · rintro _ _ ⟨rfl, rfl⟩
        exact Ok.ifT rfl (Ok.bd _ (m_faultsX (f := 2) h hb) (fun _ u hu => Ok.ret hu))
      · rintro _ u ⟨h1, h2⟩
        exact Ok.rdE h1.1 (Ok.ifF (by decide) (Ok.ret ⟨rfl, h1, h2⟩))
  · have en : num k bt lo hi p = .inl (1, tkb k bt p) := by unfold num; rw [if_neg c2]
    rw [en]
    refine Ok.bd (fun _ u => BD (1, tkb k bt p) u ∧ FM t u ∧ u 150 = t 150) (Ok.ifF (by rw [li_2, nI_eqP (by omega) (by omega)]; exact c2) (Ok.bd _ (m_faultsX (f := 1) h hb) (fun _ u hu => Ok.ret hu))) ?_
    rintro _ u ⟨h1, h2⟩
    exact Ok.rdE h1.1 (Ok.ifF (by decide) (Ok.ret ⟨rfl, h1, h2⟩))
theorem m_readsLine {k : Nat} {bt : Nat → Nat} {t : St} {p s N c : Nat} {w : Nat → Nat → Nat} (h : RM k bt p t) (hb : t 149 12 = 0) (hN : RN s N w t) (hs : s < 3) (hw : WF N w) (h1 : 1 ≤ N) (h9 : N < 10) (hc : 2 * c = dcn N w) (hc30 : c ≤ 30) : Ok (FX12_readsLine (nI s) t) (fun _ u => FM t u ∧ SO s t u ∧ Sum.elim (fun f => BD f u ∧ u 150 = t 150) (fun v => RM k bt v.1 u ∧ u 149 12 = 0 ∧ RN s N v.2 u) (pline k bt N w c p)) := by
  unfold FX12_readsLine
  refine Ok.bd (fun r u => t = u ∧ r = nI N) (m_points hN hs ⟨rfl, rfl⟩) ?_
  rintro _ _ ⟨rfl, rfl⟩
  rw [li_1, nI_sub h1]
  refine Ok.bd _ (m_hereX (lo := 0) h hb (by omega) (by omega)) ?_
  intro r t2 hr
  cases e : num k bt 0 (N - 1) p with
  | inl f =>
    rw [e] at hr
    obtain ⟨rfl, B, F, e150⟩ := hr
    have hN2 : RN s N w t2 := hN.fr e150
    have fin : FM t t2 ∧ SO s t t2 ∧ Sum.elim (fun f => BD f t2 ∧ t2 150 = t 150) (fun v => RM k bt v.1 t2 ∧ t2 149 12 = 0 ∧ RN s N v.2 t2) (pline k bt N w c p) := ⟨F, SO.eq e150, by rw [show pline k bt N w c p = .inl f from sbn_l e]; exact ⟨B, e150⟩⟩
    refine Ok.rdE B.1 (Ok.bd (fun _ u => t2 = u) (Ok.ifF (by decide) (Ok.ret rfl)) ?_)
    rintro _ _ rfl
    refine Ok.bd (fun _ u => t2 = u) (b_passes B.1 rfl) ?_
    rintro _ _ rfl
    refine Ok.bd (fun _ u => t2 = u) (b_sign B.1 rfl) ?_
    rintro _ _ rfl
    refine Ok.bd (fun _ u => t2 = u) (b_must B.1 rfl) ?_
    rintro _ _ rfl
    refine Ok.bd (fun _ u => t2 = u) (m_points hN2 hs rfl) ?_
    rintro _ _ rfl
    refine Ok.bd (fun _ u => t2 = u) (b_here B.1 rfl) ?_
    rintro _ _ rfl
    refine Ok.rdE B.1 (Ok.bd (fun _ u => t2 = u) (Ok.ifF (by decide) (Ok.ret rfl)) ?_)
    rintro _ _ rfl
    refine Ok.rdE B.1 (Ok.bd (fun _ u => t2 = u) (Ok.ifF (by decide) (Ok.ret rfl)) ?_)
    rintro _ _ rfl
    refine Ok.bd (fun _ u => t2 = u) (b_passes B.1 rfl) ?_
    rintro _ _ rfl
    refine Ok.bd (fun r u => t2 = u ∧ r = 0) (b_sign B.1 ⟨rfl, rfl⟩) ?_
    rintro _ _ ⟨rfl, rfl⟩
    refine Ok.bd (fun _ u => t2 = u) (Ok.ifT rfl (Ok.ret rfl)) ?_
    rintro _ _ rfl
    exact Ok.rdE B.1 (Ok.ifF (by decide) (Ok.ret fin))
  | inr a =>
    rw [e] at hr
    obtain ⟨rfl, rfl⟩ := hr
    have hv := num_in e
    have ep := sbn_r (f := fun a => if c < 30 then (if sgn k bt 45 (tke k bt p) = true then sbn (num k bt 0 (N - 1) (tke k bt (tke k bt p))) (fun b => if a = b then .inl (2, tkb k bt (tke k bt (tke k bt p))) else if w a b = 0 then pwt k bt w a b (tke k bt (tke k bt (tke k bt p))) else .inl (3, tkb k bt (tke k bt (tke k bt p)))) else .inl (1, tkb k bt (tke k bt p))) else .inl (4, tkb k bt p)) e
    have ep : pline k bt N w c p = _ := ep
    by_cases c30 : c < 30
    · rw [if_pos c30] at ep
      refine Ok.rdE hb (Ok.bd (fun _ u => t = u) (Ok.ifT rfl (Ok.bd (fun r u => t = u ∧ r = nI c) (m_lines hN hs h9 hw ⟨rfl, by rw [← hc, Nat.mul_div_cancel_left _ (by omega)]⟩) ?_)) ?_)
      · rintro _ _ ⟨rfl, rfl⟩
        exact Ok.ifF (by rw [li_30, nI_eqP (by omega) (by omega)]; omega) (Ok.ret rfl)
      rintro _ _ rfl
      refine Ok.bd _ (m_passes h hb) ?_
      rintro _ t3 ⟨R3, K3⟩
      have b3 : t3 149 12 = 0 := by rw [K3.2 12 (by omega)]; exact hb
      refine Ok.bd (fun r u => t3 = u ∧ ((r = 1 ∧ sgn k bt 45 (tke k bt p) = true) ∨ (r = 0 ∧ sgn k bt 45 (tke k bt p) = false))) (m_sign (c := 45) R3 b3 (by omega) (fun a => ⟨rfl, Or.inl ⟨rfl, a⟩⟩) (fun a => ⟨rfl, Or.inr ⟨rfl, a⟩⟩)) ?_
      rintro r _ ⟨rfl, ⟨rfl, s45⟩ | ⟨rfl, s45⟩⟩
      · rw [if_pos s45] at ep
        refine Ok.bd _ (m_must1 R3 b3) ?_
        rintro _ t4 ⟨R4, K4⟩
        have K24 := K3.tr K4
        have b4 : t4 149 12 = 0 := by rw [K24.2 12 (by omega)]; exact hb
        have hN4 : RN s N w t4 := hN.fr (K24.1 150 (by decide))
        refine Ok.bd (fun r u => t4 = u ∧ r = nI N) (m_points hN4 hs ⟨rfl, rfl⟩) ?_
        rintro _ _ ⟨rfl, rfl⟩
        rw [nI_sub h1]
        refine Ok.bd _ (m_hereX (lo := 0) R4 b4 (by omega) (by omega)) ?_
        intro r t5 hr5
        cases e2 : num k bt 0 (N - 1) (tke k bt (tke k bt p)) with
        | inl f =>
          rw [e2] at hr5
          obtain ⟨rfl, B, F0, e4⟩ := hr5
          have e150 : t5 150 = t 150 := e4.trans (K24.1 150 (by decide))
          have F := K24.fm.tr F0
          have hN2 : RN s N w t5 := hN.fr e150
          have fin : FM t t5 ∧ SO s t t5 ∧ Sum.elim (fun f => BD f t5 ∧ t5 150 = t 150) (fun v => RM k bt v.1 t5 ∧ t5 149 12 = 0 ∧ RN s N v.2 t5) (pline k bt N w c p) := ⟨F, SO.eq e150, by rw [ep, sbn_l e2]; exact ⟨B, e150⟩⟩
          refine Ok.rdE B.1 (Ok.bd (fun _ u => t5 = u) (Ok.ifF (by decide) (Ok.ret rfl)) ?_)
          rintro _ _ rfl
          refine Ok.rdE B.1 (Ok.bd (fun _ u => t5 = u) (Ok.ifF (by decide) (Ok.ret rfl)) ?_)
          rintro _ _ rfl
          refine Ok.bd (fun _ u => t5 = u) (b_passes B.1 rfl) ?_
          rintro _ _ rfl
          refine Ok.bd (fun r u => t5 = u ∧ r = 0) (b_sign B.1 ⟨rfl, rfl⟩) ?_
          rintro _ _ ⟨rfl, rfl⟩
          refine Ok.bd (fun _ u => t5 = u) (Ok.ifT rfl (Ok.ret rfl)) ?_
          rintro _ _ rfl
          exact Ok.rdE B.1 (Ok.ifF (by decide) (Ok.ret fin))
        | inr b =>
          rw [e2] at hr5
          obtain ⟨rfl, rfl⟩ := hr5
          rw [sbn_r e2] at ep
          have hv2 := num_in e2
          by_cases eab : a = b
          · rw [if_pos eab] at ep
            refine Ok.rdE b4 (Ok.bd (fun _ u => BD (2, tkb k bt (tke k bt (tke k bt p))) u ∧ FM t4 u ∧ u 150 = t4 150) (Ok.ifT rfl (Ok.ifT (by rw [eab]) (Ok.bd _ (m_faultsX (f := 2) R4 b4) (fun _ u hu => Ok.ret hu)))) ?_)
            rintro _ t6 ⟨B, F0, e0⟩
            have e150 : t6 150 = t 150 := e0.trans (K24.1 150 (by decide))
            have F := K24.fm.tr F0
            have hN2 : RN s N w t6 := hN.fr e150
            have fin : FM t t6 ∧ SO s t t6 ∧ Sum.elim (fun f => BD f t6 ∧ t6 150 = t 150) (fun v => RM k bt v.1 t6 ∧ t6 149 12 = 0 ∧ RN s N v.2 t6) (pline k bt N w c p) := ⟨F, SO.eq e150, by rw [ep]; exact ⟨B, e150⟩⟩
            refine Ok.rdE B.1 (Ok.bd (fun _ u => t6 = u) (Ok.ifF (by decide) (Ok.ret rfl)) ?_)
            rintro _ _ rfl
            refine Ok.bd (fun _ u => t6 = u) (b_passes B.1 rfl) ?_
            rintro _ _ rfl
            refine Ok.bd (fun r u => t6 = u ∧ r = 0) (b_sign B.1 ⟨rfl, rfl⟩) ?_
            rintro _ _ ⟨rfl, rfl⟩
            refine Ok.bd (fun _ u => t6 = u) (Ok.ifT rfl (Ok.ret rfl)) ?_
            rintro _ _ rfl
            exact Ok.rdE B.1 (Ok.ifF (by decide) (Ok.ret fin))
          · rw [if_neg eab] at ep
            refine Ok.rdE b4 (Ok.bd (fun _ u => t4 = u) (Ok.ifT rfl (Ok.ifF (by rw [nI_eqP (by omega) (by omega)]; exact eab) (Ok.ret rfl))) ?_)
            rintro _ _ rfl
            by_cases w0 : w a b = 0
            · rw [if_pos w0] at ep
              refine Ok.rdE b4 (Ok.bd (fun _ u => t4 = u) (Ok.ifT rfl (Ok.bd (fun r u => t4 = u ∧ r = nI (w a b)) (m_weight hN4 hs (by omega) (by omega) ⟨rfl, rfl⟩) ?_)) ?_)
              · rintro _ _ ⟨rfl, rfl⟩
                exact Ok.ifT (by rw [w0]; decide) (Ok.ret rfl)
              rintro _ _ rfl
              refine Ok.bd _ (m_passes R4 b4) ?_
              rintro _ t7 ⟨R7, K7⟩
              have K27 := K24.tr K7
              have b7 : t7 149 12 = 0 := by rw [K27.2 12 (by omega)]; exact hb
              have hN7 : RN s N w t7 := hN.fr (K27.1 150 (by decide))
              refine Ok.bd (fun r u => t7 = u ∧ ((r = 1 ∧ sgn k bt 61 (tke k bt (tke k bt (tke k bt p))) = true) ∨ (r = 0 ∧ sgn k bt 61 (tke k bt (tke k bt (tke k bt p))) = false))) (m_sign (c := 61) R7 b7 (by omega) (fun a => ⟨rfl, Or.inl ⟨rfl, a⟩⟩) (fun a => ⟨rfl, Or.inr ⟨rfl, a⟩⟩)) ?_
              rintro r _ ⟨rfl, ⟨rfl, s61⟩ | ⟨rfl, s61⟩⟩
              · have ew : pline k bt N w c p = sbn (num k bt 1 9 (tke k bt (tke k bt (tke k bt (tke k bt p))))) _ := ep.trans (if_pos s61)
                cases e3 : num k bt 1 9 (tke k bt (tke k bt (tke k bt (tke k bt p)))) with
                | inl f =>
                  refine Ok.bd (fun r u => BD f u ∧ FM t7 u ∧ u 150 = t7 150) (Ok.ifF (by decide) (Ok.bd _ (m_nx R7) ?_)) ?_
                  · rintro _ t8 ⟨R8, K8⟩
                    have b8 : t8 149 12 = 0 := by rw [K8.2 12 (by omega)]; exact b7
                    refine Ok.bd _ (m_hereX (lo := 1) (hi := 9) R8 b8 (by omega) (by omega)) ?_
                    intro r t9 hr9
                    rw [e3] at hr9
                    obtain ⟨rfl, B, F0, e0⟩ := hr9
                    refine Ok.bd (fun _ u => t9 = u) (b_passes B.1 rfl) ?_
                    rintro _ _ rfl
                    exact Ok.ret ⟨B, K8.fm.tr F0, e0.trans (K8.1 150 (by decide))⟩
                  · rintro _ t9 ⟨B, F0, e0⟩
                    have e150 : t9 150 = t 150 := e0.trans (K27.1 150 (by decide))
                    exact Ok.rdE B.1 (Ok.ifF (by decide) (Ok.ret ⟨K27.fm.tr F0, SO.eq e150, by rw [ew, sbn_l e3]; exact ⟨B, e150⟩⟩))
                | inr x =>
                  rw [sbn_r e3] at ew
                  have hx := num_in e3
                  refine Ok.bd (fun r u => r = nI x ∧ RM k bt (tke k bt (tke k bt (tke k bt (tke k bt (tke k bt p))))) u ∧ KM t7 u) (Ok.ifF (by decide) (Ok.bd _ (m_nx R7) ?_)) ?_
                  · rintro _ t8 ⟨R8, K8⟩
                    have b8 : t8 149 12 = 0 := by rw [K8.2 12 (by omega)]; exact b7
                    refine Ok.bd _ (m_hereX (lo := 1) (hi := 9) R8 b8 (by omega) (by omega)) ?_
                    intro r t9 hr9
                    rw [e3] at hr9
                    obtain ⟨rfl, rfl⟩ := hr9
                    refine Ok.bd _ (m_passes R8 b8) ?_
                    rintro _ t10 ⟨R10, K10⟩
                    exact Ok.ret ⟨rfl, R10, K8.tr K10⟩
                  · rintro _ t10 ⟨rfl, R10, K10⟩
                    have KK := K27.tr K10
                    have b10 : t10 149 12 = 0 := by rw [KK.2 12 (by omega)]; exact hb
                    refine Ok.rdE b10 (Ok.ifT rfl (Ok.bd _ (m_weighs (v := x) (hN.fr (KK.1 150 (by decide))) hs (a := a) (b := b) (by omega) (by omega) eab) ?_))
                    rintro _ u ⟨hNu, hf, hso⟩
                    have e9 := hf 149 (by decide)
                    refine Ok.ret ⟨KK.fm.tr ⟨fun c _ h2 => hf c h2, fun i _ => by rw [e9]⟩, fun i hi => (hso i hi).trans (by rw [KK.1 150 (by decide)]), ?_⟩
                    rw [ew]
                    exact ⟨R10.md e9 (hf 153 (by decide)), by rw [e9]; exact b10, hNu⟩
              · have ew : pline k bt N w c p = .inr (tke k bt (tke k bt (tke k bt p)), setw w a b 1) := ep.trans (if_neg (by rw [s61]; decide))
                refine Ok.bd (fun r u => t7 = u ∧ r = nI 1) (Ok.ifT rfl (Ok.ret ⟨rfl, rfl⟩)) ?_
                rintro _ _ ⟨rfl, rfl⟩
                refine Ok.rdE b7 (Ok.ifT rfl (Ok.bd _ (m_weighs (v := 1) hN7 hs (a := a) (b := b) (by omega) (by omega) eab) ?_))
                rintro _ u ⟨hNu, hf, hso⟩
                have e9 := hf 149 (by decide)
                refine Ok.ret ⟨K27.fm.tr ⟨fun c _ h2 => hf c h2, fun i _ => by rw [e9]⟩, fun i hi => (hso i hi).trans (by rw [K27.1 150 (by decide)]), ?_⟩
                rw [ew]
                exact ⟨R7.md e9 (hf 153 (by decide)), by rw [e9]; exact b7, hNu⟩
            · rw [if_neg w0] at ep
              have hw9 := hw.1 a b
              refine Ok.rdE b4 (Ok.bd (fun _ u => BD (3, tkb k bt (tke k bt (tke k bt p))) u ∧ FM t4 u ∧ u 150 = t4 150) (Ok.ifT rfl (Ok.bd (fun r u => t4 = u ∧ r = nI (w a b)) (m_weight hN4 hs (by omega) (by omega) ⟨rfl, rfl⟩) ?_)) ?_)
              · rintro _ _ ⟨rfl, rfl⟩
                exact Ok.ifF (by rw [li_0, nI_leP (by omega) (by omega)]; omega) (Ok.bd _ (m_faultsX (f := 3) R4 b4) (fun _ u hu => Ok.ret hu))
              rintro _ t6 ⟨B, F0, e0⟩
              have e150 : t6 150 = t 150 := e0.trans (K24.1 150 (by decide))
              have F := K24.fm.tr F0
              have hN2 : RN s N w t6 := hN.fr e150
              have fin : FM t t6 ∧ SO s t t6 ∧ Sum.elim (fun f => BD f t6 ∧ t6 150 = t 150) (fun v => RM k bt v.1 t6 ∧ t6 149 12 = 0 ∧ RN s N v.2 t6) (pline k bt N w c p) := ⟨F, SO.eq e150, by rw [ep]; exact ⟨B, e150⟩⟩
              refine Ok.bd (fun _ u => t6 = u) (b_passes B.1 rfl) ?_
              rintro _ _ rfl
              refine Ok.bd (fun r u => t6 = u ∧ r = 0) (b_sign B.1 ⟨rfl, rfl⟩) ?_
              rintro _ _ ⟨rfl, rfl⟩
              refine Ok.bd (fun _ u => t6 = u) (Ok.ifT rfl (Ok.ret rfl)) ?_
              rintro _ _ rfl
              exact Ok.rdE B.1 (Ok.ifF (by decide) (Ok.ret fin))
      · rw [if_neg (by rw [s45]; decide)] at ep
        refine Ok.bd _ (m_must0X R3 b3) ?_
        rintro _ t4 ⟨B, F0, e0⟩
        have e150 : t4 150 = t 150 := e0.trans (K3.1 150 (by decide))
        have F := K3.fm.tr F0
        have hN2 : RN s N w t4 := hN.fr e150
        have fin : FM t t4 ∧ SO s t t4 ∧ Sum.elim (fun f => BD f t4 ∧ t4 150 = t 150) (fun v => RM k bt v.1 t4 ∧ t4 149 12 = 0 ∧ RN s N v.2 t4) (pline k bt N w c p) := ⟨F, SO.eq e150, by rw [ep]; exact ⟨B, e150⟩⟩
        refine Ok.bd (fun _ u => t4 = u) (m_points hN2 hs rfl) ?_
        rintro _ _ rfl
        refine Ok.bd (fun _ u => t4 = u) (b_here B.1 rfl) ?_
        rintro _ _ rfl
        refine Ok.rdE B.1 (Ok.bd (fun _ u => t4 = u) (Ok.ifF (by decide) (Ok.ret rfl)) ?_)
        rintro _ _ rfl
        refine Ok.rdE B.1 (Ok.bd (fun _ u => t4 = u) (Ok.ifF (by decide) (Ok.ret rfl)) ?_)
        rintro _ _ rfl
        refine Ok.bd (fun _ u => t4 = u) (b_passes B.1 rfl) ?_
        rintro _ _ rfl
        refine Ok.bd (fun r u => t4 = u ∧ r = 0) (b_sign B.1 ⟨rfl, rfl⟩) ?_
        rintro _ _ ⟨rfl, rfl⟩
        refine Ok.bd (fun _ u => t4 = u) (Ok.ifT rfl (Ok.ret rfl)) ?_
        rintro _ _ rfl
        exact Ok.rdE B.1 (Ok.ifF (by decide) (Ok.ret fin))
    · rw [if_neg c30] at ep
      refine Ok.rdE hb (Ok.bd (fun _ u => BD (4, tkb k bt p) u ∧ FM t u ∧ u 150 = t 150) (Ok.ifT rfl (Ok.bd (fun r u => t = u ∧ r = nI c) (m_lines hN hs h9 hw ⟨rfl, by rw [← hc, Nat.mul_div_cancel_left _ (by omega)]⟩) ?_)) ?_)
      · rintro _ _ ⟨rfl, rfl⟩
        exact Ok.ifT (by rw [li_30, nI_eqP (by omega) (by omega)]; omega) (Ok.bd _ (m_faultsX (f := 4) h hb) (fun _ u hu => Ok.ret hu))
      rintro _ t3 ⟨B, F, e150⟩
      have hN2 : RN s N w t3 := hN.fr e150
      have fin : FM t t3 ∧ SO s t t3 ∧ Sum.elim (fun f => BD f t3 ∧ t3 150 = t 150) (fun v => RM k bt v.1 t3 ∧ t3 149 12 = 0 ∧ RN s N v.2 t3) (pline k bt N w c p) := ⟨F, SO.eq e150, by rw [ep]; exact ⟨B, e150⟩⟩
      refine Ok.bd (fun _ u => t3 = u) (b_passes B.1 rfl) ?_
      rintro _ _ rfl
      refine Ok.bd (fun _ u => t3 = u) (b_sign B.1 rfl) ?_
      rintro _ _ rfl
      refine Ok.bd (fun _ u => t3 = u) (b_must B.1 rfl) ?_
      rintro _ _ rfl
      refine Ok.bd (fun _ u => t3 = u) (m_points hN2 hs rfl) ?_
      rintro _ _ rfl
      refine Ok.bd (fun _ u => t3 = u) (b_here B.1 rfl) ?_
      rintro _ _ rfl
      refine Ok.rdE B.1 (Ok.bd (fun _ u => t3 = u) (Ok.ifF (by decide) (Ok.ret rfl)) ?_)
      rintro _ _ rfl
      refine Ok.rdE B.1 (Ok.bd (fun _ u => t3 = u) (Ok.ifF (by decide) (Ok.ret rfl)) ?_)
      rintro _ _ rfl
      refine Ok.bd (fun _ u => t3 = u) (b_passes B.1 rfl) ?_
      rintro _ _ rfl
      refine Ok.bd (fun r u => t3 = u ∧ r = 0) (b_sign B.1 ⟨rfl, rfl⟩) ?_
      rintro _ _ ⟨rfl, rfl⟩
      refine Ok.bd (fun _ u => t3 = u) (Ok.ifT rfl (Ok.ret rfl)) ?_
      rintro _ _ rfl
      exact Ok.rdE B.1 (Ok.ifF (by decide) (Ok.ret fin))
end
section
/-! the reference reads a text, the end -/
theorem plines_in {k : Nat} {bt : Nat → Nat} {N : Nat} (h1 : 1 ≤ N) (h9 : N < 10) : ∀ {f c p : Nat} {w : Nat → Nat → Nat} {v : Nat × Nat × (Nat → Nat → Nat)}, WF N w → 2 * c = dcn N w → plines k bt N f w c p = .inr v → WF N v.2.2 ∧ 2 * v.2.1 = dcn N v.2.2 ∧ v.2.1 ≤ 30
  | 0, c, p, w, v, _, _, h => by cases h
  | f + 1, c, p, w, v, hw, hc, h => by
    unfold plines at h
    cases e : pline k bt N w c (tke k bt p) with
    | inl q => rw [sbn_l e] at h; cases h
    | inr r =>
      rw [sbn_r e] at h
      obtain ⟨hc30, a, b, x, ha, hb, hab, hx1, hx9, h0, er⟩ := pline_in e
      have hw2 : WF N r.2 := by rw [er]; exact hw.set (by omega) (by omega) hab (by omega)
      have hc2 : 2 * (c + 1) = dcn N r.2 := by
        rw [er, dcn_add (by omega) (by omega) h9 hab h0 (by rw [hw.2.1]; exact h0) (by omega)]
        omega
      by_cases s44 : sgn k bt 44 r.1 = true
      · rw [if_pos s44] at h
        exact plines_in h1 h9 hw2 hc2 h
      · rw [if_neg s44] at h
        have h := Sum.inr.inj h
        subst h
        exact ⟨hw2, hc2, by show c + 1 ≤ 30; omega⟩
theorem plns_in {k : Nat} {bt : Nat → Nat} {N p : Nat} {v : Nat × Nat × (Nat → Nat → Nat)} (h1 : 1 ≤ N) (h9 : N < 10) (h : plns k bt N p = .inr v) : WF N v.2.2 ∧ 2 * v.2.1 = dcn N v.2.2 ∧ v.2.1 ≤ 30 := by
  have z : dcn N (fun _ _ => 0) = 0 := by
    unfold dcn
    refine sm_zero (fun i _ => ?_)
    rw [nr_0, cnt_0]
  unfold plns at h
  cases e : (if sgn k bt 58 p = true then plines k bt N 31 (fun _ _ => 0) 0 p else .inr (p, 0, fun _ _ => 0) : (Nat × Nat) ⊕ (Nat × Nat × (Nat → Nat → Nat))) with
  | inl f => rw [sbn_l e] at h; cases h
  | inr r =>
    rw [sbn_r e] at h
    have hr : WF N r.2.2 ∧ 2 * r.2.1 = dcn N r.2.2 ∧ r.2.1 ≤ 30 := by
      by_cases s58 : sgn k bt 58 p = true
      · rw [if_pos s58] at e
        exact plines_in h1 h9 WF.z (by rw [z]) e
      · rw [if_neg s58] at e
        have e := Sum.inr.inj e
        subst e
        exact ⟨WF.z, z.symm, by show 0 ≤ 30; omega⟩
    by_cases s59 : sgn k bt 59 r.1 = true
    · rw [if_pos s59] at h
      have h := Sum.inr.inj h
      subst h
      exact hr
    · rw [if_neg s59] at h
      cases h
/-- how many of the first m digits are new -/
def dnew (bt : Nat → Nat) (b N : Nat) : Nat → Prop
  | 0 => True
  | m + 1 => dnew bt b N m ∧ bt (b + m) - 48 < N ∧ (dm bt b m).testBit (bt (b + m) - 48) = false
theorem dnew_cnt {bt : Nat → Nat} {b N : Nat} : ∀ {m : Nat}, dnew bt b N m → (∀ i, i < m → bt (b + i) - 48 < N) ∧ cnt (dm bt b m) N = m
  | 0, _ => ⟨fun i hi => by omega, cnt_0 N⟩
  | m + 1, h => by
    obtain ⟨h1, h2, h3⟩ := h
    obtain ⟨a1, a2⟩ := dnew_cnt h1
    refine ⟨fun i hi => ?_, ?_⟩
    · by_cases e : i = m
      · rw [e]; exact h2
      · exact a1 i (by omega)
    · show cnt (dm bt b m ||| 2 ^ (bt (b + m) - 48)) N = m + 1
      rw [cnt_or h3, a2, if_pos h2]
theorem cnt_dup {S q : Nat} (h : S.testBit q = true) : S ||| 2 ^ q = S := by
  apply Nat.eq_of_testBit_eq
  intro k
  rw [Nat.testBit_or, pow_bit]
  by_cases e : q = k
  · subst e; rw [h]; rfl
  · simp [e]
theorem cnt_dm {bt : Nat → Nat} {b N : Nat} : ∀ {m : Nat}, cnt (dm bt b m) N ≤ m
  | 0 => by show cnt 0 N ≤ 0; rw [cnt_0]; exact Nat.le_refl 0
  | m + 1 => by
    have h1 := cnt_dm (bt := bt) (b := b) (N := N) (m := m)
    show cnt (dm bt b m ||| 2 ^ (bt (b + m) - 48)) N ≤ m + 1
    cases e : (dm bt b m).testBit (bt (b + m) - 48)
    · rw [cnt_or e]
      split <;> omega
    · rw [cnt_dup e]
      omega
theorem cnt_dnew {bt : Nat → Nat} {b N : Nat} : ∀ {m : Nat}, (∀ i, i < m → bt (b + i) - 48 < N) → cnt (dm bt b m) N = m → dnew bt b N m
  | 0, _, _ => trivial
  | m + 1, h, e => by
    have h1 := cnt_dm (bt := bt) (b := b) (N := N) (m := m)
    have e : cnt (dm bt b m ||| 2 ^ (bt (b + m) - 48)) N = m + 1 := e
    cases e2 : (dm bt b m).testBit (bt (b + m) - 48)
    · rw [cnt_or e2, if_pos (h m (by omega))] at e
      exact ⟨cnt_dnew (fun i hi => h i (by omega)) (by omega), h m (by omega), e2⟩
    · rw [cnt_dup e2] at e
      omega
theorem full_cnt {S N : Nat} (h : S < 2 ^ N) : cnt S N = N ↔ S = 2 ^ N - 1 := by
  constructor
  · intro e
    have h1 := cnt_full e
    refine bit_ext h (by have := Nat.two_pow_pos N; omega) (fun k hk => ?_)
    rw [h1 k hk, Nat.testBit_two_pow_sub_one]
    simp [hk]
  · rintro rfl
    refine cnt_all (fun p hp => ?_)
    rw [Nat.testBit_two_pow_sub_one]
    simp [hp]
theorem digs_iff {k : Nat} {bt : Nat → Nat} {N p : Nat} (h9 : N < 10) : digs k bt N p = true ↔ (tke k bt p = tkb k bt p + N ∧ dnew bt (tkb k bt p) N N) := by
  unfold digs
  rw [decide_eq_true_iff]
  constructor
  · rintro ⟨h1, h2, h3⟩
    exact ⟨h1, cnt_dnew h2 ((full_cnt (dm_lt (by omega) h2)).mpr h3)⟩
  · rintro ⟨h1, h2⟩
    obtain ⟨a1, a2⟩ := dnew_cnt h2
    exact ⟨h1, a1, (full_cnt (dm_lt (by omega) a1)).mp a2⟩
theorem dnew_dec {bt : Nat → Nat} {b N : Nat} : ∀ m, dnew bt b N m ∨ ¬ dnew bt b N m := fun m => Classical.em _
/-- the reference's row of slot s -/
def RO (s n : Nat) (o : Nat → Nat) (t : St) : Prop := ∀ i, i < 9 → t 150 (91 * s + 82 + i) = nI (if i < n then o i else 0)
theorem m_puts {s i v : Nat} {t : St} (hs : s < 3) (hi : i < 9) {Q : Unit → St → Prop} (q : Q () (wr t 150 (91 * s + 82 + i) (nI v))) : Ok (FX12_puts (nI s) (nI i) (nI v) t) Q := by
  refine (xX12_puts hs hi).mono ?_
  rintro _ _ rfl
  exact q
end
section
/-! the reference reads a row, a net -/
theorem dm_lt10 {bt : Nat → Nat} {b : Nat} : ∀ {m : Nat}, (∀ i, i < m → bt (b + i) ≤ 57) → dm bt b m < 2 ^ 10
  | 0, _ => Nat.two_pow_pos 10
  | m + 1, h => by
    have h1 := dm_lt10 (bt := bt) (b := b) (m := m) (fun i hi => h i (by omega))
    have h2 := h m (by omega)
    have h3 : 2 ^ (bt (b + m) - 48) < 2 ^ 10 := Nat.pow_lt_pow_right (by decide) (by omega)
    exact Nat.or_lt_two_pow h1 h3
theorem shl_1c {k : Nat} (hk : k < 31) : shl 1 (nI k) = nI (2 ^ k) := by
  have h2 : 2 ^ k < 2 ^ 31 := Nat.pow_lt_pow_right (by decide) hk
  have := shl_n (a := 1) (k := k) (by omega) (by omega)
  rw [Nat.one_mul] at this
  exact this
/-- where the row goes on -/
def prw (k : Nat) (bt : Nat → Nat) (N q : Nat) : (Nat × Nat) ⊕ Nat := if tkc k bt q = 2 then (if digs k bt N q = true then (if sgn k bt 59 (tke k bt q) = true then .inr (tke k bt (tke k bt q)) else .inl (1, tkb k bt (tke k bt q))) else .inl (5, tkb k bt q)) else .inl (1, tkb k bt q)
theorem m_readsRow {k : Nat} {bt : Nat → Nat} {t : St} {p s N : Nat} {w : Nat → Nat → Nat} (h : RM k bt p t) (hb : t 149 12 = 0) (hN : RN s N w t) (hs : s < 3) (h1 : 1 ≤ N) (h9 : N < 10) : Ok (FX12_readsRow (nI s) t) (fun _ u => FM t u ∧ (∀ j, (j < 91 * s + 82 ∨ 91 * s + 82 + N ≤ j) → u 150 j = t 150 j) ∧ Sum.elim (fun f => BD f u) (fun v => RM k bt v u ∧ u 149 12 = 0 ∧ ∀ i, i < N → u 150 (91 * s + 82 + i) = nI (bt (tkb k bt (tke k bt p) + i) - 48)) (prw k bt N (tke k bt p))) := by
  unfold FX12_readsRow
  refine Ok.bd _ (m_nx h) ?_
  rintro _ t1 ⟨R1, K1⟩
  generalize eq : tke k bt p = q at R1 ⊢
  have hle := R1.le
  have hc4 := tkc_lt (k := k) (bt := bt) (p := q)
  have b1 : t1 149 12 = 0 := by rw [K1.2 12 (by omega)]; exact hb
  have hN1 : RN s N w t1 := hN.fr (K1.1 150 (by decide))
  refine Ok.rdE R1.2.2.2.2.1 (Ok.rdE R1.2.2.1 (Ok.bd (fun r u => t1 = u ∧ r = nI N) (m_points hN1 hs ⟨rfl, rfl⟩) ?_))
  rintro _ _ ⟨rfl, rfl⟩
  rw [nI_sub hle.2.2.1]
  refine Ok.bd (fun r u => t1 = u ∧ ((r = 1 ∧ tke k bt q - tkb k bt q = N) ∨ (r = 0 ∧ ¬ tke k bt q - tkb k bt q = N))) (Ok.cv (nI_eqP (by omega) (by omega)) (Ok.ite (fun c => Ok.ret ⟨rfl, Or.inl ⟨rfl, c⟩⟩) (fun c => Ok.ret ⟨rfl, Or.inr ⟨rfl, c⟩⟩))) ?_
  rintro v12 _ ⟨rfl, hv12⟩
  refine Ok.rdE R1.2.2.1 ?_
  refine Ok.bd (fun r u => t1 = u ∧ (tkc k bt q = 2 → ((r = 1 ∧ digs k bt N q = true) ∨ (r = 0 ∧ digs k bt N q = false)))) ?_ ?_
  · by_cases c2 : tkc k bt q = 2
    · obtain ⟨hbk, hd⟩ := tk2 R1.1.1 R1.2.1 c2
      refine Ok.count (tke k bt q - tkb k bt q) (fun j c s' => c.1 = nI (dm bt (tkb k bt q) j) ∧ c.2.2 = nI (tkb k bt q + j) ∧ t1 = s' ∧ ((c.2.1 = 1 ∧ tke k bt q - tkb k bt q = N ∧ dnew bt (tkb k bt q) N j) ∨ (c.2.1 = 0 ∧ ¬ (tke k bt q - tkb k bt q = N ∧ dnew bt (tkb k bt q) N j)))) ?_ ?_ (Nat.zero_le _) ⟨rfl, rfl, rfl, ?_⟩
      · rintro j ⟨c1, c3, c4⟩ s' hj ⟨e1, e2, rfl, hg⟩
        dsimp only at e1 e2 hg
        subst e1
        subst e2
        unfold SX12_readsRow_35
        dsimp only
        have hd2 := hd (tkb k bt q + j) (by omega) (by omega)
        have hb3 := R1.1.2.2 (tkb k bt q + j) (by omega)
        have hdm := dm_lt10 (bt := bt) (b := tkb k bt q) (m := j) (fun i hi => (hd (tkb k bt q + i) (by omega) (by omega)).2)
        refine Ok.rdE R1.2.2.2.2.1 (Ok.ifF (by rw [nI_leP (by omega) (by omega)]; omega) (Ok.rdE R1.2.2.2.1 (Ok.ifT (by rw [c2]; rfl) (Ok.ckT (inb_n (by omega) (by omega)) ?_))))
        rw [nI_cl (by omega)]
        refine Ok.rdE hb3.2 ?_
        rw [li_48, nI_sub (by omega), shl_1c (by omega)]
        refine Ok.bd (fun r u => t1 = u ∧ ((r = 1 ∧ tke k bt q - tkb k bt q = N ∧ dnew bt (tkb k bt q) N (j + 1)) ∨ (r = 0 ∧ ¬ (tke k bt q - tkb k bt q = N ∧ dnew bt (tkb k bt q) N (j + 1))))) ?_ ?_
        · rcases hg with ⟨rfl, g1, g2⟩ | ⟨rfl, g⟩
          · refine Ok.ifF (by decide) (Ok.bd (fun r u => t1 = u ∧ r = nI N) (m_points hN1 hs ⟨rfl, rfl⟩) ?_)
            rintro _ _ ⟨rfl, rfl⟩
            refine Ok.cv (nI_leP (by omega) (by omega)) ?_
            refine Ok.ite (fun c => Ok.ret ⟨rfl, Or.inr ⟨rfl, fun a => ?_⟩⟩) (fun c => ?_)
            · have := a.2.2.1
              omega
            · refine Ok.bd _ (xX12_has (by omega) (by omega)) ?_
              rintro _ _ ⟨rfl, rfl⟩
              cases e : (dm bt (tkb k bt q) j).testBit (bt (tkb k bt q + j) - 48)
              · exact Ok.ifT rfl (Ok.ret ⟨rfl, Or.inl ⟨rfl, g1, g2, by omega, e⟩⟩)
              · refine Ok.ifF (by decide) (Ok.ret ⟨rfl, Or.inr ⟨rfl, fun a => ?_⟩⟩)
                have := a.2.2.2
                rw [e] at this
                cases this
          · exact Ok.ifT rfl (Ok.ret ⟨rfl, Or.inr ⟨rfl, fun a => g ⟨a.1, a.2.1⟩⟩⟩)
        · rintro r _ ⟨rfl, hr⟩
          refine Ok.ret ⟨?_, ?_, rfl, hr⟩
          · show _ = nI (dm bt (tkb k bt q) j ||| 2 ^ (bt (tkb k bt q + j) - 48))
            rw [← nI_or]
          · show nI _ + 1 = _
            rw [nI_1]
            rfl
      · rintro ⟨c1, c3, c4⟩ s' ⟨e1, e2, rfl, hg⟩
        dsimp only at e1 e2 hg
        subst e1
        subst e2
        unfold SX12_readsRow_35
        dsimp only
        refine Ok.rdE R1.2.2.2.2.1 (Ok.ifT (by rw [nI_leP (by omega) (by omega)]; omega) (Ok.ret ⟨rfl, fun _ => ?_⟩))
        rcases hg with ⟨rfl, g1, g2⟩ | ⟨rfl, g⟩
        · rw [g1] at g2
          exact Or.inl ⟨rfl, (digs_iff h9).mpr ⟨by omega, g2⟩⟩
        · refine Or.inr ⟨rfl, ?_⟩
          cases e : digs k bt N q
          · rfl
          · obtain ⟨a1, a2⟩ := (digs_iff h9).mp e
            exact absurd ⟨by omega, by rw [show tke k bt q - tkb k bt q = N by omega]; exact a2⟩ g
      · rcases hv12 with ⟨rfl, e⟩ | ⟨rfl, e⟩
        · exact Or.inl ⟨rfl, e, trivial⟩
        · exact Or.inr ⟨rfl, fun a => e a.1⟩
    · refine Ok.count 0 (fun j c s' => t1 = s') (fun j _ _ h => by omega) ?_ (Nat.zero_le _) rfl
      rintro c s' rfl
      unfold SX12_readsRow_35
      refine Ok.rd (fun v _ => Ok.ite (fun _ => Ok.ret ⟨rfl, fun a => absurd a c2⟩) (fun _ => Ok.rdE R1.2.2.2.1 (Ok.ifF (by rw [li_2, nI_eqP (by omega) (by omega)]; exact c2) (Ok.ret ⟨rfl, fun a => absurd a c2⟩))))
  rintro e40 _ ⟨rfl, he⟩
  have bad : ∀ (f : Nat × Nat) (t2 : St), BD f t2 → FM t1 t2 → t2 150 = t1 150 → prw k bt N q = .inl f → Ok (bnd (wh (SX12_readsRow_134 (nI s)) (0 : Int32) t2) (fun e66 t67 => (bnd (FX12_passes t67) (fun v70 t71 => (bnd (FX12_isSign (59 : Int32) t71) (fun v73 t74 => (bnd (FX12_must v73 t74) (fun v76 t77 => (some ((), t77)))))))))) (fun _ u => FM t u ∧ (∀ j, (j < 91 * s + 82 ∨ 91 * s + 82 + N ≤ j) → u 150 j = t 150 j) ∧ Sum.elim (fun f => BD f u) (fun v => RM k bt v u ∧ u 149 12 = 0 ∧ ∀ i, i < N → u 150 (91 * s + 82 + i) = nI (bt (tkb k bt q + i) - 48)) (prw k bt N q)) := by
    intro f t2 B F e0 ep
    refine Ok.bd (fun _ u => t2 = u) ?_ ?_
    · refine Ok.count 0 (fun j c s' => c = nI 0 ∧ t2 = s') (fun j _ _ h => by omega) ?_ (Nat.zero_le _) ⟨rfl, rfl⟩
      rintro c s' ⟨rfl, rfl⟩
      unfold SX12_readsRow_134
      refine Ok.bd (fun r u => t2 = u ∧ r = nI N) (m_points (hN1.fr e0) hs ⟨rfl, rfl⟩) ?_
      rintro _ _ ⟨rfl, rfl⟩
      exact Ok.ifF (by rw [nI_leP (by omega) (by omega)]; omega) (Ok.rdE B.1 (Ok.ifF (by decide) (Ok.ret rfl)))
    rintro _ _ rfl
    refine Ok.bd (fun _ u => t2 = u) (b_passes B.1 rfl) ?_
    rintro _ _ rfl
    refine Ok.bd (fun _ u => t2 = u) (b_sign B.1 rfl) ?_
    rintro _ _ rfl
    refine Ok.bd (fun _ u => t2 = u) (b_must B.1 rfl) ?_
    rintro _ _ rfl
    refine Ok.ret ⟨K1.fm.tr F, fun j _ => by rw [e0, K1.1 150 (by decide)], ?_⟩
    rw [ep]
    exact B
  refine Ok.rdE R1.2.2.2.1 ?_
  by_cases c2 : tkc k bt q = 2
  · rcases he c2 with ⟨rfl, hd⟩ | ⟨rfl, hd⟩
    · refine Ok.bd (fun _ u => t1 = u) (Ok.ifT (by rw [c2]; rfl) (Ok.ifF (by decide) (Ok.ret rfl))) ?_
      rintro _ _ rfl
      obtain ⟨hbk, hdd⟩ := tk2 R1.1.1 R1.2.1 c2
      have hlen := ((digs_iff h9).mp hd).1
      refine Ok.bd (fun _ u => (∀ c, c ≠ 150 → u c = t1 c) ∧ (∀ i, i < N → u 150 (91 * s + 82 + i) = nI (bt (tkb k bt q + i) - 48)) ∧ ∀ j, (j < 91 * s + 82 ∨ 91 * s + 82 + N ≤ j) → u 150 j = t1 150 j) ?_ ?_
      · refine Ok.count N (fun j c u => c = nI j ∧ (∀ c, c ≠ 150 → u c = t1 c) ∧ (∀ i, i < j → u 150 (91 * s + 82 + i) = nI (bt (tkb k bt q + i) - 48)) ∧ ∀ i, (i < 91 * s + 82 ∨ 91 * s + 82 + j ≤ i) → u 150 i = t1 150 i) ?_ ?_ (Nat.zero_le _) ⟨rfl, fun _ _ => rfl, fun i hi => by omega, fun _ _ => rfl⟩
        · rintro j c u hj ⟨rfl, g1, g2, g3⟩
          unfold SX12_readsRow_134
          have e9 := g1 149 (by decide)
          have hNu : t1 150 (91 * s) = u 150 (91 * s) := (g3 _ (by omega)).symm
          refine Ok.bd (fun r v => u = v ∧ r = nI N) ?_ ?_
          · unfold FX12_points
            rw [li_91, nI_mul]
            refine Ok.ckT (inb_n (by omega) (by omega)) (Ok.rdE (x := nI N) ?_ (Ok.ret ⟨rfl, rfl⟩))
            rw [nI_cl (by omega), ← hNu]
            exact hN1.1
          rintro _ _ ⟨rfl, rfl⟩
          refine Ok.ifF (by rw [nI_leP (by omega) (by omega)]; omega) (Ok.rdE (x := 0) (by rw [e9]; exact b1) (Ok.ifT rfl (Ok.rdE (x := nI (tkb k bt q)) (by rw [e9]; exact R1.2.2.1) ?_)))
          rw [nI_add]
          refine Ok.ckT (inb_n (by omega) (by omega)) ?_
          have hd2 := hdd (tkb k bt q + j) (by omega) (by omega)
          have hb3 := R1.1.2.2 (tkb k bt q + j) (by omega)
          rw [nI_cl (by omega)]
          refine Ok.rdE (x := nI (bt (tkb k bt q + j))) (by rw [g1 153 (by decide)]; exact hb3.2) ?_
          rw [li_48, nI_sub (by omega)]
          refine Ok.bd (fun _ v => wr u 150 (91 * s + 82 + j) (nI (bt (tkb k bt q + j) - 48)) = v) (m_puts hs (by omega) rfl) ?_
          rintro _ _ rfl
          refine Ok.ret ⟨nI_1 j, fun c hc => by rw [wr_off c hc]; exact g1 c hc, fun i hi => ?_, fun i hi => by rw [wrn (by omega)]; exact g3 i (by omega)⟩
          by_cases e : i = j
          · subst e; rw [wrs]
          · rw [wrn (by omega)]; exact g2 i (by omega)
        · rintro c u ⟨rfl, g1, g2, g3⟩
          unfold SX12_readsRow_134
          have hNu : t1 150 (91 * s) = u 150 (91 * s) := (g3 _ (by omega)).symm
          refine Ok.bd (fun r v => u = v ∧ r = nI N) ?_ ?_
          · unfold FX12_points
            rw [li_91, nI_mul]
            refine Ok.ckT (inb_n (by omega) (by omega)) (Ok.rdE (x := nI N) ?_ (Ok.ret ⟨rfl, rfl⟩))
            rw [nI_cl (by omega), ← hNu]
            exact hN1.1
          rintro _ _ ⟨rfl, rfl⟩
          exact Ok.ifT (by rw [nI_leP (by omega) (by omega)]; omega) (Ok.ret ⟨g1, g2, g3⟩)
      rintro _ t2 ⟨g1, g2, g3⟩
      have R2 : RM k bt q t2 := R1.md (g1 149 (by decide)) (g1 153 (by decide))
      have b2 : t2 149 12 = 0 := by rw [g1 149 (by decide)]; exact b1
      refine Ok.bd _ (m_passes R2 b2) ?_
      rintro _ t3 ⟨R3, K3⟩
      have b3 : t3 149 12 = 0 := by rw [K3.2 12 (by omega)]; exact b2
      have F3 : FM t t3 := (K1.fm.tr ⟨fun c _ h2 => g1 c h2, fun i _ => by rw [g1 149 (by decide)]⟩).tr K3.fm
      have o3 : ∀ j, (j < 91 * s + 82 ∨ 91 * s + 82 + N ≤ j) → t3 150 j = t 150 j := fun j hj => by rw [K3.1 150 (by decide), g3 j hj, K1.1 150 (by decide)]
      refine Ok.bd (fun r u => t3 = u ∧ ((r = 1 ∧ sgn k bt 59 (tke k bt q) = true) ∨ (r = 0 ∧ sgn k bt 59 (tke k bt q) = false))) (m_sign (c := 59) R3 b3 (by omega) (fun a => ⟨rfl, Or.inl ⟨rfl, a⟩⟩) (fun a => ⟨rfl, Or.inr ⟨rfl, a⟩⟩)) ?_
      rintro r _ ⟨rfl, ⟨rfl, s59⟩ | ⟨rfl, s59⟩⟩
      · have ep : prw k bt N q = .inr (tke k bt (tke k bt q)) := by unfold prw; rw [if_pos c2, if_pos hd, if_pos s59]
        refine Ok.bd _ (m_must1 R3 b3) ?_
        rintro _ t4 ⟨R4, K4⟩
        refine Ok.ret ⟨F3.tr K4.fm, fun j hj => by rw [K4.1 150 (by decide)]; exact o3 j hj, ?_⟩
        rw [ep]
        refine ⟨R4, by rw [K4.2 12 (by omega)]; exact b3, fun i hi => ?_⟩
        rw [K4.1 150 (by decide), K3.1 150 (by decide)]
        exact g2 i hi
      · have ep : prw k bt N q = .inl (1, tkb k bt (tke k bt q)) := by unfold prw; rw [if_pos c2, if_pos hd, if_neg (by rw [s59]; decide)]
        refine Ok.bd _ (m_must0X R3 b3) ?_
        rintro _ t4 ⟨B, F, e0⟩
        refine Ok.ret ⟨F3.tr F, fun j hj => by rw [e0]; exact o3 j hj, ?_⟩
        rw [ep]
        exact B
    · have ep : prw k bt N q = .inl (5, tkb k bt q) := by unfold prw; rw [if_pos c2, if_neg (by rw [hd]; decide)]
      refine Ok.bd (fun _ u => BD (5, tkb k bt q) u ∧ FM t1 u ∧ u 150 = t1 150) (Ok.ifT (by rw [c2]; rfl) (Ok.ifT rfl (Ok.bd _ (m_faultsX (f := 5) R1 b1) (fun _ u hu => Ok.ret hu)))) ?_
      rintro _ t2 ⟨B, F, e0⟩
      exact bad _ t2 B F e0 ep
  · have ep : prw k bt N q = .inl (1, tkb k bt q) := by unfold prw; rw [if_neg c2]
    refine Ok.bd (fun _ u => BD (1, tkb k bt q) u ∧ FM t1 u ∧ u 150 = t1 150) (Ok.ifF (by rw [li_2, nI_eqP (by omega) (by omega)]; exact c2) (Ok.bd _ (m_faultsX (f := 1) R1 b1) (fun _ u hu => Ok.ret hu))) ?_
    rintro _ t2 ⟨B, F, e0⟩
    exact bad _ t2 B F e0 ep
end
section
/-! the reference reads a net; told -/
theorem m_emp {α : Type} {s N : Nat} {t : St} (hs : s < 3) (hN : N < 10) {K : Unit → St → Option (α × St)} {Q : α → St → Prop} (hK : ∀ u, (∀ c, c ≠ 150 → u c = t c) → RN s N (fun _ _ => 0) u → RO s N (fun i => i) u → (∀ j, (j < 91 * s ∨ 91 * s + 91 ≤ j) → u 150 j = t 150 j) → Ok (K () u) Q) : Ok (bnd (FX12_empties (nI s) t) (fun _ t14 => (chk (inb ((91 : Int32) * nI s) 273) (wrb t14 150 (((91 : Int32) * nI s).toNatClampNeg) (nI N) (fun t17 => (bnd (wh (SX12_readsNet_39 (nI s) (nI N)) (0 : Int32) t17) K)))))) Q := by
  refine Ok.bd _ (xX12_empties hs) ?_
  rintro _ _ rfl
  rw [li_91, nI_mul]
  refine Ok.ckT (inb_n (by omega) (by omega)) (OkwrE ?_)
  rw [nI_cl (by omega)]
  refine Ok.bd (fun _ u => (∀ c, c ≠ 150 → u c = t c) ∧ RN s N (fun _ _ => 0) u ∧ RO s N (fun i => i) u ∧ ∀ j, (j < 91 * s ∨ 91 * s + 91 ≤ j) → u 150 j = t 150 j) ?_ ?_
  · refine Ok.count N (fun j c u => c = nI j ∧ (∀ c, c ≠ 150 → u c = t c) ∧ RN s N (fun _ _ => 0) u ∧ (∀ i, i < 9 → u 150 (91 * s + 82 + i) = nI (if i < j then i else 0)) ∧ ∀ j, (j < 91 * s ∨ 91 * s + 91 ≤ j) → u 150 j = t 150 j) ?_ ?_ (Nat.zero_le _) ⟨rfl, fun c hc => ?_, ⟨wrs, fun a b ha hb => ?_⟩, fun i hi => ?_, fun j hj => ?_⟩
    · rintro j c u hj ⟨rfl, g1, g2, g3, g4⟩
      unfold SX12_readsNet_39
      refine Ok.ifF (by rw [nI_leP (by omega) (by omega)]; omega) (Ok.bd (fun _ v => wr u 150 (91 * s + 82 + j) (nI j) = v) (m_puts hs (by omega) rfl) ?_)
      rintro _ _ rfl
      refine Ok.ret ⟨nI_1 j, fun c hc => by rw [wr_off c hc]; exact g1 c hc, ⟨by rw [wrn (by omega)]; exact g2.1, fun a b ha hb => by rw [wrn (by omega)]; exact g2.2 a b ha hb⟩, fun i hi => ?_, fun i hi => by rw [wrn (by omega)]; exact g4 i hi⟩
      by_cases e : i = j
      · subst e
        rw [wrs, if_pos (by omega)]
      · rw [wrn (by omega), g3 i hi]
        by_cases e2 : i < j
        · rw [if_pos e2, if_pos (by omega)]
        · rw [if_neg e2, if_neg (by omega)]
    · rintro c u ⟨rfl, g1, g2, g3, g4⟩
      unfold SX12_readsNet_39
      exact Ok.ifT (by rw [nI_leP (by omega) (by omega)]; omega) (Ok.ret ⟨g1, g2, g3, g4⟩)
    · rw [wr_off c hc, stp_off hc]
    · rw [wrn (by omega), stp_at, if_pos (by omega)]
      rfl
    · rw [wrn (by omega), stp_at, if_pos (by omega), if_neg (by omega)]
      rfl
    · rw [wrn (by omega), stp_at, if_neg (by omega)]
  · rintro _ u ⟨g1, g2, g3, g4⟩
    exact hK u g1 g2 g3 g4
theorem prow_eq {k : Nat} {bt : Nat → Nat} {N p : Nat} : prow k bt N p = if tkc k bt p = 0 then .inr (fun i => i) else if wrd k bt 114 111 119 p = true then sbn (prw k bt N (tke k bt p)) (fun v => if tkc k bt v = 0 then .inr (fun i => bt (tkb k bt (tke k bt p) + i) - 48) else .inl (1, tkb k bt v)) else .inl (1, tkb k bt p) := by
  unfold prow prw
  by_cases c0 : tkc k bt p = 0
  · rw [if_pos c0, if_pos c0]
  · rw [if_neg c0, if_neg c0]
    by_cases c1 : wrd k bt 114 111 119 p = true
    · rw [if_pos c1, if_pos c1]
      by_cases c2 : tkc k bt (tke k bt p) = 2
      · rw [if_pos c2, if_pos c2]
        by_cases c3 : digs k bt N (tke k bt p) = true
        · rw [if_pos c3, if_pos c3]
          by_cases c4 : sgn k bt 59 (tke k bt (tke k bt p)) = true
          · rw [if_pos c4, if_pos c4]
            rfl
          · rw [if_neg c4, if_neg c4]
            rfl
        · rw [if_neg c3, if_neg c3]
          rfl
      · rw [if_neg c2, if_neg c2]
        rfl
    · rw [if_neg c1, if_neg c1]
/-- what follows the weights when a fault is told -/
theorem m_readsNet {k : Nat} {bt : Nat → Nat} {t : St} {s : Nat} (h : RM k bt 0 t) (hb : t 149 12 = 0) (hs : s < 3) : Ok (FX12_readsNet (nI s) t) (fun _ u => FM t u ∧ Sum.elim (fun f => BD f u) (fun v => u 149 12 = 0 ∧ RN s v.1 v.2.2.1 u ∧ RO s v.1 v.2.2.2 u ∧ ∀ j, (j < 91 * s ∨ 91 * s + 91 ≤ j) → u 150 j = t 150 j) (ptext k bt)) := by
  unfold FX12_readsNet
  -- a fault: what is left does nothing
  have tail : ∀ (f : Nat × Nat) (u : St), BD f u → FM t u → ptext k bt = .inl f → Ok (bnd (FX12_isSign (59 : Int32) u) (fun v35 t36 => (bnd (FX12_must v35 t36) (fun v38 t39 => (bnd (FX12_isWord_s5  t39) (fun v41 t42 => (bnd (if v41 = (0 : Int32) then (some ((), t42)) else (bnd (FX12_readsRow (nI s) t42) (fun v61 t62 => (some ((), t62))))) (fun v45 t46 => (rdb t46 149 (12) (fun v49 => (if v49 = (0 : Int32) then (rdb t46 149 (10) (fun v53 => (if v53 = (0 : Int32) then (some ((), t46)) else (bnd (FX12_faults (1 : Int32) t46) (fun v57 t58 => (some ((), t58))))))) else (some ((), t46))))))))))))) (fun _ u => FM t u ∧ Sum.elim (fun f => BD f u) (fun v => u 149 12 = 0 ∧ RN s v.1 v.2.2.1 u ∧ RO s v.1 v.2.2.2 u ∧ ∀ j, (j < 91 * s ∨ 91 * s + 91 ≤ j) → u 150 j = t 150 j) (ptext k bt)) := by
    intro f u B F ep
    refine Ok.bd (fun _ v => u = v) (b_sign B.1 rfl) ?_
    rintro _ _ rfl
    refine Ok.bd (fun _ v => u = v) (b_must B.1 rfl) ?_
    rintro _ _ rfl
    refine Ok.bd (fun r v => u = v ∧ r = 0) (b_word5 B.1 ⟨rfl, rfl⟩) ?_
    rintro _ _ ⟨rfl, rfl⟩
    refine Ok.bd (fun _ v => u = v) (Ok.ifT rfl (Ok.ret rfl)) ?_
    rintro _ _ rfl
    refine Ok.rdE B.1 (Ok.ifF (by decide) (Ok.ret ⟨F, ?_⟩))
    rw [ep]
    exact B
  -- a fault ahead of the lines
  have tail2 : ∀ (f : Nat × Nat) (u : St), BD f u → FM t u → ptext k bt = .inl f → Ok (bnd (FX12_passes u) (fun v10 t11 => (bnd (FX12_empties (nI s) t11) (fun v13 t14 => (chk (inb ((91 : Int32) * (nI s)) 273) (wrb t14 150 (((91 : Int32) * (nI s)).toNatClampNeg) (nI 1) (fun t17 => (bnd (wh (SX12_readsNet_39 (nI s) (nI 1)) (0 : Int32) t17) (fun e23 t24 => (bnd (FX12_isSign (58 : Int32) t24) (fun v27 t28 => (bnd (if v27 = (0 : Int32) then (some ((), t28)) else (bnd (FX12_next  t28) (fun v64 t65 => (bnd (FX12_readsLine (nI s) t65) (fun v67 t68 => (bnd (wh (SX12_readsNet_75 (nI s)) () t68) (fun e80 t81 => (some ((), t81))))))))) (fun v31 t32 => (bnd (FX12_isSign (59 : Int32) t32) (fun v35 t36 => (bnd (FX12_must v35 t36) (fun v38 t39 => (bnd (FX12_isWord_s5  t39) (fun v41 t42 => (bnd (if v41 = (0 : Int32) then (some ((), t42)) else (bnd (FX12_readsRow (nI s) t42) (fun v61 t62 => (some ((), t62))))) (fun v45 t46 => (rdb t46 149 (12) (fun v49 => (if v49 = (0 : Int32) then (rdb t46 149 (10) (fun v53 => (if v53 = (0 : Int32) then (some ((), t46)) else (bnd (FX12_faults (1 : Int32) t46) (fun v57 t58 => (some ((), t58))))))) else (some ((), t46)))))))))))))))))))))))))) (fun _ u => FM t u ∧ Sum.elim (fun f => BD f u) (fun v => u 149 12 = 0 ∧ RN s v.1 v.2.2.1 u ∧ RO s v.1 v.2.2.2 u ∧ ∀ j, (j < 91 * s ∨ 91 * s + 91 ≤ j) → u 150 j = t 150 j) (ptext k bt)) := by
    intro f u B F ep
    refine Ok.bd (fun _ v => u = v) (b_passes B.1 rfl) ?_
    rintro _ _ rfl
    refine m_emp hs (by omega) (fun v g1 g2 g3 g4 => ?_)
    have B2 : BD f v := by unfold BD; rw [g1 149 (by decide)]; exact B
    have F2 : FM t v := F.tr ⟨fun c _ h2 => g1 c h2, fun i _ => by rw [g1 149 (by decide)]⟩
    refine Ok.bd (fun r x => v = x ∧ r = 0) (b_sign B2.1 ⟨rfl, rfl⟩) ?_
    rintro _ _ ⟨rfl, rfl⟩
    refine Ok.bd (fun _ x => v = x) (Ok.ifT rfl (Ok.ret rfl)) ?_
    rintro _ _ rfl
    exact tail f v B2 F2 ep
  refine Ok.bd (fun r u => t = u ∧ ((r = 1 ∧ wrd k bt 110 101 116 0 = true) ∨ (r = 0 ∧ wrd k bt 110 101 116 0 = false))) (m_word4 h hb (fun a => ⟨rfl, Or.inl ⟨rfl, a⟩⟩) (fun a => ⟨rfl, Or.inr ⟨rfl, a⟩⟩)) ?_
  rintro r _ ⟨rfl, ⟨rfl, hw⟩ | ⟨rfl, hw⟩⟩
  · have ep : ptext k bt = _ := if_pos hw
    refine Ok.bd _ (m_must1 h hb) ?_
    rintro _ t1 ⟨R1, K1⟩
    have b1 : t1 149 12 = 0 := by rw [K1.2 12 (by omega)]; exact hb
    refine Ok.bd _ (m_hereX (lo := 1) (hi := 9) R1 b1 (by omega) (by omega)) ?_
    intro r t2 hr
    cases e : num k bt 1 9 (tke k bt 0) with
    | inl f =>
      rw [e] at hr
      obtain ⟨rfl, B, F, -⟩ := hr
      exact tail2 f t2 B (K1.fm.tr F) (ep.trans (sbn_l e))
    | inr N =>
      rw [e] at hr
      obtain ⟨rfl, rfl⟩ := hr
      have hv := num_in e
      rw [sbn_r e] at ep
      refine Ok.bd _ (m_passes R1 b1) ?_
      rintro _ t2 ⟨R2, K2⟩
      have K12 := K1.tr K2
      refine m_emp hs (N := N) (by omega) (fun t3 g1 g2 g3 g4 => ?_)
      have R3 : RM k bt (tke k bt (tke k bt 0)) t3 := R2.md (g1 149 (by decide)) (g1 153 (by decide))
      have b3 : t3 149 12 = 0 := by rw [g1 149 (by decide), K12.2 12 (by omega)]; exact hb
      have F3 : FM t t3 := K12.fm.tr ⟨fun c _ h2 => g1 c h2, fun i _ => by rw [g1 149 (by decide)]⟩
      have o3 : ∀ j, (j < 91 * s ∨ 91 * s + 91 ≤ j) → t3 150 j = t 150 j := fun j hj => by rw [g4 j hj, K12.1 150 (by decide)]
      generalize tke k bt (tke k bt 0) = q at R3 ep
      have z : dcn N (fun _ _ => 0) = 0 := by
        unfold dcn
        refine sm_zero (fun i _ => ?_)
        rw [nr_0, cnt_0]
      generalize eX : (if sgn k bt 58 q = true then plines k bt N 31 (fun _ _ => 0) 0 q else .inr (q, 0, fun _ _ => 0) : (Nat × Nat) ⊕ (Nat × Nat × (Nat → Nat → Nat))) = X
      have epl : plns k bt N q = sbn X (fun r => if sgn k bt 59 r.1 = true then .inr (tke k bt r.1, r.2.1, r.2.2) else .inl (1, tkb k bt r.1)) := by unfold plns; rw [eX]
      refine Ok.bd (fun r u => t3 = u ∧ ((r = 1 ∧ sgn k bt 58 q = true) ∨ (r = 0 ∧ sgn k bt 58 q = false))) (m_sign (c := 58) R3 b3 (by omega) (fun a => ⟨rfl, Or.inl ⟨rfl, a⟩⟩) (fun a => ⟨rfl, Or.inr ⟨rfl, a⟩⟩)) ?_
      rintro r _ ⟨rfl, hr⟩
      refine Ok.bd (fun _ u => FM t3 u ∧ SO s t3 u ∧ Sum.elim (fun f => BD f u) (fun v => RM k bt v.1 u ∧ u 149 12 = 0 ∧ RN s N v.2.2 u) X) ?_ ?_
      · rcases hr with ⟨rfl, s58⟩ | ⟨rfl, s58⟩
        · rw [if_pos s58] at eX
          have eX : X = sbn (pline k bt N (fun _ _ => 0) 0 (tke k bt q)) (fun r => if sgn k bt 44 r.1 = true then plines k bt N 30 r.2 1 r.1 else .inr (r.1, 1, r.2)) := eX.symm
          refine Ok.ifF (by decide) (Ok.bd _ (m_nx R3) ?_)
          rintro _ t4 ⟨R4, K4⟩
          have b4 : t4 149 12 = 0 := by rw [K4.2 12 (by omega)]; exact b3
          refine Ok.bd _ (m_readsLine R4 b4 (g2.fr (K4.1 150 (by decide))) hs WF.z hv.1 (by omega) (c := 0) (by rw [z]) (by omega)) ?_
          rintro _ t5 ⟨F5, S5, h5⟩
          have F35 := K4.fm.tr F5
          have S35 : SO s t3 t5 := fun j hj => (S5 j hj).trans (by rw [K4.1 150 (by decide)])
          refine Ok.bd (fun _ u => FM t3 u ∧ SO s t3 u ∧ Sum.elim (fun f => BD f u) (fun v => RM k bt v.1 u ∧ u 149 12 = 0 ∧ RN s N v.2.2 u) X) ?_ (fun _ u hu => Ok.ret hu)
          refine Ok.loop (fun m _ u => FM t3 u ∧ SO s t3 u ∧ ((∃ f, X = .inl f ∧ BD f u ∧ m = 0) ∨ ∃ c p w, m = 40 - c ∧ c ≤ 30 ∧ WF N w ∧ 2 * c = dcn N w ∧ RM k bt p u ∧ u 149 12 = 0 ∧ RN s N w u ∧ X = (if sgn k bt 44 p = true then plines k bt N (31 - c) w c p else .inr (p, c, w)))) ?_ (match pline k bt N (fun _ _ => 0) 0 (tke k bt q) with | .inl _ => 0 | .inr _ => 39) _ _ ⟨F35, S35, ?_⟩
          · rintro m ⟨⟩ u ⟨Fu, Su, ⟨f, hX, B, rfl⟩ | ⟨c, p, w, rfl, hc, hwf, hdc, Ru, bu, hNu, hX⟩⟩
            · unfold SX12_readsNet_75
              refine Ok.bd (fun r v => u = v ∧ r = 0) (b_sign B.1 ⟨rfl, rfl⟩) ?_
              rintro _ _ ⟨rfl, rfl⟩
              refine Ok.ifT rfl (Ok.ret ⟨Fu, Su, ?_⟩)
              rw [hX]
              exact B
            · unfold SX12_readsNet_75
              refine Ok.bd (fun r v => u = v ∧ ((r = 1 ∧ sgn k bt 44 p = true) ∨ (r = 0 ∧ sgn k bt 44 p = false))) (m_sign (c := 44) Ru bu (by omega) (fun a => ⟨rfl, Or.inl ⟨rfl, a⟩⟩) (fun a => ⟨rfl, Or.inr ⟨rfl, a⟩⟩)) ?_
              rintro r _ ⟨rfl, ⟨rfl, s44⟩ | ⟨rfl, s44⟩⟩
              · rw [if_pos s44, show 31 - c = (30 - c) + 1 by omega] at hX
                have hX : X = sbn (pline k bt N w c (tke k bt p)) (fun r => if sgn k bt 44 r.1 = true then plines k bt N (30 - c) r.2 (c + 1) r.1 else .inr (r.1, c + 1, r.2)) := hX
                refine Ok.ifF (by decide) (Ok.bd _ (m_nx Ru) ?_)
                rintro _ u2 ⟨R2', K2'⟩
                have b2' : u2 149 12 = 0 := by rw [K2'.2 12 (by omega)]; exact bu
                refine Ok.bd _ (m_readsLine R2' b2' (hNu.fr (K2'.1 150 (by decide))) hs hwf hv.1 (by omega) hdc hc) ?_
                rintro _ u3 ⟨F3', S3', h3'⟩
                have FF := (Fu.tr K2'.fm).tr F3'
                have SS : SO s t3 u3 := fun j hj => (S3' j hj).trans ((by rw [K2'.1 150 (by decide)] : u2 150 j = u 150 j).trans (Su j hj))
                cases e6 : pline k bt N w c (tke k bt p) with
                | inl f =>
                  rw [e6] at h3'
                  exact Ok.ret ⟨0, by omega, FF, SS, Or.inl ⟨f, hX.trans (sbn_l e6), h3'.1, rfl⟩⟩
                | inr v =>
                  rw [e6] at h3'
                  obtain ⟨hc30, a, b, x, ha, hb', hab, hx1, hx9, h0, ev⟩ := pline_in e6
                  refine Ok.ret ⟨40 - (c + 1), by omega, FF, SS, Or.inr ⟨c + 1, v.1, v.2, rfl, by omega, ?_, ?_, h3'.1, h3'.2.1, h3'.2.2, ?_⟩⟩
                  · rw [ev]
                    exact hwf.set (by omega) (by omega) hab (by omega)
                  · rw [ev, dcn_add (by omega) (by omega) (by omega) hab h0 (by rw [hwf.2.1]; exact h0) (by omega)]
                    omega
                  · rw [hX, sbn_r e6, show 31 - (c + 1) = 30 - c by omega]
              · rw [if_neg (by rw [s44]; decide)] at hX
                refine Ok.ifT rfl (Ok.ret ⟨Fu, Su, ?_⟩)
                rw [hX]
                exact ⟨Ru, bu, hNu⟩
          · cases e6 : pline k bt N (fun _ _ => 0) 0 (tke k bt q) with
            | inl f =>
              rw [e6] at h5
              exact Or.inl ⟨f, eX.trans (sbn_l e6), h5.1, rfl⟩
            | inr v =>
              rw [e6] at h5
              obtain ⟨hc30, a, b, x, ha, hb', hab, hx1, hx9, h0, ev⟩ := pline_in e6
              refine Or.inr ⟨1, v.1, v.2, rfl, by omega, ?_, ?_, h5.1, h5.2.1, h5.2.2, ?_⟩
              · rw [ev]
                exact WF.z.set (by omega) (by omega) hab (by omega)
              · rw [ev, dcn_add (by omega) (by omega) (by omega) hab rfl rfl (by omega), z]
              · rw [eX, sbn_r e6]
        · rw [if_neg (by rw [s58]; decide)] at eX
          refine Ok.ifT rfl (Ok.ret ⟨FM.rf, SO.rf, ?_⟩)
          rw [← eX]
          exact ⟨R3, b3, g2⟩
      · rintro _ t4 ⟨F4, S4, h4⟩
        cases e4 : X with
        | inl f =>
          rw [e4] at h4
          exact tail f t4 h4 (F3.tr F4) (ep.trans (sbn_l (epl.trans (sbn_l e4))))
        | inr v =>
          rw [e4] at h4 epl
          obtain ⟨R4, b4, N4⟩ := h4
          have epl : plns k bt N q = if sgn k bt 59 v.1 = true then .inr (tke k bt v.1, v.2.1, v.2.2) else .inl (1, tkb k bt v.1) := epl
          have o4 : ∀ j, (j < 91 * s ∨ 91 * s + 91 ≤ j) → t4 150 j = t 150 j := fun j hj => (S4 j (by omega)).trans (o3 j hj)
          have r4 : RO s N (fun i => i) t4 := fun i hi => (S4 _ (by omega)).trans (g3 i hi)
          refine Ok.bd (fun r u => t4 = u ∧ ((r = 1 ∧ sgn k bt 59 v.1 = true) ∨ (r = 0 ∧ sgn k bt 59 v.1 = false))) (m_sign (c := 59) R4 b4 (by omega) (fun a => ⟨rfl, Or.inl ⟨rfl, a⟩⟩) (fun a => ⟨rfl, Or.inr ⟨rfl, a⟩⟩)) ?_
          rintro r _ ⟨rfl, ⟨rfl, s59⟩ | ⟨rfl, s59⟩⟩
          · rw [if_pos s59] at epl
            rw [sbn_r epl] at ep
            refine Ok.bd _ (m_must1 R4 b4) ?_
            rintro _ t5 ⟨R5, K5⟩
            have b5 : t5 149 12 = 0 := by rw [K5.2 12 (by omega)]; exact b4
            have F5 := (F3.tr F4).tr K5.fm
            have N5 : RN s N v.2.2 t5 := N4.fr (K5.1 150 (by decide))
            have hc4 := tkc_lt (k := k) (bt := bt) (p := tke k bt v.1)
            refine Ok.bd (fun r u => t5 = u ∧ ((r = 1 ∧ wrd k bt 114 111 119 (tke k bt v.1) = true) ∨ (r = 0 ∧ wrd k bt 114 111 119 (tke k bt v.1) = false))) (m_word5 R5 b5 (fun a => ⟨rfl, Or.inl ⟨rfl, a⟩⟩) (fun a => ⟨rfl, Or.inr ⟨rfl, a⟩⟩)) ?_
            rintro r _ ⟨rfl, ⟨rfl, hr⟩ | ⟨rfl, hr⟩⟩
            · have c0 : ¬ tkc k bt (tke k bt v.1) = 0 := fun q => by
                have := (of_decide_eq_true hr).1
                omega
              have er : prow k bt N (tke k bt v.1) = _ := prow_eq.trans ((if_neg c0).trans (if_pos hr))
              refine Ok.bd (fun _ u => FM t5 u ∧ (∀ j, (j < 91 * s + 82 ∨ 91 * s + 82 + N ≤ j) → u 150 j = t5 150 j) ∧ Sum.elim (fun f => BD f u) (fun w => RM k bt w u ∧ u 149 12 = 0 ∧ ∀ i, i < N → u 150 (91 * s + 82 + i) = nI (bt (tkb k bt (tke k bt (tke k bt v.1)) + i) - 48)) (prw k bt N (tke k bt (tke k bt v.1)))) (Ok.ifF (by decide) (Ok.bd _ (m_readsRow R5 b5 N5 hs hv.1 (by omega)) (fun _ u hu => Ok.ret hu))) ?_
              rintro _ t6 ⟨F6, S6, h6⟩
              cases e6 : prw k bt N (tke k bt (tke k bt v.1)) with
              | inl f =>
                rw [e6] at h6
                rw [sbn_l e6] at er
                refine Ok.rdE h6.1 (Ok.ifF (by decide) (Ok.ret ⟨F5.tr F6, ?_⟩))
                rw [ep, sbn_l er]
                exact h6
              | inr p' =>
                rw [e6] at h6
                rw [sbn_r e6] at er
                obtain ⟨R6, b6, o6⟩ := h6
                have hc6 := tkc_lt (k := k) (bt := bt) (p := p')
                refine Ok.rdE b6 (Ok.ifT rfl (Ok.rdE R6.2.2.2.1 ?_))
                by_cases ce : tkc k bt p' = 0
                · rw [if_pos ce] at er
                  refine Ok.ifT (by rw [ce]; rfl) (Ok.ret ⟨F5.tr F6, ?_⟩)
                  rw [ep, sbn_r er]
                  refine ⟨b6, ⟨?_, fun a b ha hb => ?_⟩, fun i hi => ?_, fun j hj => ?_⟩
                  · rw [S6 _ (by omega)]; exact N5.1
                  · rw [S6 _ (by omega)]; exact N5.2 a b ha hb
                  · by_cases ci : i < N
                    · rw [if_pos ci]; exact o6 i ci
                    · rw [if_neg ci, S6 _ (by omega), K5.1 150 (by decide), r4 i hi, if_neg ci]
                  · rw [S6 _ (by omega), K5.1 150 (by decide)]; exact o4 j hj
                · rw [if_neg ce] at er
                  refine Ok.ifF (by rw [li_0, nI_eqP (by omega) (by omega)]; exact ce) (Ok.bd _ (m_faultsX (f := 1) R6 b6) ?_)
                  rintro _ t7 ⟨B, F7, -⟩
                  refine Ok.ret ⟨(F5.tr F6).tr F7, ?_⟩
                  rw [ep, sbn_l er]
                  exact B
            · refine Ok.bd (fun _ u => t5 = u) (Ok.ifT rfl (Ok.ret rfl)) ?_
              rintro _ _ rfl
              refine Ok.rdE b5 (Ok.ifT rfl (Ok.rdE R5.2.2.2.1 ?_))
              by_cases c0 : tkc k bt (tke k bt v.1) = 0
              · have er : prow k bt N (tke k bt v.1) = .inr (fun i => i) := prow_eq.trans (if_pos c0)
                refine Ok.ifT (by rw [c0]; rfl) (Ok.ret ⟨F5, ?_⟩)
                rw [ep, sbn_r er]
                refine ⟨b5, N5, fun i hi => ?_, fun j hj => ?_⟩
                · rw [K5.1 150 (by decide)]; exact r4 i hi
                · rw [K5.1 150 (by decide)]; exact o4 j hj
              · have er : prow k bt N (tke k bt v.1) = .inl (1, tkb k bt (tke k bt v.1)) := prow_eq.trans ((if_neg c0).trans (if_neg (by rw [hr]; decide)))
                refine Ok.ifF (by rw [li_0, nI_eqP (by omega) (by omega)]; exact c0) (Ok.bd _ (m_faultsX (f := 1) R5 b5) ?_)
                rintro _ t7 ⟨B, F7, -⟩
                refine Ok.ret ⟨F5.tr F7, ?_⟩
                rw [ep, sbn_l er]
                exact B
          · rw [if_neg (by rw [s59]; decide)] at epl
            rw [sbn_l epl] at ep
            refine Ok.bd _ (m_must0X R4 b4) ?_
            rintro _ t5 ⟨B, F5, -⟩
            refine Ok.bd (fun r v => t5 = v ∧ r = 0) (b_word5 B.1 ⟨rfl, rfl⟩) ?_
            rintro _ _ ⟨rfl, rfl⟩
            refine Ok.bd (fun _ v => t5 = v) (Ok.ifT rfl (Ok.ret rfl)) ?_
            rintro _ _ rfl
            refine Ok.rdE B.1 (Ok.ifF (by decide) (Ok.ret ⟨(F3.tr F4).tr F5, ?_⟩))
            rw [ep]
            exact B
  · have ep : ptext k bt = .inl (1, tkb k bt 0) := if_neg (by rw [hw]; decide)
    refine Ok.bd _ (m_must0X h hb) ?_
    rintro _ t1 ⟨B, F, -⟩
    refine Ok.bd (fun r u => t1 = u ∧ r = nI 1) (b_here B.1 ⟨rfl, rfl⟩) ?_
    rintro _ _ ⟨rfl, rfl⟩
    exact tail2 _ t1 B F ep
end
