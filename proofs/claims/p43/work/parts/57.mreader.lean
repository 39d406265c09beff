/-! the reference reads a text -/
theorem b_word4 {t : St} (hb : t 149 12 = 1) {Q : Int32 → St → Prop} (q : Q 0 t) : Ok (FX12_isWord_s4 t) Q := by
  unfold FX12_isWord_s4
  refine Ok.rdE hb (Ok.bd (fun r u => t = u ∧ r = 0) (Ok.ifF (by decide) (Ok.ret ⟨rfl, rfl⟩)) ?_)
  rintro _ _ ⟨rfl, rfl⟩
  refine Ok.bd (fun r u => t = u ∧ r = 0) ?_ (by rintro _ _ ⟨rfl, rfl⟩; exact Ok.ckT rfl (Ok.ret q))
  refine Ok.count 0 (fun j c s => c = ((0 : Int32), (0 : Int32)) ∧ t = s) (fun j _ _ h => by omega) ?_ (Nat.zero_le _) ⟨rfl, rfl⟩
  rintro c s ⟨rfl, rfl⟩
  unfold SX12_isWord_s4_39
  exact Ok.ifF (by decide) (Ok.ifT rfl (Ok.ret ⟨rfl, rfl⟩))
theorem m_word4 {k : Nat} {bt : Nat → Nat} {t : St} {p : Nat} (h : RM k bt p t) (hb : t 149 12 = 0) {Q : Int32 → St → Prop} (q1 : wrd k bt 110 101 116 p = true → Q 1 t) (q0 : wrd k bt 110 101 116 p = false → Q 0 t) : Ok (FX12_isWord_s4 t) Q := by
  have hle := h.le
  have hc4 := tkc_lt (k := k) (bt := bt) (p := p)
  unfold FX12_isWord_s4
  refine Ok.rdE hb (Ok.bd (fun r u => t = u ∧ ((r = 1 ∧ tkc k bt p = 1 ∧ tke k bt p = tkb k bt p + 3) ∨ (r = 0 ∧ wrd k bt 110 101 116 p = false))) ?_ ?_)
  · refine Ok.ifT rfl (Ok.rdE h.2.2.2.1 ?_)
    by_cases c1 : tkc k bt p = 1
    · refine Ok.ifT (by rw [c1]; rfl) (Ok.rdE h.2.2.2.2.1 (Ok.rdE h.2.2.1 ?_))
      rw [nI_sub (by omega), li_3]
      refine Ok.cv (nI_eqP (by omega) (by omega)) ?_
      exact Ok.ite (fun c => Ok.ret ⟨rfl, Or.inl ⟨rfl, c1, by omega⟩⟩) (fun c => Ok.ret ⟨rfl, Or.inr ⟨rfl, decide_eq_false (fun a => c (by omega))⟩⟩)
    · exact Ok.ifF (by rw [li_1, nI_eqP (by omega) (by omega)]; exact c1) (Ok.ret ⟨rfl, Or.inr ⟨rfl, decide_eq_false (fun a => c1 a.1)⟩⟩)
  rintro r _ ⟨rfl, ⟨rfl, c1, c3⟩ | ⟨rfl, hw⟩⟩
  · skip
    refine Ok.bd (fun r u => t = u ∧ ((r = 1 ∧ wrd k bt 110 101 116 p = true) ∨ (r = 0 ∧ wrd k bt 110 101 116 p = false))) ?_ ?_
    · refine Ok.count 3 (fun j c s => c.2 = nI j ∧ t = s ∧ ((c.1 = 1 ∧ (0 < j → bt (tkb k bt p) = 110) ∧ (1 < j → bt (tkb k bt p + 1) = 101) ∧ (2 < j → bt (tkb k bt p + 2) = 116)) ∨ (c.1 = 0 ∧ wrd k bt 110 101 116 p = false))) ?_ ?_ (Nat.zero_le _) ⟨rfl, rfl, Or.inl ⟨rfl, fun q => by omega, fun q => by omega, fun q => by omega⟩⟩
      · rintro j ⟨c1', c2'⟩ s hj ⟨rfl, rfl, ⟨rfl, h0, h1, h2⟩ | ⟨rfl, hw⟩⟩
        · unfold SX12_isWord_s4_39
          dsimp only
          have hb3 := h.1.2.2 (tkb k bt p + j) (by omega)
          rw [li_3]
          refine Ok.cv (nI_leP (by omega) (by omega)) ?_
          refine Ok.ifF (by omega) (Ok.ifF (by decide) (Ok.rdE h.2.2.1 ?_))
          rw [nI_add]
          refine Ok.ckT (inb_n (by omega) (by omega)) ?_
          rw [nI_cl (by omega)]
          refine Ok.rdE hb3.2 (Ok.ckT (inb_n hj (by omega)) ?_)
          rcases (show j = 0 ∨ j = 1 ∨ j = 2 by omega) with rfl | rfl | rfl
          · rw [show chr [110, 101, 116] (nI 0) = nI 110 from rfl]
            refine Ok.bd (fun r u => t = u ∧ ((r = 1 ∧ bt (tkb k bt p) = 110) ∨ (r = 0 ∧ ¬ bt (tkb k bt p) = 110))) (Ok.cv (nI_eqP (by omega) (by omega)) (Ok.ite (fun q => Ok.ret ⟨rfl, Or.inl ⟨rfl, q⟩⟩) (fun q => Ok.ret ⟨rfl, Or.inr ⟨rfl, q⟩⟩))) ?_
            rintro r _ ⟨rfl, ⟨rfl, q⟩ | ⟨rfl, q⟩⟩
            · exact Ok.ret ⟨rfl, rfl, Or.inl ⟨rfl, fun _ => q, fun q => by omega, fun q => by omega⟩⟩
            · exact Ok.ret ⟨rfl, rfl, Or.inr ⟨rfl, decide_eq_false (fun a => q a.2.2.1)⟩⟩
          · rw [show chr [110, 101, 116] (nI 1) = nI 101 from rfl]
            refine Ok.bd (fun r u => t = u ∧ ((r = 1 ∧ bt (tkb k bt p + 1) = 101) ∨ (r = 0 ∧ ¬ bt (tkb k bt p + 1) = 101))) (Ok.cv (nI_eqP (by omega) (by omega)) (Ok.ite (fun q => Ok.ret ⟨rfl, Or.inl ⟨rfl, q⟩⟩) (fun q => Ok.ret ⟨rfl, Or.inr ⟨rfl, q⟩⟩))) ?_
            rintro r _ ⟨rfl, ⟨rfl, q⟩ | ⟨rfl, q⟩⟩
            · exact Ok.ret ⟨rfl, rfl, Or.inl ⟨rfl, fun _ => h0 (by omega), fun _ => q, fun q => by omega⟩⟩
            · exact Ok.ret ⟨rfl, rfl, Or.inr ⟨rfl, decide_eq_false (fun a => q a.2.2.2.1)⟩⟩
          · rw [show chr [110, 101, 116] (nI 2) = nI 116 from rfl]
            refine Ok.bd (fun r u => t = u ∧ ((r = 1 ∧ bt (tkb k bt p + 2) = 116) ∨ (r = 0 ∧ ¬ bt (tkb k bt p + 2) = 116))) (Ok.cv (nI_eqP (by omega) (by omega)) (Ok.ite (fun q => Ok.ret ⟨rfl, Or.inl ⟨rfl, q⟩⟩) (fun q => Ok.ret ⟨rfl, Or.inr ⟨rfl, q⟩⟩))) ?_
            rintro r _ ⟨rfl, ⟨rfl, q⟩ | ⟨rfl, q⟩⟩
            · exact Ok.ret ⟨rfl, rfl, Or.inl ⟨rfl, fun _ => h0 (by omega), fun _ => h1 (by omega), fun _ => q⟩⟩
            · exact Ok.ret ⟨rfl, rfl, Or.inr ⟨rfl, decide_eq_false (fun a => q a.2.2.2.2)⟩⟩
        · unfold SX12_isWord_s4_39
          dsimp only
          rw [li_3]
          refine Ok.cv (nI_leP (by omega) (by omega)) ?_
          exact Ok.ifF (by omega) (Ok.ifT rfl (Ok.ret ⟨rfl, Or.inr ⟨rfl, hw⟩⟩))
      · rintro ⟨c1', c2'⟩ s ⟨rfl, rfl, hc⟩
        unfold SX12_isWord_s4_39
        dsimp only at hc ⊢
        rw [li_3]
        refine Ok.cv (nI_leP (by omega) (by omega)) ?_
        refine Ok.ifT (by omega) (Ok.ret ⟨rfl, ?_⟩)
        rcases hc with ⟨rfl, h0, h1, h2⟩ | ⟨rfl, hw⟩
        · exact Or.inl ⟨rfl, decide_eq_true ⟨c1, c3, h0 (by omega), h1 (by omega), h2 (by omega)⟩⟩
        · exact Or.inr ⟨rfl, hw⟩
    · rintro r _ ⟨rfl, ⟨rfl, hw⟩ | ⟨rfl, hw⟩⟩
      · exact Ok.ckT rfl (Ok.ret (q1 hw))
      · exact Ok.ckT rfl (Ok.ret (q0 hw))
  · skip
    refine Ok.bd (fun r u => t = u ∧ r = 0) ?_ (by rintro _ _ ⟨rfl, rfl⟩; exact Ok.ckT rfl (Ok.ret (q0 hw)))
    refine Ok.count 0 (fun j c s => c = ((0 : Int32), (0 : Int32)) ∧ t = s) (fun j _ _ h => by omega) ?_ (Nat.zero_le _) ⟨rfl, rfl⟩
    rintro c s ⟨rfl, rfl⟩
    unfold SX12_isWord_s4_39
    exact Ok.ifF (by decide) (Ok.ifT rfl (Ok.ret ⟨rfl, rfl⟩))
theorem b_word5 {t : St} (hb : t 149 12 = 1) {Q : Int32 → St → Prop} (q : Q 0 t) : Ok (FX12_isWord_s5 t) Q := by
  unfold FX12_isWord_s5
  refine Ok.rdE hb (Ok.bd (fun r u => t = u ∧ r = 0) (Ok.ifF (by decide) (Ok.ret ⟨rfl, rfl⟩)) ?_)
  rintro _ _ ⟨rfl, rfl⟩
  refine Ok.bd (fun r u => t = u ∧ r = 0) ?_ (by rintro _ _ ⟨rfl, rfl⟩; exact Ok.ckT rfl (Ok.ret q))
  refine Ok.count 0 (fun j c s => c = ((0 : Int32), (0 : Int32)) ∧ t = s) (fun j _ _ h => by omega) ?_ (Nat.zero_le _) ⟨rfl, rfl⟩
  rintro c s ⟨rfl, rfl⟩
  unfold SX12_isWord_s5_39
  exact Ok.ifF (by decide) (Ok.ifT rfl (Ok.ret ⟨rfl, rfl⟩))
theorem m_word5 {k : Nat} {bt : Nat → Nat} {t : St} {p : Nat} (h : RM k bt p t) (hb : t 149 12 = 0) {Q : Int32 → St → Prop} (q1 : wrd k bt 114 111 119 p = true → Q 1 t) (q0 : wrd k bt 114 111 119 p = false → Q 0 t) : Ok (FX12_isWord_s5 t) Q := by
  have hle := h.le
  have hc4 := tkc_lt (k := k) (bt := bt) (p := p)
  unfold FX12_isWord_s5
  refine Ok.rdE hb (Ok.bd (fun r u => t = u ∧ ((r = 1 ∧ tkc k bt p = 1 ∧ tke k bt p = tkb k bt p + 3) ∨ (r = 0 ∧ wrd k bt 114 111 119 p = false))) ?_ ?_)
  · refine Ok.ifT rfl (Ok.rdE h.2.2.2.1 ?_)
    by_cases c1 : tkc k bt p = 1
    · refine Ok.ifT (by rw [c1]; rfl) (Ok.rdE h.2.2.2.2.1 (Ok.rdE h.2.2.1 ?_))
      rw [nI_sub (by omega), li_3]
      refine Ok.cv (nI_eqP (by omega) (by omega)) ?_
      exact Ok.ite (fun c => Ok.ret ⟨rfl, Or.inl ⟨rfl, c1, by omega⟩⟩) (fun c => Ok.ret ⟨rfl, Or.inr ⟨rfl, decide_eq_false (fun a => c (by omega))⟩⟩)
    · exact Ok.ifF (by rw [li_1, nI_eqP (by omega) (by omega)]; exact c1) (Ok.ret ⟨rfl, Or.inr ⟨rfl, decide_eq_false (fun a => c1 a.1)⟩⟩)
  rintro r _ ⟨rfl, ⟨rfl, c1, c3⟩ | ⟨rfl, hw⟩⟩
  · skip
    refine Ok.bd (fun r u => t = u ∧ ((r = 1 ∧ wrd k bt 114 111 119 p = true) ∨ (r = 0 ∧ wrd k bt 114 111 119 p = false))) ?_ ?_
    · refine Ok.count 3 (fun j c s => c.2 = nI j ∧ t = s ∧ ((c.1 = 1 ∧ (0 < j → bt (tkb k bt p) = 114) ∧ (1 < j → bt (tkb k bt p + 1) = 111) ∧ (2 < j → bt (tkb k bt p + 2) = 119)) ∨ (c.1 = 0 ∧ wrd k bt 114 111 119 p = false))) ?_ ?_ (Nat.zero_le _) ⟨rfl, rfl, Or.inl ⟨rfl, fun q => by omega, fun q => by omega, fun q => by omega⟩⟩
      · rintro j ⟨c1', c2'⟩ s hj ⟨rfl, rfl, ⟨rfl, h0, h1, h2⟩ | ⟨rfl, hw⟩⟩
        · unfold SX12_isWord_s5_39
          dsimp only
          have hb3 := h.1.2.2 (tkb k bt p + j) (by omega)
          rw [li_3]
          refine Ok.cv (nI_leP (by omega) (by omega)) ?_
          refine Ok.ifF (by omega) (Ok.ifF (by decide) (Ok.rdE h.2.2.1 ?_))
          rw [nI_add]
          refine Ok.ckT (inb_n (by omega) (by omega)) ?_
          rw [nI_cl (by omega)]
          refine Ok.rdE hb3.2 (Ok.ckT (inb_n hj (by omega)) ?_)
          rcases (show j = 0 ∨ j = 1 ∨ j = 2 by omega) with rfl | rfl | rfl
          · rw [show chr [114, 111, 119] (nI 0) = nI 114 from rfl]
            refine Ok.bd (fun r u => t = u ∧ ((r = 1 ∧ bt (tkb k bt p) = 114) ∨ (r = 0 ∧ ¬ bt (tkb k bt p) = 114))) (Ok.cv (nI_eqP (by omega) (by omega)) (Ok.ite (fun q => Ok.ret ⟨rfl, Or.inl ⟨rfl, q⟩⟩) (fun q => Ok.ret ⟨rfl, Or.inr ⟨rfl, q⟩⟩))) ?_
            rintro r _ ⟨rfl, ⟨rfl, q⟩ | ⟨rfl, q⟩⟩
            · exact Ok.ret ⟨rfl, rfl, Or.inl ⟨rfl, fun _ => q, fun q => by omega, fun q => by omega⟩⟩
            · exact Ok.ret ⟨rfl, rfl, Or.inr ⟨rfl, decide_eq_false (fun a => q a.2.2.1)⟩⟩
          · rw [show chr [114, 111, 119] (nI 1) = nI 111 from rfl]
            refine Ok.bd (fun r u => t = u ∧ ((r = 1 ∧ bt (tkb k bt p + 1) = 111) ∨ (r = 0 ∧ ¬ bt (tkb k bt p + 1) = 111))) (Ok.cv (nI_eqP (by omega) (by omega)) (Ok.ite (fun q => Ok.ret ⟨rfl, Or.inl ⟨rfl, q⟩⟩) (fun q => Ok.ret ⟨rfl, Or.inr ⟨rfl, q⟩⟩))) ?_
            rintro r _ ⟨rfl, ⟨rfl, q⟩ | ⟨rfl, q⟩⟩
            · exact Ok.ret ⟨rfl, rfl, Or.inl ⟨rfl, fun _ => h0 (by omega), fun _ => q, fun q => by omega⟩⟩
            · exact Ok.ret ⟨rfl, rfl, Or.inr ⟨rfl, decide_eq_false (fun a => q a.2.2.2.1)⟩⟩
          · rw [show chr [114, 111, 119] (nI 2) = nI 119 from rfl]
            refine Ok.bd (fun r u => t = u ∧ ((r = 1 ∧ bt (tkb k bt p + 2) = 119) ∨ (r = 0 ∧ ¬ bt (tkb k bt p + 2) = 119))) (Ok.cv (nI_eqP (by omega) (by omega)) (Ok.ite (fun q => Ok.ret ⟨rfl, Or.inl ⟨rfl, q⟩⟩) (fun q => Ok.ret ⟨rfl, Or.inr ⟨rfl, q⟩⟩))) ?_
            rintro r _ ⟨rfl, ⟨rfl, q⟩ | ⟨rfl, q⟩⟩
            · exact Ok.ret ⟨rfl, rfl, Or.inl ⟨rfl, fun _ => h0 (by omega), fun _ => h1 (by omega), fun _ => q⟩⟩
            · exact Ok.ret ⟨rfl, rfl, Or.inr ⟨rfl, decide_eq_false (fun a => q a.2.2.2.2)⟩⟩
        · unfold SX12_isWord_s5_39
          dsimp only
          rw [li_3]
          refine Ok.cv (nI_leP (by omega) (by omega)) ?_
          exact Ok.ifF (by omega) (Ok.ifT rfl (Ok.ret ⟨rfl, Or.inr ⟨rfl, hw⟩⟩))
      · rintro ⟨c1', c2'⟩ s ⟨rfl, rfl, hc⟩
        unfold SX12_isWord_s5_39
        dsimp only at hc ⊢
        rw [li_3]
        refine Ok.cv (nI_leP (by omega) (by omega)) ?_
        refine Ok.ifT (by omega) (Ok.ret ⟨rfl, ?_⟩)
        rcases hc with ⟨rfl, h0, h1, h2⟩ | ⟨rfl, hw⟩
        · exact Or.inl ⟨rfl, decide_eq_true ⟨c1, c3, h0 (by omega), h1 (by omega), h2 (by omega)⟩⟩
        · exact Or.inr ⟨rfl, hw⟩
    · rintro r _ ⟨rfl, ⟨rfl, hw⟩ | ⟨rfl, hw⟩⟩
      · exact Ok.ckT rfl (Ok.ret (q1 hw))
      · exact Ok.ckT rfl (Ok.ret (q0 hw))
  · skip
    refine Ok.bd (fun r u => t = u ∧ r = 0) ?_ (by rintro _ _ ⟨rfl, rfl⟩; exact Ok.ckT rfl (Ok.ret (q0 hw)))
    refine Ok.count 0 (fun j c s => c = ((0 : Int32), (0 : Int32)) ∧ t = s) (fun j _ _ h => by omega) ?_ (Nat.zero_le _) ⟨rfl, rfl⟩
    rintro c s ⟨rfl, rfl⟩
    unfold SX12_isWord_s5_39
    exact Ok.ifF (by decide) (Ok.ifT rfl (Ok.ret ⟨rfl, rfl⟩))
/-- slot s of the reference: n points, weights w -/
def RN (s n : Nat) (w : Nat → Nat → Nat) (t : St) : Prop := t 150 (91 * s) = nI n ∧ ∀ a b, a < 9 → b < 9 → t 150 (91 * s + 1 + 9 * a + b) = nI (w a b)
theorem RN.fr {s n : Nat} {w : Nat → Nat → Nat} {t u : St} (h : RN s n w t) (e : u 150 = t 150) : RN s n w u := by
  unfold RN
  rw [e]
  exact h
/-- a net's weights -/
def WF (n : Nat) (w : Nat → Nat → Nat) : Prop := (∀ a b, w a b < 10) ∧ (∀ a b, w a b = w b a) ∧ (∀ a, w a a = 0) ∧ ∀ a b, n ≤ a → w a b = 0
theorem WF.r {n : Nat} {w : Nat → Nat → Nat} (h : WF n w) {a b : Nat} (hb : n ≤ b) : w a b = 0 := by rw [h.2.1]; exact h.2.2.2 b a hb
theorem WF.set {n : Nat} {w : Nat → Nat → Nat} (h : WF n w) {a b v : Nat} (ha : a < n) (hb : b < n) (hab : a ≠ b) (hv : v < 10) : WF n (setw w a b v) := by
  refine ⟨fun p q => ?_, fun p q => ?_, fun p => ?_, fun p q hp => ?_⟩
  · unfold setw
    by_cases c : (p = a ∧ q = b) ∨ (p = b ∧ q = a)
    · rw [if_pos c]; exact hv
    · rw [if_neg c]; exact h.1 p q
  · unfold setw
    by_cases c : (p = a ∧ q = b) ∨ (p = b ∧ q = a)
    · rw [if_pos c, if_pos (by omega)]
    · rw [if_neg c, if_neg (by omega)]; exact h.2.1 p q
  · rw [setw_n (by omega) (by omega)]; exact h.2.2.1 p
  · rw [setw_n (by omega) (by omega)]; exact h.2.2.2 p q hp
theorem WF.z {n : Nat} : WF n (fun _ _ => 0) := ⟨fun _ _ => (by show 0 < 10; omega), fun _ _ => rfl, fun _ => rfl, fun _ _ _ => rfl⟩
theorem m_points {s n : Nat} {w : Nat → Nat → Nat} {t : St} (h : RN s n w t) (hs : s < 3) {Q : Int32 → St → Prop} (q : Q (nI n) t) : Ok (FX12_points (nI s) t) Q := by
  unfold FX12_points
  rw [li_91, nI_mul]
  refine Ok.ckT (inb_n (by omega) (by omega)) (Ok.rdE (x := nI n) ?_ (Ok.ret q))
  rw [nI_cl (by omega)]
  exact h.1
theorem m_weight {s n : Nat} {w : Nat → Nat → Nat} {t : St} (h : RN s n w t) (hs : s < 3) {a b : Nat} (ha : a < 9) (hb : b < 9) {Q : Int32 → St → Prop} (q : Q (nI (w a b)) t) : Ok (FX12_weight (nI s) (nI a) (nI b) t) Q := by
  unfold FX12_weight
  rw [li_91, li_1, li_9, nI_mul, nI_add, nI_mul, nI_add, nI_add]
  refine Ok.ckT (inb_n (by omega) (by omega)) (Ok.rdE (x := nI (w a b)) ?_ (Ok.ret q))
  rw [nI_cl (by omega)]
  exact h.2 a b ha hb
theorem nr_n {n : Nat} {w : Nat → Nat → Nat} (h : WF n w) (hn : n ≤ 9) {a : Nat} : mkm n (fun b => decide (0 < w a b)) = nr w a := by
  refine bit_ext (n := 9) (Nat.lt_of_lt_of_le mkm_lt (pow9 hn)) nr_lt (fun k hk => ?_)
  rw [mkm_bit, nr_bit hk]
  by_cases c : k < n
  · simp [c]
  · rw [h.r (by omega)]
    simp
theorem m_nearOf {s n : Nat} {w : Nat → Nat → Nat} {t : St} (h : RN s n w t) (hs : s < 3) (hn : n < 10) (hw : WF n w) {a : Nat} (ha : a < 9) {Q : Int32 → St → Prop} (q : Q (nI (nr w a)) t) : Ok (FX12_nearOf (nI s) (nI a) t) Q := by
  unfold FX12_nearOf
  refine Ok.bd (fun r u => t = u ∧ r = nI (nr w a)) ?_ (by rintro _ _ ⟨rfl, rfl⟩; exact Ok.ret q)
  refine Ok.count n (fun j c s' => c = (nI (mkm j (fun b => decide (0 < w a b))), nI j) ∧ t = s') ?_ ?_ (Nat.zero_le _) ⟨rfl, rfl⟩
  · rintro j c s' hj ⟨rfl, rfl⟩
    unfold SX12_nearOf_5
    dsimp only
    refine Ok.bd (fun r u => t = u ∧ r = nI n) (m_points h hs ⟨rfl, rfl⟩) ?_
    rintro _ _ ⟨rfl, rfl⟩
    refine Ok.ifF (by rw [nI_leP (by omega) (by omega)]; omega) (Ok.bd (fun r u => t = u ∧ r = nI (w a j)) (m_weight h hs ha (by omega) ⟨rfl, rfl⟩) ?_)
    rintro _ _ ⟨rfl, rfl⟩
    have hw9 := hw.1 a j
    rw [li_0, shl_1 (by omega)]
    refine Ok.bd (fun r u => t = u ∧ r = nI (if 0 < w a j then 2 ^ j else 0)) (Ok.cv (nI_leP (by omega) (by omega)) (Ok.ite (fun c => Ok.ret ⟨rfl, ?_⟩) (fun c => Ok.ret ⟨rfl, ?_⟩))) ?_
    · rw [if_neg (by omega)]
    · rw [if_pos (by omega)]
    rintro _ _ ⟨rfl, rfl⟩
    refine Ok.ret ⟨?_, rfl⟩
    rw [nI_or, nI_1]
    show _ = (nI (mkm j (fun b => decide (0 < w a b)) ||| (if decide (0 < w a j) = true then 2 ^ j else 0)), nI (j + 1))
    by_cases c : 0 < w a j
    · rw [if_pos c, if_pos (decide_eq_true c)]
    · rw [if_neg c, if_neg (by simp [c])]
  · rintro c s' ⟨rfl, rfl⟩
    unfold SX12_nearOf_5
    dsimp only
    refine Ok.bd (fun r u => t = u ∧ r = nI n) (m_points h hs ⟨rfl, rfl⟩) ?_
    rintro _ _ ⟨rfl, rfl⟩
    exact Ok.ifT (by rw [nI_leP (by omega) (by omega)]; omega) (Ok.ret ⟨rfl, by rw [nr_n hw (by omega)]⟩)
/-- how many ends of lines there are -/
def dcn (n : Nat) (w : Nat → Nat → Nat) : Nat := sm n (fun p => cnt (nr w p) 9)
theorem dcn_le {n : Nat} {w : Nat → Nat → Nat} (hn : n < 10) : dcn n w ≤ 81 := by
  have := sm_le (f := fun p => cnt (nr w p) 9) (b := 9) (n := n) (fun i _ => cnt_le)
  unfold dcn
  omega
theorem m_lines {s n : Nat} {w : Nat → Nat → Nat} {t : St} (h : RN s n w t) (hs : s < 3) (hn : n < 10) (hw : WF n w) {Q : Int32 → St → Prop} (q : Q (nI (dcn n w / 2)) t) : Ok (FX12_lines (nI s) t) Q := by
  unfold FX12_lines
  refine Ok.bd (fun r u => t = u ∧ r = nI (dcn n w)) ?_ ?_
  · refine Ok.count n (fun j c s' => c = (nI (sm j (fun p => cnt (nr w p) 9)), nI j) ∧ t = s') ?_ ?_ (Nat.zero_le _) ⟨rfl, rfl⟩
    · rintro j c s' hj ⟨rfl, rfl⟩
      unfold SX12_lines_4
      dsimp only
      refine Ok.bd (fun r u => t = u ∧ r = nI n) (m_points h hs ⟨rfl, rfl⟩) ?_
      rintro _ _ ⟨rfl, rfl⟩
      refine Ok.ifF (by rw [nI_leP (by omega) (by omega)]; omega) (Ok.bd (fun r u => t = u ∧ r = nI (nr w j)) (m_nearOf h hs hn hw (by omega) ⟨rfl, rfl⟩) ?_)
      rintro _ _ ⟨rfl, rfl⟩
      refine Ok.bd (fun r u => t = u ∧ r = nI (cnt (nr w j) 9)) (e_ones nr_lt ⟨rfl, rfl⟩) ?_
      rintro _ _ ⟨rfl, rfl⟩
      refine Ok.ret ⟨?_, rfl⟩
      rw [nI_add, nI_1]
      rfl
    · rintro c s' ⟨rfl, rfl⟩
      unfold SX12_lines_4
      dsimp only
      refine Ok.bd (fun r u => t = u ∧ r = nI n) (m_points h hs ⟨rfl, rfl⟩) ?_
      rintro _ _ ⟨rfl, rfl⟩
      exact Ok.ifT (by rw [nI_leP (by omega) (by omega)]; omega) (Ok.ret ⟨rfl, rfl⟩)
  · rintro _ _ ⟨rfl, rfl⟩
    have := dcn_le (w := w) hn
    rw [li_2, nI_divN (by omega) (by omega) (by omega)]
    exact Ok.ret q
theorem sm_two {f g : Nat → Nat} {a b n : Nat} (ha : a < n) (hb : b < n) (hab : a ≠ b) (h : ∀ i, i < n → i ≠ a → i ≠ b → f i = g i) : sm n f + g a + g b = sm n g + f a + f b := by
  have h1 := sm_one (f := f) (g := fun i => if i = a then g a else f i) (a := a) (n := n) ha (fun i _ hi => by show f i = if i = a then g a else f i; rw [if_neg hi])
  have h2 := sm_one (f := fun i => if i = a then g a else f i) (g := g) (a := b) (n := n) hb (fun i hi hb => by
    show (if i = a then g a else f i) = g i
    by_cases e : i = a
    · rw [if_pos e, e]
    · rw [if_neg e]; exact h i hi e hb)
  have h1 : sm n f + (if a = a then g a else f a) = _ := h1
  have h2 : _ = sm n g + (if b = a then g a else f b) := h2
  rw [if_pos rfl] at h1
  rw [if_neg (fun q => hab q.symm)] at h2
  omega
theorem dcn_add {n : Nat} {w : Nat → Nat → Nat} {a b v : Nat} (ha : a < n) (hb : b < n) (hn : n < 10) (hab : a ≠ b) (h0 : w a b = 0) (h1 : w b a = 0) (hv : 0 < v) : dcn n (setw w a b v) = dcn n w + 2 := by
  unfold dcn
  have := sm_two (f := fun p => cnt (nr (setw w a b v) p) 9) (g := fun p => cnt (nr w p) 9) ha hb hab (fun i _ h1 h2 => by show cnt (nr (setw w a b v) i) 9 = _; rw [nr_set h1 h2])
  have e1 : cnt (nr (setw w a b v) a) 9 = cnt (nr w a) 9 + 1 := by
    rw [nr_set1 hab (by omega) hv, cnt_or (by rw [nr_bit (by omega), h0]; rfl), if_pos (by omega)]
  have e2 : cnt (nr (setw w a b v) b) 9 = cnt (nr w b) 9 + 1 := by
    rw [setw_sw, nr_set1 (fun e => hab e.symm) (by omega) hv, cnt_or (by rw [nr_bit (by omega), h1]; rfl), if_pos (by omega)]
  omega
theorem m_weighs {s n : Nat} {w : Nat → Nat → Nat} {t : St} (h : RN s n w t) (hs : s < 3) {a b v : Nat} (ha : a < 9) (hb : b < 9) (hab : a ≠ b) : Ok (FX12_weighs (nI s) (nI a) (nI b) (nI v) t) (fun _ u => RN s n (setw w a b v) u ∧ (∀ c, c ≠ 150 → u c = t c) ∧ ∀ k, (k < 91 * s + 1 ∨ 91 * s + 82 ≤ k) → u 150 k = t 150 k) := by
  refine (xX12_weighs hs ha hb).mono ?_
  rintro _ u rfl
  refine ⟨⟨?_, fun p q hp hq => ?_⟩, fun c hc => by rw [wr_off c hc, wr_off c hc], fun k hk => by rw [wrn (by omega), wrn (by omega)]⟩
  · rw [wrn (by omega), wrn (by omega)]; exact h.1
  · by_cases e1 : p = b ∧ q = a
    · obtain ⟨rfl, rfl⟩ := e1
      rw [wrs, setw_b]
    · rw [wrn (by omega)]
      by_cases e2 : p = a ∧ q = b
      · obtain ⟨rfl, rfl⟩ := e2
        rw [wrs, setw_a]
      · rw [wrn (by omega), setw_n e2 e1]
        exact h.2 p q hp hq
theorem b_readsLine {t : St} {s n : Nat} {w : Nat → Nat → Nat} (hb : t 149 12 = 1) (h : RN s n w t) (hs : s < 3) {Q : Unit → St → Prop} (q : Q () t) : Ok (FX12_readsLine (nI s) t) Q := by
  unfold FX12_readsLine
  refine Ok.bd (fun r u => t = u) (m_points h hs rfl) ?_
  rintro _ _ rfl
  refine Ok.bd (fun r u => t = u) (b_here hb rfl) ?_
  rintro _ _ rfl
  refine Ok.rdE hb (Ok.bd (fun r u => t = u) (Ok.ifF (by decide) (Ok.ret rfl)) ?_)
  rintro _ _ rfl
  refine Ok.bd (fun r u => t = u) (b_passes hb rfl) ?_
  rintro _ _ rfl
  refine Ok.bd (fun r u => t = u) (b_sign hb rfl) ?_
  rintro _ _ rfl
  refine Ok.bd (fun r u => t = u) (b_must hb rfl) ?_
  rintro _ _ rfl
  refine Ok.bd (fun r u => t = u) (m_points h hs rfl) ?_
  rintro _ _ rfl
  refine Ok.bd (fun r u => t = u) (b_here hb rfl) ?_
  rintro _ _ rfl
  refine Ok.rdE hb (Ok.bd (fun r u => t = u) (Ok.ifF (by decide) (Ok.ret rfl)) ?_)
  rintro _ _ rfl
  refine Ok.rdE hb (Ok.bd (fun r u => t = u) (Ok.ifF (by decide) (Ok.ret rfl)) ?_)
  rintro _ _ rfl
  refine Ok.bd (fun r u => t = u) (b_passes hb rfl) ?_
  rintro _ _ rfl
  refine Ok.bd (fun r u => t = u ∧ r = 0) (b_sign hb ⟨rfl, rfl⟩) ?_
  rintro _ _ ⟨rfl, rfl⟩
  refine Ok.bd (fun r u => t = u) (Ok.ifT rfl (Ok.ret rfl)) ?_
  rintro _ _ rfl
  exact Ok.rdE hb (Ok.ifF (by decide) (Ok.ret q))
