/-! what is told: the reference -/
theorem OMm.s {l : List Nat} {b : Nat} {t : St} (h : OMm l t) : OMm (l ++ [b]) (wr (wr t 162 l.length (nI b)) 149 25 (nI (l.length + 1))) := by
  refine ⟨by rw [wrs, len_s], fun i hi => ?_⟩
  rw [len_s] at hi
  rw [wrf (by decide), gt_s]
  by_cases c : i < l.length
  · rw [if_pos c, wrn (by omega)]; exact h.2 i c
  · have : i = l.length := by omega
    rw [if_neg c, if_pos this, this, wrs]
theorem MF.w {t : St} {k : Nat} {v v2 : Int32} : MF t (wr (wr t 162 k v) 149 25 v2) := ⟨fun c k1 k2 => by rw [wr_off c k1, wr_off c k2], fun i hi => by rw [wrn hi, wrf (by decide)]⟩
theorem m_numb {rec : Int32 → St → Option (Unit × St)} {l pre : List Nat} {v : Nat} {t : St} (h : OMm l t) (hv : v < 1000) (hl : l.length + pre.length < 400) (h0 : v ≤ 9 → pre = []) (h1 : ¬ v ≤ 9 → Ok (rec (nI (v / 10)) t) (fun _ u => OMm (l ++ pre) u ∧ MF t u)) : Ok (FX12_saysNumber_b rec (nI v) t) (fun _ u => OMm (l ++ (pre ++ [48 + v % 10])) u ∧ MF t u) := by
  unfold FX12_saysNumber_b
  refine Ok.bd (fun _ u => OMm (l ++ pre) u ∧ MF t u) ?_ ?_
  · refine Ok.cv (nI_leP (b := 9) (by omega) (by omega)) (Ok.ite (fun c => Ok.ret ?_) (fun c => ?_))
    · rw [h0 c, List.append_nil]; exact ⟨h, MF.rf⟩
    · rw [li_10, nI_divN (by omega) (by omega) (by omega)]
      refine Ok.bd _ (h1 c) ?_
      rintro _ u hu
      exact Ok.ret hu
  · rintro _ t1 ⟨g1, f1⟩
    have e : (l ++ pre).length < 400 := by rw [List.length_append]; exact hl
    rw [irN (by omega), li_48, nI_add]
    refine Ok.rdE g1.1 (Ok.ckT (inb_n e (by omega)) ?_)
    rw [nI_cl (by omega)]
    refine OkwrE (Ok.rdE (x := nI (l ++ pre).length) (by rw [wrf (by decide)]; exact g1.1) ?_)
    rw [nI_1]
    refine OkwrE (Ok.ret ⟨?_, f1.tr MF.w⟩)
    rw [← List.append_assoc]
    exact g1.s
theorem m_num1 {d v : Nat} {l : List Nat} {t : St} (h : OMm l t) (hv : v < 10) (hl : l.length < 400) : Ok (FX12_saysNumber (d + 1) (nI v) t) (fun _ u => OMm (l ++ nd v) u ∧ MF t u) := by
  have := m_numb (rec := FX12_saysNumber d) (pre := []) (v := v) h (by omega) (by exact hl) (fun _ => rfl) (fun q => absurd (by omega) q)
  rw [show v % 10 = v by omega] at this
  rw [nd_1 hv]
  exact this
theorem m_num2 {d v : Nat} {l : List Nat} {t : St} (h : OMm l t) (hv : v < 100) (hl : l.length + 1 < 400) : Ok (FX12_saysNumber (d + 2) (nI v) t) (fun _ u => OMm (l ++ nd v) u ∧ MF t u) := by
  by_cases c : v < 10
  · exact m_num1 (d := d + 1) h c (by omega)
  · have e : nd v = nd (v / 10) ++ [48 + v % 10] := by
      rw [nd_1 (v := v / 10) (by omega)]
      unfold nd
      rw [if_neg c, if_pos hv]
      rfl
    rw [e]
    exact m_numb (rec := FX12_saysNumber (d + 1)) (pre := nd (v / 10)) h (by omega) (by rw [nd_1 (v := v / 10) (by omega)]; exact hl) (fun q => absurd q (by omega)) (fun _ => m_num1 h (by omega) (by omega))
theorem m_num {v : Nat} {l : List Nat} {t : St} (h : OMm l t) (hv : v < 1000) (hl : l.length + 3 ≤ 400) : Ok (FX12_saysNumber 4 (nI v) t) (fun _ u => OMm (l ++ nd v) u ∧ MF t u) := by
  by_cases c : v < 100
  · exact m_num2 (d := 2) h c (by omega)
  · have n2 : nd (v / 10) = [48 + v / 10 / 10, 48 + v / 10 % 10] := by
      unfold nd
      rw [if_neg (by omega), if_pos (by omega)]
    have e : nd v = nd (v / 10) ++ [48 + v % 10] := by
      rw [n2]
      unfold nd
      rw [if_neg (by omega), if_neg c, show v / 10 / 10 = v / 100 by omega]
      rfl
    rw [e]
    exact m_numb (rec := FX12_saysNumber 3) (pre := nd (v / 10)) h (by omega) (by rw [n2]; show l.length + 2 < 400; omega) (fun q => absurd q (by omega)) (fun _ => m_num2 (d := 1) h (by omega) (by omega))
theorem m_say_s6 {l : List Nat} {t : St} (h : OMm l t) (hl : l.length + 4 ≤ 400) : Ok (FX12_says_s6 t) (fun _ u => OMm (l ++ [110, 101, 116, 32]) u ∧ MF t u) := by
  unfold FX12_says_s6
  refine Ok.bd (fun _ u => OMm (l ++ [110, 101, 116, 32]) u ∧ MF t u) ?_ (fun _ _ hu => Ok.ret hu)
  refine Ok.count 4 (fun j c s => c = nI j ∧ OMm (l ++ List.take j [110, 101, 116, 32]) s ∧ MF t s) ?_ ?_ (Nat.zero_le _) ⟨rfl, by rw [List.take_zero, List.append_nil]; exact h, MF.rf⟩
  · rintro j c s hj ⟨rfl, s1, s2⟩
    unfold SX12_says_s6_2
    refine Ok.ifF (by rw [li_4, nI_leP (by omega) (by omega)]; omega) (Ok.rdE s1.1 (Ok.ckT (inb_n hj (by omega)) ?_))
    rcases (show j = 0 ∨ j = 1 ∨ j = 2 ∨ j = 3 by omega) with rfl | rfl | rfl | rfl
    · rw [show chr [110, 101, 116, 32] (nI 0) = nI 110 from rfl]
      have e : (l ++ List.take 0 [110, 101, 116, 32]).length < 400 := by rw [List.length_append]; show l.length + 0 < 400; omega
      refine Ok.ckT (inb_n e (by omega)) ?_
      rw [nI_cl (by omega)]
      refine OkwrE (Ok.rdE (x := nI (l ++ List.take 0 [110, 101, 116, 32]).length) (by rw [wrf (by decide)]; exact s1.1) ?_)
      rw [nI_1]
      refine OkwrE (Ok.ret ⟨nI_1 0, ?_, s2.tr MF.w⟩)
      have := s1.s (b := 110)
      rw [List.append_assoc l] at this
      exact this
    · rw [show chr [110, 101, 116, 32] (nI 1) = nI 101 from rfl]
      have e : (l ++ List.take 1 [110, 101, 116, 32]).length < 400 := by rw [List.length_append]; show l.length + 1 < 400; omega
      refine Ok.ckT (inb_n e (by omega)) ?_
      rw [nI_cl (by omega)]
      refine OkwrE (Ok.rdE (x := nI (l ++ List.take 1 [110, 101, 116, 32]).length) (by rw [wrf (by decide)]; exact s1.1) ?_)
      rw [nI_1]
      refine OkwrE (Ok.ret ⟨nI_1 1, ?_, s2.tr MF.w⟩)
      have := s1.s (b := 101)
      rw [List.append_assoc l] at this
      exact this
    · rw [show chr [110, 101, 116, 32] (nI 2) = nI 116 from rfl]
      have e : (l ++ List.take 2 [110, 101, 116, 32]).length < 400 := by rw [List.length_append]; show l.length + 2 < 400; omega
      refine Ok.ckT (inb_n e (by omega)) ?_
      rw [nI_cl (by omega)]
      refine OkwrE (Ok.rdE (x := nI (l ++ List.take 2 [110, 101, 116, 32]).length) (by rw [wrf (by decide)]; exact s1.1) ?_)
      rw [nI_1]
      refine OkwrE (Ok.ret ⟨nI_1 2, ?_, s2.tr MF.w⟩)
      have := s1.s (b := 116)
      rw [List.append_assoc l] at this
      exact this
    · rw [show chr [110, 101, 116, 32] (nI 3) = nI 32 from rfl]
      have e : (l ++ List.take 3 [110, 101, 116, 32]).length < 400 := by rw [List.length_append]; show l.length + 3 < 400; omega
      refine Ok.ckT (inb_n e (by omega)) ?_
      rw [nI_cl (by omega)]
      refine OkwrE (Ok.rdE (x := nI (l ++ List.take 3 [110, 101, 116, 32]).length) (by rw [wrf (by decide)]; exact s1.1) ?_)
      rw [nI_1]
      refine OkwrE (Ok.ret ⟨nI_1 3, ?_, s2.tr MF.w⟩)
      have := s1.s (b := 32)
      rw [List.append_assoc l] at this
      exact this
  · rintro c s ⟨rfl, s1, s2⟩
    unfold SX12_says_s6_2
    exact Ok.ifT (by rw [li_4, nI_leP (by omega) (by omega)]; omega) (Ok.ret ⟨s1, s2⟩)
theorem m_say_s7 {l : List Nat} {t : St} (h : OMm l t) (hl : l.length + 1 ≤ 400) : Ok (FX12_says_s7 t) (fun _ u => OMm (l ++ [44]) u ∧ MF t u) := by
  unfold FX12_says_s7
  refine Ok.bd (fun _ u => OMm (l ++ [44]) u ∧ MF t u) ?_ (fun _ _ hu => Ok.ret hu)
  refine Ok.count 1 (fun j c s => c = nI j ∧ OMm (l ++ List.take j [44]) s ∧ MF t s) ?_ ?_ (Nat.zero_le _) ⟨rfl, by rw [List.take_zero, List.append_nil]; exact h, MF.rf⟩
  · rintro j c s hj ⟨rfl, s1, s2⟩
    unfold SX12_says_s7_2
    refine Ok.ifF (by rw [li_1, nI_leP (by omega) (by omega)]; omega) (Ok.rdE s1.1 (Ok.ckT (inb_n hj (by omega)) ?_))
    obtain rfl : j = 0 := by omega
    · rw [show chr [44] (nI 0) = nI 44 from rfl]
      have e : (l ++ List.take 0 [44]).length < 400 := by rw [List.length_append]; show l.length + 0 < 400; omega
      refine Ok.ckT (inb_n e (by omega)) ?_
      rw [nI_cl (by omega)]
      refine OkwrE (Ok.rdE (x := nI (l ++ List.take 0 [44]).length) (by rw [wrf (by decide)]; exact s1.1) ?_)
      rw [nI_1]
      refine OkwrE (Ok.ret ⟨nI_1 0, ?_, s2.tr MF.w⟩)
      have := s1.s (b := 44)
      rw [List.append_assoc l] at this
      exact this
  · rintro c s ⟨rfl, s1, s2⟩
    unfold SX12_says_s7_2
    exact Ok.ifT (by rw [li_1, nI_leP (by omega) (by omega)]; omega) (Ok.ret ⟨s1, s2⟩)
theorem m_say_s8 {l : List Nat} {t : St} (h : OMm l t) (hl : l.length + 1 ≤ 400) : Ok (FX12_says_s8 t) (fun _ u => OMm (l ++ [58]) u ∧ MF t u) := by
  unfold FX12_says_s8
  refine Ok.bd (fun _ u => OMm (l ++ [58]) u ∧ MF t u) ?_ (fun _ _ hu => Ok.ret hu)
  refine Ok.count 1 (fun j c s => c = nI j ∧ OMm (l ++ List.take j [58]) s ∧ MF t s) ?_ ?_ (Nat.zero_le _) ⟨rfl, by rw [List.take_zero, List.append_nil]; exact h, MF.rf⟩
  · rintro j c s hj ⟨rfl, s1, s2⟩
    unfold SX12_says_s8_2
    refine Ok.ifF (by rw [li_1, nI_leP (by omega) (by omega)]; omega) (Ok.rdE s1.1 (Ok.ckT (inb_n hj (by omega)) ?_))
    obtain rfl : j = 0 := by omega
    · rw [show chr [58] (nI 0) = nI 58 from rfl]
      have e : (l ++ List.take 0 [58]).length < 400 := by rw [List.length_append]; show l.length + 0 < 400; omega
      refine Ok.ckT (inb_n e (by omega)) ?_
      rw [nI_cl (by omega)]
      refine OkwrE (Ok.rdE (x := nI (l ++ List.take 0 [58]).length) (by rw [wrf (by decide)]; exact s1.1) ?_)
      rw [nI_1]
      refine OkwrE (Ok.ret ⟨nI_1 0, ?_, s2.tr MF.w⟩)
      have := s1.s (b := 58)
      rw [List.append_assoc l] at this
      exact this
  · rintro c s ⟨rfl, s1, s2⟩
    unfold SX12_says_s8_2
    exact Ok.ifT (by rw [li_1, nI_leP (by omega) (by omega)]; omega) (Ok.ret ⟨s1, s2⟩)
theorem m_say_s9 {l : List Nat} {t : St} (h : OMm l t) (hl : l.length + 1 ≤ 400) : Ok (FX12_says_s9 t) (fun _ u => OMm (l ++ [45]) u ∧ MF t u) := by
  unfold FX12_says_s9
  refine Ok.bd (fun _ u => OMm (l ++ [45]) u ∧ MF t u) ?_ (fun _ _ hu => Ok.ret hu)
  refine Ok.count 1 (fun j c s => c = nI j ∧ OMm (l ++ List.take j [45]) s ∧ MF t s) ?_ ?_ (Nat.zero_le _) ⟨rfl, by rw [List.take_zero, List.append_nil]; exact h, MF.rf⟩
  · rintro j c s hj ⟨rfl, s1, s2⟩
    unfold SX12_says_s9_2
    refine Ok.ifF (by rw [li_1, nI_leP (by omega) (by omega)]; omega) (Ok.rdE s1.1 (Ok.ckT (inb_n hj (by omega)) ?_))
    obtain rfl : j = 0 := by omega
    · rw [show chr [45] (nI 0) = nI 45 from rfl]
      have e : (l ++ List.take 0 [45]).length < 400 := by rw [List.length_append]; show l.length + 0 < 400; omega
      refine Ok.ckT (inb_n e (by omega)) ?_
      rw [nI_cl (by omega)]
      refine OkwrE (Ok.rdE (x := nI (l ++ List.take 0 [45]).length) (by rw [wrf (by decide)]; exact s1.1) ?_)
      rw [nI_1]
      refine OkwrE (Ok.ret ⟨nI_1 0, ?_, s2.tr MF.w⟩)
      have := s1.s (b := 45)
      rw [List.append_assoc l] at this
      exact this
  · rintro c s ⟨rfl, s1, s2⟩
    unfold SX12_says_s9_2
    exact Ok.ifT (by rw [li_1, nI_leP (by omega) (by omega)]; omega) (Ok.ret ⟨s1, s2⟩)
theorem m_say_s10 {l : List Nat} {t : St} (h : OMm l t) (hl : l.length + 1 ≤ 400) : Ok (FX12_says_s10 t) (fun _ u => OMm (l ++ [61]) u ∧ MF t u) := by
  unfold FX12_says_s10
  refine Ok.bd (fun _ u => OMm (l ++ [61]) u ∧ MF t u) ?_ (fun _ _ hu => Ok.ret hu)
  refine Ok.count 1 (fun j c s => c = nI j ∧ OMm (l ++ List.take j [61]) s ∧ MF t s) ?_ ?_ (Nat.zero_le _) ⟨rfl, by rw [List.take_zero, List.append_nil]; exact h, MF.rf⟩
  · rintro j c s hj ⟨rfl, s1, s2⟩
    unfold SX12_says_s10_2
    refine Ok.ifF (by rw [li_1, nI_leP (by omega) (by omega)]; omega) (Ok.rdE s1.1 (Ok.ckT (inb_n hj (by omega)) ?_))
    obtain rfl : j = 0 := by omega
    · rw [show chr [61] (nI 0) = nI 61 from rfl]
      have e : (l ++ List.take 0 [61]).length < 400 := by rw [List.length_append]; show l.length + 0 < 400; omega
      refine Ok.ckT (inb_n e (by omega)) ?_
      rw [nI_cl (by omega)]
      refine OkwrE (Ok.rdE (x := nI (l ++ List.take 0 [61]).length) (by rw [wrf (by decide)]; exact s1.1) ?_)
      rw [nI_1]
      refine OkwrE (Ok.ret ⟨nI_1 0, ?_, s2.tr MF.w⟩)
      have := s1.s (b := 61)
      rw [List.append_assoc l] at this
      exact this
  · rintro c s ⟨rfl, s1, s2⟩
    unfold SX12_says_s10_2
    exact Ok.ifT (by rw [li_1, nI_leP (by omega) (by omega)]; omega) (Ok.ret ⟨s1, s2⟩)
theorem m_say_s11 {l : List Nat} {t : St} (h : OMm l t) (hl : l.length + 5 ≤ 400) : Ok (FX12_says_s11 t) (fun _ u => OMm (l ++ [59, 114, 111, 119, 32]) u ∧ MF t u) := by
  unfold FX12_says_s11
  refine Ok.bd (fun _ u => OMm (l ++ [59, 114, 111, 119, 32]) u ∧ MF t u) ?_ (fun _ _ hu => Ok.ret hu)
  refine Ok.count 5 (fun j c s => c = nI j ∧ OMm (l ++ List.take j [59, 114, 111, 119, 32]) s ∧ MF t s) ?_ ?_ (Nat.zero_le _) ⟨rfl, by rw [List.take_zero, List.append_nil]; exact h, MF.rf⟩
  · rintro j c s hj ⟨rfl, s1, s2⟩
    unfold SX12_says_s11_2
    refine Ok.ifF (by rw [li_5, nI_leP (by omega) (by omega)]; omega) (Ok.rdE s1.1 (Ok.ckT (inb_n hj (by omega)) ?_))
    rcases (show j = 0 ∨ j = 1 ∨ j = 2 ∨ j = 3 ∨ j = 4 by omega) with rfl | rfl | rfl | rfl | rfl
    · rw [show chr [59, 114, 111, 119, 32] (nI 0) = nI 59 from rfl]
      have e : (l ++ List.take 0 [59, 114, 111, 119, 32]).length < 400 := by rw [List.length_append]; show l.length + 0 < 400; omega
      refine Ok.ckT (inb_n e (by omega)) ?_
      rw [nI_cl (by omega)]
      refine OkwrE (Ok.rdE (x := nI (l ++ List.take 0 [59, 114, 111, 119, 32]).length) (by rw [wrf (by decide)]; exact s1.1) ?_)
      rw [nI_1]
      refine OkwrE (Ok.ret ⟨nI_1 0, ?_, s2.tr MF.w⟩)
      have := s1.s (b := 59)
      rw [List.append_assoc l] at this
      exact this
    · rw [show chr [59, 114, 111, 119, 32] (nI 1) = nI 114 from rfl]
      have e : (l ++ List.take 1 [59, 114, 111, 119, 32]).length < 400 := by rw [List.length_append]; show l.length + 1 < 400; omega
      refine Ok.ckT (inb_n e (by omega)) ?_
      rw [nI_cl (by omega)]
      refine OkwrE (Ok.rdE (x := nI (l ++ List.take 1 [59, 114, 111, 119, 32]).length) (by rw [wrf (by decide)]; exact s1.1) ?_)
      rw [nI_1]
      refine OkwrE (Ok.ret ⟨nI_1 1, ?_, s2.tr MF.w⟩)
      have := s1.s (b := 114)
      rw [List.append_assoc l] at this
      exact this
    · rw [show chr [59, 114, 111, 119, 32] (nI 2) = nI 111 from rfl]
      have e : (l ++ List.take 2 [59, 114, 111, 119, 32]).length < 400 := by rw [List.length_append]; show l.length + 2 < 400; omega
      refine Ok.ckT (inb_n e (by omega)) ?_
      rw [nI_cl (by omega)]
      refine OkwrE (Ok.rdE (x := nI (l ++ List.take 2 [59, 114, 111, 119, 32]).length) (by rw [wrf (by decide)]; exact s1.1) ?_)
      rw [nI_1]
      refine OkwrE (Ok.ret ⟨nI_1 2, ?_, s2.tr MF.w⟩)
      have := s1.s (b := 111)
      rw [List.append_assoc l] at this
      exact this
    · rw [show chr [59, 114, 111, 119, 32] (nI 3) = nI 119 from rfl]
      have e : (l ++ List.take 3 [59, 114, 111, 119, 32]).length < 400 := by rw [List.length_append]; show l.length + 3 < 400; omega
      refine Ok.ckT (inb_n e (by omega)) ?_
      rw [nI_cl (by omega)]
      refine OkwrE (Ok.rdE (x := nI (l ++ List.take 3 [59, 114, 111, 119, 32]).length) (by rw [wrf (by decide)]; exact s1.1) ?_)
      rw [nI_1]
      refine OkwrE (Ok.ret ⟨nI_1 3, ?_, s2.tr MF.w⟩)
      have := s1.s (b := 119)
      rw [List.append_assoc l] at this
      exact this
    · rw [show chr [59, 114, 111, 119, 32] (nI 4) = nI 32 from rfl]
      have e : (l ++ List.take 4 [59, 114, 111, 119, 32]).length < 400 := by rw [List.length_append]; show l.length + 4 < 400; omega
      refine Ok.ckT (inb_n e (by omega)) ?_
      rw [nI_cl (by omega)]
      refine OkwrE (Ok.rdE (x := nI (l ++ List.take 4 [59, 114, 111, 119, 32]).length) (by rw [wrf (by decide)]; exact s1.1) ?_)
      rw [nI_1]
      refine OkwrE (Ok.ret ⟨nI_1 4, ?_, s2.tr MF.w⟩)
      have := s1.s (b := 32)
      rw [List.append_assoc l] at this
      exact this
  · rintro c s ⟨rfl, s1, s2⟩
    unfold SX12_says_s11_2
    exact Ok.ifT (by rw [li_5, nI_leP (by omega) (by omega)]; omega) (Ok.ret ⟨s1, s2⟩)
theorem m_say_s12 {l : List Nat} {t : St} (h : OMm l t) (hl : l.length + 1 ≤ 400) : Ok (FX12_says_s12 t) (fun _ u => OMm (l ++ [59]) u ∧ MF t u) := by
  unfold FX12_says_s12
  refine Ok.bd (fun _ u => OMm (l ++ [59]) u ∧ MF t u) ?_ (fun _ _ hu => Ok.ret hu)
  refine Ok.count 1 (fun j c s => c = nI j ∧ OMm (l ++ List.take j [59]) s ∧ MF t s) ?_ ?_ (Nat.zero_le _) ⟨rfl, by rw [List.take_zero, List.append_nil]; exact h, MF.rf⟩
  · rintro j c s hj ⟨rfl, s1, s2⟩
    unfold SX12_says_s12_2
    refine Ok.ifF (by rw [li_1, nI_leP (by omega) (by omega)]; omega) (Ok.rdE s1.1 (Ok.ckT (inb_n hj (by omega)) ?_))
    obtain rfl : j = 0 := by omega
    · rw [show chr [59] (nI 0) = nI 59 from rfl]
      have e : (l ++ List.take 0 [59]).length < 400 := by rw [List.length_append]; show l.length + 0 < 400; omega
      refine Ok.ckT (inb_n e (by omega)) ?_
      rw [nI_cl (by omega)]
      refine OkwrE (Ok.rdE (x := nI (l ++ List.take 0 [59]).length) (by rw [wrf (by decide)]; exact s1.1) ?_)
      rw [nI_1]
      refine OkwrE (Ok.ret ⟨nI_1 0, ?_, s2.tr MF.w⟩)
      have := s1.s (b := 59)
      rw [List.append_assoc l] at this
      exact this
  · rintro c s ⟨rfl, s1, s2⟩
    unfold SX12_says_s12_2
    exact Ok.ifT (by rw [li_1, nI_leP (by omega) (by omega)]; omega) (Ok.ret ⟨s1, s2⟩)
theorem m_say_s13 {l : List Nat} {t : St} (h : OMm l t) : Ok (FX12_says_s13 t) (fun _ u => OMm l u ∧ MF t u) := by
  unfold FX12_says_s13
  refine Ok.bd (fun _ u => t = u) ?_ (fun _ u hu => Ok.ret (by rw [← hu]; exact ⟨h, MF.rf⟩))
  refine Ok.loop (fun _ c s => c = 0 ∧ t = s) ?_ 0 _ _ ⟨rfl, rfl⟩
  rintro k c s ⟨rfl, rfl⟩
  unfold SX12_says_s13_2
  exact Ok.ifT (by decide) (Ok.ret rfl)
theorem m_say_s14 {l : List Nat} {t : St} (h : OMm l t) (hl : l.length + 1 ≤ 400) : Ok (FX12_says_s14 t) (fun _ u => OMm (l ++ [32]) u ∧ MF t u) := by
  unfold FX12_says_s14
  refine Ok.bd (fun _ u => OMm (l ++ [32]) u ∧ MF t u) ?_ (fun _ _ hu => Ok.ret hu)
  refine Ok.count 1 (fun j c s => c = nI j ∧ OMm (l ++ List.take j [32]) s ∧ MF t s) ?_ ?_ (Nat.zero_le _) ⟨rfl, by rw [List.take_zero, List.append_nil]; exact h, MF.rf⟩
  · rintro j c s hj ⟨rfl, s1, s2⟩
    unfold SX12_says_s14_2
    refine Ok.ifF (by rw [li_1, nI_leP (by omega) (by omega)]; omega) (Ok.rdE s1.1 (Ok.ckT (inb_n hj (by omega)) ?_))
    obtain rfl : j = 0 := by omega
    · rw [show chr [32] (nI 0) = nI 32 from rfl]
      have e : (l ++ List.take 0 [32]).length < 400 := by rw [List.length_append]; show l.length + 0 < 400; omega
      refine Ok.ckT (inb_n e (by omega)) ?_
      rw [nI_cl (by omega)]
      refine OkwrE (Ok.rdE (x := nI (l ++ List.take 0 [32]).length) (by rw [wrf (by decide)]; exact s1.1) ?_)
      rw [nI_1]
      refine OkwrE (Ok.ret ⟨nI_1 0, ?_, s2.tr MF.w⟩)
      have := s1.s (b := 32)
      rw [List.append_assoc l] at this
      exact this
  · rintro c s ⟨rfl, s1, s2⟩
    unfold SX12_says_s14_2
    exact Ok.ifT (by rw [li_1, nI_leP (by omega) (by omega)]; omega) (Ok.ret ⟨s1, s2⟩)
theorem m_line {l : List Nat} {s n a b : Nat} {w : Nat → Nat → Nat} {t : St} {A : Option (Unit × St)} {sep : Nat} (h : RN s n w t) (hs : s < 3) (hw : WF n w) (ha : a < 9) (hb : b < 9) (hl : l.length + 12 ≤ 400) (hA : Ok A (fun _ u => OMm (l ++ [sep]) u ∧ MF t u)) : Ok (bnd A (fun _ t28 => bnd (FX12_saysNumber 4 (nI a) t28) (fun _ t31 => bnd (FX12_says_s9 t31) (fun _ t34 => bnd (FX12_saysNumber 4 (nI b) t34) (fun _ t37 => bnd (FX12_weight (nI s) (nI a) (nI b) t37) (fun v39 t40 => bnd (if v39 ≤ (1 : Int32) then some ((), t40) else bnd (FX12_says_s10 t40) (fun _ t48 => bnd (FX12_weight (nI s) (nI a) (nI b) t48) (fun v50 t51 => bnd (FX12_saysNumber 4 v50 t51) (fun _ t54 => some ((), t54))))) (fun _ t44 => some ((1 : Int32), t44)))))))) (fun r u => r = 1 ∧ (0 < w a b → OMm (lnx l sep a b (w a b)) u) ∧ MF t u) := by
  have w9 := hw.1 a b
  have l0 : (l ++ [sep]).length = l.length + 1 := len_s
  refine Ok.bd _ hA ?_
  rintro _ t1 ⟨h1, f1⟩
  refine Ok.bd _ (m_num (v := a) h1 (by omega) (by omega)) ?_
  rintro _ t2 ⟨h2, f2⟩
  have l1 : ((l ++ [sep]) ++ nd a).length = l.length + 2 := by rw [nd_1 (by omega), len_s, l0]
  refine Ok.bd _ (m_say_s9 h2 (by omega)) ?_
  rintro _ t3 ⟨h3, f3⟩
  have l2 : (((l ++ [sep]) ++ nd a) ++ [45]).length = l.length + 3 := by rw [len_s, l1]
  refine Ok.bd _ (m_num (v := b) h3 (by omega) (by omega)) ?_
  rintro _ t4 ⟨h4, f4⟩
  have l3 : ((((l ++ [sep]) ++ nd a) ++ [45]) ++ nd b).length = l.length + 4 := by rw [nd_1 (v := b) (by omega), len_s, l2]
  have f14 := ((f1.tr f2).tr f3).tr f4
  refine Ok.bq (q_weight (f14.rn h) hs ha hb) (Ok.bd (fun _ u => (0 < w a b → OMm (lnx l sep a b (w a b)) u) ∧ MF t u) ?_ (fun _ _ hu => Ok.ret ⟨rfl, hu⟩))
  unfold lnx
  refine Ok.cv (nI_leP (b := 1) (by omega) (by omega)) (Ok.ite (fun c => Ok.ret ⟨fun c2 => by rw [if_pos (by omega)]; exact h4, f14⟩) (fun c => ?_))
  refine Ok.bd _ (m_say_s10 h4 (by omega)) ?_
  rintro _ t5 ⟨h5, f5⟩
  have f15 := f14.tr f5
  refine Ok.bq (q_weight (f15.rn h) hs ha hb) (Ok.bd _ (m_num (v := w a b) h5 (by omega) (by rw [len_s, l3]; omega)) ?_)
  rintro _ t6 ⟨h6, f6⟩
  exact Ok.ret ⟨fun _ => by rw [if_neg (by omega)]; exact h6, f15.tr f6⟩
def flg (b : Bool) : Int32 := if b = true then 1 else 0
theorem m_netIn {s n a : Nat} {w : Nat → Nat → Nat} {B : TS} {t : St} (h : RN s n w t) (hs : s < 3) (hw : WF n w) (hn : n < 10) (ha : a < n) (hO : OMm B.1 t) (hl : B.1.length + 6 * (n - (a + 1)) + 12 ≤ 400) : Ok (wh (SX12_saysNet_34 (nI s) (nI a)) (flg B.2, nI (a + 1)) t) (fun r u => r = flg (tli w a B (n - (a + 1))).2 ∧ OMm (tli w a B (n - (a + 1))).1 u ∧ MF t u) := by
  refine Ok.count (n - (a + 1)) (fun k c s => c = (flg (tli w a B k).2, nI (a + 1 + k)) ∧ OMm (tli w a B k).1 s ∧ MF t s) ?_ ?_ (Nat.zero_le _) ⟨rfl, hO, MF.rf⟩
  · rintro k c s' hk ⟨rfl, s1, s2⟩
    unfold SX12_saysNet_34
    dsimp only
    have h1 := s2.rn h
    have w9 := hw.1 a (a + 1 + k)
    have tl := tli_len (a := a) (B := B) hw hn (k := k) (by omega)
    refine Ok.bq (q_points h1 hs) (Ok.ifF (by rw [nI_leP (by omega) (by omega)]; omega) (Ok.bq (q_weight h1 hs (by omega) (by omega)) (Ok.bd (fun r u => r = flg (tli w a B (k + 1)).2 ∧ OMm (tli w a B (k + 1)).1 u ∧ MF t u) ?_ ?_)))
    · rw [tli]
      refine Ok.cv (nI_q0 (by omega)) (Ok.ite (fun c => Ok.ret ?_) (fun c => ?_))
      · rw [if_pos c]
        exact ⟨rfl, s1, s2⟩
      · rw [if_neg c]
        cases e : (tli w a B k).2 with
        | false =>
          refine Ok.ifT rfl ((m_line (sep := 58) h1 hs hw (by omega) (by omega) (by omega) (m_say_s8 s1 (by omega))).mono ?_)
          rintro r u ⟨rfl, u1, u2⟩
          exact ⟨rfl, u1 (by omega), s2.tr u2⟩
        | true =>
          refine Ok.ifF (by decide) ((m_line (sep := 44) h1 hs hw (by omega) (by omega) (by omega) (m_say_s7 s1 (by omega))).mono ?_)
          rintro r u ⟨rfl, u1, u2⟩
          exact ⟨rfl, u1 (by omega), s2.tr u2⟩
    · rintro _ u ⟨rfl, u1, u2⟩
      exact Ok.ret ⟨by rw [nI_1]; rfl, u1, u2⟩
  · rintro c s' ⟨rfl, s1, s2⟩
    unfold SX12_saysNet_34
    dsimp only
    exact Ok.bq (q_points (s2.rn h) hs) (Ok.ifT (by rw [nI_leP (by omega) (by omega)]; omega) (Ok.ret ⟨rfl, s1, s2⟩))
theorem m_saysNet {s n : Nat} {w : Nat → Nat → Nat} {o : Nat → Nat} {t : St} (h : RN s n w t) (hs : s < 3) (hw : WF n w) (hn : n < 10) (ho : RO s n o t) (h9 : ∀ i, i < n → o i < 9) (hO : OMm [] t) : Ok (FX12_saysNet (nI s) t) (fun _ u => OMm (txn n w o) u ∧ MF t u) := by
  unfold FX12_saysNet
  refine Ok.bd _ (m_say_s6 hO (by decide)) ?_
  rintro _ t1 ⟨h1, f1⟩
  rw [List.nil_append] at h1
  refine Ok.bq (q_points (f1.rn h) hs) (Ok.bd _ (m_num h1 (by omega) (by decide)) ?_)
  rintro _ t2 ⟨h2, f2⟩
  have l2 : ([110, 101, 116, 32] ++ nd n).length = 5 := by rw [nd_1 hn]; rfl
  refine Ok.bd (fun _ u => OMm (tlo n w ([110, 101, 116, 32] ++ nd n, false) n).1 u ∧ MF t u) ?_ ?_
  · refine Ok.count n (fun i c s => c = (flg (tlo n w ([110, 101, 116, 32] ++ nd n, false) i).2, nI i) ∧ OMm (tlo n w ([110, 101, 116, 32] ++ nd n, false) i).1 s ∧ MF t s) ?_ ?_ (Nat.zero_le _) ⟨rfl, h2, f1.tr f2⟩
    · rintro i c s' hi ⟨rfl, s1, s2⟩
      unfold SX12_saysNet_20
      dsimp only
      have tl := tlo_len (B := ([110, 101, 116, 32] ++ nd n, false)) hw hn (i := i) (by omega)
      have tr : tri i + (8 - i) ≤ 36 := tri_le (by omega)
      refine Ok.bq (q_points (s2.rn h) hs) (Ok.ifF (by rw [nI_leP (by omega) (by omega)]; omega) ?_)
      rw [nI_1]
      refine Ok.bd _ (m_netIn (B := tlo n w ([110, 101, 116, 32] ++ nd n, false) i) (s2.rn h) hs hw hn hi s1 (by dsimp only at tl; omega)) ?_
      rintro _ u ⟨rfl, u1, u2⟩
      exact Ok.ret ⟨rfl, u1, s2.tr u2⟩
    · rintro c s' ⟨rfl, s1, s2⟩
      unfold SX12_saysNet_20
      dsimp only
      exact Ok.bq (q_points (s2.rn h) hs) (Ok.ifT (by rw [nI_leP (by omega) (by omega)]; omega) (Ok.ret ⟨s1, s2⟩))
  · rintro _ t3 ⟨h3, f3⟩
    have tl := tlo_len (B := ([110, 101, 116, 32] ++ nd n, false)) hw hn (i := n) (Nat.le_refl _)
    have tr : tri n ≤ 36 := tri_9 (by omega)
    unfold txn
    generalize (tlo n w ([110, 101, 116, 32] ++ nd n, false) n).1 = X at h3 tl ⊢
    refine Ok.bd _ (m_say_s11 h3 (by dsimp only at tl; omega)) ?_
    rintro _ t4 ⟨h4, f4⟩
    have l4 : (X ++ [59, 114, 111, 119, 32]).length = X.length + 5 := List.length_append
    have dl : ∀ j, j ≤ n → (dgs (X ++ [59, 114, 111, 119, 32]) o j).length = X.length + 5 + j := fun j hj => by
      rw [dgs_len (n := n) (fun i hi => by have := h9 i hi; omega) hj, l4]
    refine Ok.bd (fun _ u => OMm (dgs (X ++ [59, 114, 111, 119, 32]) o n) u ∧ MF t u) ?_ ?_
    · refine Ok.count n (fun j c s => c = nI j ∧ OMm (dgs (X ++ [59, 114, 111, 119, 32]) o j) s ∧ MF t s) ?_ ?_ (Nat.zero_le _) ⟨rfl, h4, f3.tr f4⟩
      · rintro j c s' hj ⟨rfl, s1, s2⟩
        unfold SX12_saysNet_147
        have hdl := dl j (by omega)
        have oj := h9 j hj
        refine Ok.bq (q_points (s2.rn h) hs) (Ok.ifF (by rw [nI_leP (by omega) (by omega)]; omega) (Ok.bq (q_at (s2.ro ho) hs hn hj) (Ok.bd _ (m_num s1 (by omega) (by dsimp only at tl; omega)) ?_)))
        rintro _ u ⟨u1, u2⟩
        exact Ok.ret ⟨nI_1 j, u1, s2.tr u2⟩
      · rintro c s' ⟨rfl, s1, s2⟩
        unfold SX12_saysNet_147
        exact Ok.bq (q_points (s2.rn h) hs) (Ok.ifT (by rw [nI_leP (by omega) (by omega)]; omega) (Ok.ret ⟨s1, s2⟩))
    · rintro _ t5 ⟨h5, f5⟩
      have := dl n (Nat.le_refl _)
      refine Ok.bd _ (m_say_s12 h5 (by dsimp only at tl; omega)) ?_
      rintro _ u ⟨u1, u2⟩
      exact Ok.ret ⟨u1, f5.tr u2⟩
theorem q_in01 {q : Nat} {t : St} (hq : q < 2) : FX12_in (nI q).toInt64 (0 : Int64) (1 : Int64) t = some (1, t) := by
  refine Ok.eq (e_in (fun _ _ => ⟨rfl, rfl⟩) (fun h => absurd ?_ h))
  rw [n64 (by omega), show (0 : Int64).toInt = 0 by decide, show (1 : Int64).toInt = 1 by decide]
  omega
theorem m_tell {s n q : Nat} {w : Nat → Nat → Nat} {o : Nat → Nat} {t : St} (hs : s < 3) (h : RN s n w t) (hw : WF n w) (hn : n < 10) (h1 : 1 ≤ n) (ho : RO s n o t) (h9 : ∀ i, i < n → o i < 9) (hq : q < 2) : Ok (FX12_tell (nI s) (nI q) t) (fun r u => r = nI (tlx n w o q).length ∧ OMm (tlx n w o q) u ∧ MF t u) := by
  unfold FX12_tell
  refine Ok.bq (g_isNet hs hn h) ?_
  rw [if_neg (c := n = 0) (by omega)]
  refine Ok.ifF (by decide) (Ok.bq (q_in01 hq) (Ok.ifF (by decide) (OkwrE ?_)))
  have f0 : MF t (wr t 149 25 0) := ⟨fun c k1 k2 => wr_off c k1, fun i hi => wrn hi⟩
  have O0 : OMm [] (wr t 149 25 0) := ⟨wrs, fun i hi => absurd hi (Nat.not_lt_zero i)⟩
  generalize wr t 149 25 0 = y at f0 O0 ⊢
  unfold tlx
  refine Ok.cv (nI_eqP (b := 0) (by omega) (by omega)) (Ok.ite (fun c => ?_) (fun c => ?_))
  · rw [if_pos c]
    refine Ok.bd _ (m_saysNet (f0.rn h) hs hw hn (f0.ro ho) h9 O0) ?_
    rintro _ u ⟨u1, u2⟩
    exact Ok.rdE u1.1 (Ok.ret ⟨rfl, u1, f0.tr u2⟩)
  · rw [if_neg c]
    refine Ok.bd (fun _ u => OMm (ctx n w o (n - 1)) u ∧ MF t u) ?_ (fun _ u hu => Ok.rdE hu.1.1 (Ok.ret ⟨rfl, hu⟩))
    refine Ok.count (n - 1) (fun k c s => c = nI (k + 1) ∧ OMm (ctx n w o k) s ∧ MF t s) ?_ ?_ (Nat.zero_le _) ⟨rfl, O0, f0⟩
    · rintro k c s' hk ⟨rfl, s1, s2⟩
      unfold SX12_tell_42
      have cl := ctx_len (n := n) (w := w) (o := o) (k := k)
      have pl := pri_le (m := 0) (i := k + 1) (o := o) hw hn
      refine Ok.bq (q_points (s2.rn h) hs) (Ok.ifF (by rw [nI_leP (by omega) (by omega)]; omega) (Ok.cv (nI_eqP (b := 1) (by omega) (by omega)) (Ok.ite (fun c => ?_) (fun c => ?_))))
      · refine Ok.bd _ (m_say_s13 s1) ?_
        rintro _ t1 ⟨g1, f1⟩
        have f2 := s2.tr f1
        refine Ok.bq (q_priceOf (m := 0) (i := k + 1) (f2.rn h) hs hw hn (f2.ro ho) h9 (by omega) (by omega) (Or.inr (by omega))) (Ok.bd _ (m_num g1 (by omega) (by omega)) ?_)
        rintro _ u ⟨u1, u2⟩
        refine Ok.ret ⟨nI_1 (k + 1), ?_, f2.tr u2⟩
        show OMm ((if k = 0 then ctx n w o k else ctx n w o k ++ [32]) ++ nd (pri n w 0 o (k + 1))) u
        rw [if_pos (by omega)]
        exact u1
      · refine Ok.bd _ (m_say_s14 s1 (by omega)) ?_
        rintro _ t1 ⟨g1, f1⟩
        have f2 := s2.tr f1
        refine Ok.bq (q_priceOf (m := 0) (i := k + 1) (f2.rn h) hs hw hn (f2.ro ho) h9 (by omega) (by omega) (Or.inr (by omega))) (Ok.bd _ (m_num g1 (by omega) (by rw [len_s]; omega)) ?_)
        rintro _ u ⟨u1, u2⟩
        refine Ok.ret ⟨nI_1 (k + 1), ?_, f2.tr u2⟩
        show OMm ((if k = 0 then ctx n w o k else ctx n w o k ++ [32]) ++ nd (pri n w 0 o (k + 1))) u
        rw [if_neg (c := k = 0) (by omega)]
        exact u1
    · rintro c s' ⟨rfl, s1, s2⟩
      unfold SX12_tell_42
      exact Ok.bq (q_points (s2.rn h) hs) (Ok.ifT (by rw [nI_leP (by omega) (by omega)]; omega) (Ok.ret ⟨s1, s2⟩))
theorem tlx_len {n q : Nat} {w : Nat → Nat → Nat} {o : Nat → Nat} (hw : WF n w) (hn : n < 10) (h9 : ∀ i, i < n → o i < 9) : (tlx n w o q).length ≤ 256 := by
  unfold tlx
  split
  · have tl := tlo_len (B := ([110, 101, 116, 32] ++ nd n, false)) hw hn (i := n) (Nat.le_refl _)
    have tr : tri n ≤ 36 := tri_9 (by omega)
    have l2 : ([110, 101, 116, 32] ++ nd n).length = 5 := by rw [nd_1 hn]; rfl
    unfold txn
    rw [len_s, dgs_len (n := n) (fun i hi => by have := h9 i hi; omega) (Nat.le_refl _), List.length_append]
    show _ + 5 + n + 1 ≤ 256
    dsimp only at tl
    omega
  · have cl := ctx_len (n := n) (w := w) (o := o) (k := n - 1)
    omega
