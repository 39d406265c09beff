/-! the reference: rows taken, changed over, moved, polished; lines (wip/ext/g34.py) -/
/-- a slot's row written anew -/
def rwst (g : Nat → Int32) (s n : Nat) (f : Nat → Int32) : Nat → Int32 := fun k => if 91 * s + 82 ≤ k ∧ k < 91 * s + 82 + n then f (k - (91 * s + 82)) else g k
theorem PEs.row {g f : Nat → Int32} (h : PEs g) {s n : Nat} (hs : s < 3) (en : g (91 * s) = nI n) (hn : n < 10) (hP : PM n f) : PEs (rwst g s n f) := by
  intro s' hs' m em hm p hp
  unfold rwst at em
  rw [if_neg (by omega)] at em
  by_cases e : s' = s
  · subst e
    have : m = n := nI_inj (em.symm.trans en) (by omega) (by omega)
    subst this
    obtain ⟨i, hi, ei⟩ := hP p hp
    refine ⟨i, hi, ?_⟩
    unfold rwst
    rw [if_pos (by omega), Nat.add_sub_cancel_left]
    exact ei
  · obtain ⟨i, hi, ei⟩ := h s' hs' m em hm p hp
    refine ⟨i, hi, ?_⟩
    unfold rwst
    rw [if_neg (by omega)]
    exact ei
theorem GM.row {σ t : St} (h : GM σ t) {s n : Nat} {f : Nat → Int32} (hs : s < 3) (en : t 150 (91 * s) = nI n) (hn : n < 10) (hf : ∀ i, i < n → IsR 9 (f i)) (hP : PM n f) : GM σ (stp t 150 (rwst (t 150) s n f)) := by
  refine h.st (fun i hi => ?_) (h.pe.row hs en hn hP)
  unfold rwst
  by_cases q : 91 * s + 82 ≤ i ∧ i < 91 * s + 82 + n
  · rw [if_pos q]
    have e : i % 91 = i - 91 * s := by
      obtain ⟨d, rfl⟩ : ∃ d, i = 91 * s + d := ⟨i - 91 * s, by omega⟩
      rw [Nat.mul_add_mod, Nat.add_sub_cancel_left, Nat.mod_eq_of_lt (by omega)]
    rw [e, if_pos (by omega)]
    exact hf _ (by omega)
  · rw [if_neg q]
    exact h.ts hi
theorem nX12_takesRow {σ t : St} (hG : GM σ t) {s n : Nat} (hs : s < 3) (en : t 150 (91 * s) = nI n) (hn : n < 10) (hP : PM n (t 154)) : Ok (FX12_takesRow (nI s) t) (fun r u => GM σ u ∧ u 150 (91 * s) = nI n) := by
  unfold FX12_takesRow
  refine Ok.bd (fun _ u => t = u) ?_ ?_
  · refine Ok.loop (fun k c u => t = u ∧ ∃ j, c.2 = nI j ∧ j ≤ 9 ∧ k = 9 - j) ?_ 9 _ _ ⟨rfl, 0, rfl, by omega, rfl⟩
    intro k c u hI
    obtain ⟨rfl, j, ej, hj, rfl⟩ := hI
    obtain ⟨c0, c1⟩ := c
    dsimp only at ej
    subst ej
    unfold SX12_takesRow_4
    dsimp only
    refine Ok.bd _ (xX12_points hG.tt hs) ?_
    rintro _ _ ⟨rfl, rfl⟩
    rw [en]
    refine Ok.ite (fun _ => Ok.ret rfl) (fun c1 => ?_)
    rw [nI_leP (by omega) (by omega)] at c1
    refine Ok.bd _ (xX12_at hG.tt hs (i := j) (by omega)) ?_
    rintro _ _ ⟨rfl, rfl⟩
    refine Ok.ck (inb_n (by omega) (by omega)) (fun g => Ok.rd (fun v hv => ?_))
    refine Ok.bd (fun _ u => t = u) (Ok.ite (fun _ => Ok.ret rfl) (fun _ => Ok.ret rfl)) ?_
    rintro v _ rfl
    exact Ok.ret ⟨9 - (j + 1), by omega, rfl, j + 1, nI_1 j, by omega, rfl⟩
  · rintro e16 _ rfl
    refine Ok.bd _ xX12_remembers ?_
    rintro _ _ rfl
    have h1 := hG.rem
    generalize hd : stp t 151 (fun k => if k < 273 then t 150 k else t 151 k) = d at h1
    have d150 : d 150 = t 150 := by rw [← hd, stp_off (by decide)]
    have d154 : d 154 = t 154 := by rw [← hd, stp_off (by decide)]
    refine Ok.bd (fun _ u => u = stp d 150 (rwst (t 150) s n (t 154))) ?_ ?_
    · refine Ok.loop (fun k c u => ∃ j, c = nI j ∧ j ≤ n ∧ k = n - j ∧ u = stp d 150 (rwst (t 150) s j (t 154))) ?_ n _ _ ⟨0, rfl, by omega, rfl, ?_⟩
      · intro k c u hI
        obtain ⟨j, rfl, hj, rfl, rfl⟩ := hI
        have hTu : TY (stp d 150 (rwst (t 150) s j (t 154))) := by
          refine h1.1.stp (fun i hi => ?_)
          unfold rwst
          by_cases q : 91 * s + 82 ≤ i ∧ i < 91 * s + 82 + j
          · rw [if_pos q, ty_st (by omega)]
            have e : i % 91 = i - 91 * s := by
              obtain ⟨d, rfl⟩ : ∃ d, i = 91 * s + d := ⟨i - 91 * s, by omega⟩
              rw [Nat.mul_add_mod, Nat.add_sub_cancel_left, Nat.mod_eq_of_lt (by omega)]
            rw [e, if_pos (by omega)]
            exact hG.tt.rd (ty_a154 (by omega)) (by omega)
          · rw [if_neg q]
            exact hG.tt 150 i hi
        have ep : stp d 150 (rwst (t 150) s j (t 154)) 150 (91 * s) = nI n := by
          rw [stp_at]
          unfold rwst
          rw [if_neg (by omega)]
          exact en
        unfold SX12_takesRow_48
        refine Ok.bd _ (xX12_points hTu hs) ?_
        rintro _ _ ⟨rfl, rfl⟩
        rw [ep]
        refine Ok.ite (fun c1 => Ok.ret ?_) (fun c1 => ?_)
        · rw [nI_leP (by omega) (by omega)] at c1
          rw [show j = n by omega]
          rfl
        · rw [nI_leP (by omega) (by omega)] at c1
          refine Ok.ck (inb_n (by omega) (by omega)) (fun g => Ok.rd (fun v hv => ?_))
          rw [nI_cl (by omega), stp_off (by decide), d154] at hv
          refine Ok.bd _ (xX12_puts hs (i := j) (by omega)) ?_
          rintro _ _ rfl
          refine Ok.ret ⟨n - (j + 1), by omega, j + 1, nI_1 j, by omega, rfl, ?_⟩
          rw [wr_stp]
          congr 1
          funext q
          unfold rwst
          by_cases e : q = 91 * s + 82 + j
          · subst e
            rw [pk_us, if_pos (by omega), Nat.add_sub_cancel_left]
            exact hv
          · rw [pk_un e]
            by_cases q1 : 91 * s + 82 ≤ q ∧ q < 91 * s + 82 + j
            · rw [if_pos q1, if_pos (by omega)]
            · rw [if_neg q1, if_neg (by omega)]
      · rw [show rwst (t 150) s 0 (t 154) = d 150 by
          rw [d150]
          funext q
          unfold rwst
          rw [if_neg (by omega)], stp_self]
    · rintro _ _ rfl
      have h2 : GM σ (stp d 150 (rwst (t 150) s n (t 154))) := by
        have := h1.row (f := t 154) hs (by rw [d150]; exact en) hn (fun i hi => hG.tt.rd (ty_a154 (by omega)) (by omega)) hP
        rw [d150] at this
        exact this
      obtain ⟨m, hm, em⟩ := h2.tt.rd ty_m3 (by omega)
      have ep : stp d 150 (rwst (t 150) s n (t 154)) 150 (91 * s) = nI n := by
        rw [stp_at]
        unfold rwst
        rw [if_neg (by omega)]
        exact en
      refine Ok.bd (fun _ u => GM σ u ∧ u 150 = stp d 150 (rwst (t 150) s n (t 154)) 150) (Ok.mono (xX12_done hm em) ?_) ?_
      · rintro _ _ ⟨rfl, ⟨rfl, -⟩ | ⟨rfl, -⟩⟩
        · exact ⟨h2, rfl⟩
        · split
          · refine ⟨h2.fq.kq (by omega), ?_⟩
            unfold kpt fgt
            rw [stp_off (by decide), stp_off (by decide), stp_off (by decide), stp_off (by decide)]
          · refine ⟨h2.kq (by omega), ?_⟩
            unfold kpt
            rw [stp_off (by decide), stp_off (by decide)]
      · rintro r u ⟨hu, eu⟩
        exact Ok.ret ⟨hu, by rw [eu]; exact ep⟩
theorem nX12_value {σ t : St} (hG : GM σ t) {a b : Int32} : Ok (FX12_value a b t) (fun r u => GM σ u ∧ True) := by
  unfold FX12_value
  refine Ok.bd _ (rX12_isNet hG.tt) ?_
  rintro v _ ⟨rfl, -, hv⟩
  refine Ok.ite (fun _ => Ok.ret ⟨hG, True.intro⟩) (fun c => ?_)
  obtain ⟨⟨s, hs, rfl⟩, n, en, hn, -⟩ := hv.resolve_left c
  rw [nI_cl (by omega)] at en
  refine Ok.bd _ (rX12_isMeasure hG.tt) ?_
  rintro v _ ⟨rfl, -, -⟩
  refine Ok.ite (fun _ => Ok.ret ⟨hG, True.intro⟩) (fun _ => ?_)
  refine Ok.bd _ (xX12_laysRow hG.tt hG.pe hs en hn) ?_
  rintro _ u ⟨ho, -⟩
  refine Ok.bd _ (rX12_valueOf ho.1 ⟨s, hs, rfl⟩) ?_
  rintro v _ ⟨rfl, -⟩
  exact Ok.ret ⟨ho.gm hG, True.intro⟩
/-- two points of a slot: their numbers -/
theorem two_pt {t : St} (hT : TY t) {a b c : Int32} {s n : Nat} (ha : a = nI s) (hs : s < 3) (en : t 150 (91 * s) = nI n) (hn : n < 10) (h : PtIn t a b) (hb : IsR 9 b) : ∃ k, k < n ∧ b = nI k := by
  obtain ⟨m, em, hm, hk⟩ := h
  obtain ⟨k, hk9, rfl⟩ := hb
  rw [ha, nI_cl (by omega)] at em
  rw [nI_cl (by omega)] at hk
  have : m = n := nI_inj (em.symm.trans en) (by omega) (by omega)
  exact ⟨k, by omega, rfl⟩
/-- isPoint answers: a slot with n points, one of them -/
theorem ptx {t : St} (hT : TY t) {a b : Int32} (h : IsR 3 a ∧ IsR 9 b ∧ PtIn t a b) : ∃ s n k, s < 3 ∧ a = nI s ∧ t 150 (91 * s) = nI n ∧ n < 10 ∧ k < n ∧ b = nI k := by
  obtain ⟨⟨s, hs, rfl⟩, ⟨k, hk, rfl⟩, n, en, hn, hkn⟩ := h
  rw [nI_cl (by omega)] at en hkn
  exact ⟨s, n, k, hs, rfl, en, hn, hkn, rfl⟩
theorem nX12_gain {σ t : St} (hG : GM σ t) {a b c d : Int32} : Ok (FX12_gain a b c d t) (fun r u => GM σ u ∧ True) := by
  unfold FX12_gain
  refine Ok.bd _ (rX12_isPoint hG.tt) ?_
  rintro v _ ⟨rfl, -, hv⟩
  refine Ok.ite (fun _ => Ok.ret ⟨hG, True.intro⟩) (fun c1 => ?_)
  obtain ⟨s, n, i, hs, rfl, en, hn, hi, rfl⟩ := ptx hG.tt (hv.resolve_left c1)
  refine Ok.bd _ (rX12_isPoint hG.tt) ?_
  rintro v _ ⟨rfl, -, hv⟩
  refine Ok.ite (fun _ => Ok.ret ⟨hG, True.intro⟩) (fun c2 => ?_)
  have h2 := hv.resolve_left c2
  obtain ⟨j, hj, rfl⟩ := two_pt (c := 0) hG.tt rfl hs en hn h2.2.2 h2.2.1
  refine Ok.bd _ (rX12_isMeasure hG.tt) ?_
  rintro v _ ⟨rfl, -, -⟩
  refine Ok.ite (fun _ => Ok.ret ⟨hG, True.intro⟩) (fun _ => ?_)
  refine Ok.bd _ (xX12_laysRow hG.tt hG.pe hs en hn) ?_
  rintro _ u ⟨ho, -⟩
  refine Ok.bd _ (rX12_valueOf ho.1 ⟨s, hs, rfl⟩) ?_
  rintro v _ ⟨rfl, -⟩
  refine Ok.bd _ (xX12_exchanges ho hn hi hj) ?_
  rintro _ u ho2
  refine Ok.bd _ (rX12_valueOf ho2.1 ⟨s, hs, rfl⟩) ?_
  rintro v _ ⟨rfl, -⟩
  exact Ok.ret ⟨ho2.gm hG, True.intro⟩
theorem OD.pts {t u : St} {n : Nat} (h : OD t n u) {s : Nat} {x : Int32} (e : t 150 (91 * s) = x) : u 150 (91 * s) = x := by rw [h.2.1 150 (by decide)]; exact e
theorem nX12_swaps {σ t : St} (hG : GM σ t) {a b c : Int32} : Ok (FX12_swaps a b c t) (fun r u => GM σ u ∧ True) := by
  unfold FX12_swaps
  refine Ok.bd _ (rX12_isPoint hG.tt) ?_
  rintro v _ ⟨rfl, -, hv⟩
  refine Ok.ite (fun _ => Ok.ret ⟨hG, True.intro⟩) (fun c1 => ?_)
  obtain ⟨s, n, i, hs, rfl, en, hn, hi, rfl⟩ := ptx hG.tt (hv.resolve_left c1)
  refine Ok.bd _ (rX12_isPoint hG.tt) ?_
  rintro v _ ⟨rfl, -, hv⟩
  refine Ok.ite (fun _ => Ok.ret ⟨hG, True.intro⟩) (fun c2 => ?_)
  have h2 := hv.resolve_left c2
  obtain ⟨j, hj, rfl⟩ := two_pt (c := 0) hG.tt rfl hs en hn h2.2.2 h2.2.1
  refine Ok.bd _ (xX12_at hG.tt hs (i := i) (by omega)) ?_
  rintro v _ ⟨rfl, -⟩
  refine Ok.bd _ (xX12_laysRow hG.tt hG.pe hs en hn) ?_
  rintro _ u ⟨ho, -⟩
  refine Ok.bd _ (xX12_exchanges ho hn hi hj) ?_
  rintro _ u ho2
  refine Ok.bd _ (nX12_takesRow (ho2.gm hG) hs (ho2.pts en) hn ho2.2.2) ?_
  rintro r u ⟨hu, -⟩
  exact Ok.ret ⟨hu, True.intro⟩
theorem nX12_moves {σ t : St} (hG : GM σ t) {a b c : Int32} : Ok (FX12_moves a b c t) (fun r u => GM σ u ∧ True) := by
  unfold FX12_moves
  refine Ok.bd _ (rX12_isPoint hG.tt) ?_
  rintro v _ ⟨rfl, -, hv⟩
  refine Ok.ite (fun _ => Ok.ret ⟨hG, True.intro⟩) (fun c1 => ?_)
  obtain ⟨s, n, i, hs, rfl, en, hn, hi, rfl⟩ := ptx hG.tt (hv.resolve_left c1)
  refine Ok.bd _ (rX12_isPoint hG.tt) ?_
  rintro v _ ⟨rfl, -, hv⟩
  refine Ok.ite (fun _ => Ok.ret ⟨hG, True.intro⟩) (fun c2 => ?_)
  have h2 := hv.resolve_left c2
  obtain ⟨j, hj, rfl⟩ := two_pt (c := 0) hG.tt rfl hs en hn h2.2.2 h2.2.1
  refine Ok.bd _ (xX12_laysRow hG.tt hG.pe hs en hn) ?_
  rintro _ u ⟨ho, -⟩
  refine Ok.bd (fun v w => u = w ∧ ((v = -1 ∧ j ≤ i) ∨ (v = 1 ∧ i < j))) ?_ ?_
  · refine Ok.ite (fun c3 => Ok.ret ⟨rfl, Or.inl ⟨rfl, ?_⟩⟩) (fun c3 => Ok.ret ⟨rfl, Or.inr ⟨rfl, ?_⟩⟩)
    · rw [nI_leP (by omega) (by omega)] at c3
      exact c3
    · rw [nI_leP (by omega) (by omega)] at c3
      omega
  · rintro v _ ⟨rfl, hv⟩
    refine Ok.bd (fun _ w => OD t n w) ?_ ?_
    · rcases hv with ⟨rfl, hle⟩ | ⟨rfl, hlt⟩
      · refine Ok.loop (fun k c w => OD t n w ∧ ∃ q, c = nI q ∧ j ≤ q ∧ q ≤ i ∧ k = q - j) ?_ (i - j) _ _ ⟨ho, i, rfl, hle, by omega, rfl⟩
        intro k c w hI
        obtain ⟨hw, q, rfl, hq, hqi, rfl⟩ := hI
        unfold SX12_moves_41
        refine Ok.ite (fun _ => Ok.ret hw) (fun c4 => ?_)
        rw [nI_eqP (by omega) (by omega)] at c4
        obtain ⟨q, rfl⟩ : ∃ r, q = r + 1 := ⟨q - 1, by omega⟩
        rw [pk_m1]
        refine Ok.bd _ (xX12_exchanges hw hn (by omega) (by omega)) ?_
        rintro _ z hz
        exact Ok.ret ⟨q - j, by omega, hz, q, rfl, by omega, by omega, rfl⟩
      · refine Ok.loop (fun k c w => OD t n w ∧ ∃ q, c = nI q ∧ q ≤ j ∧ k = j - q) ?_ (j - i) _ _ ⟨ho, i, rfl, by omega, rfl⟩
        intro k c w hI
        obtain ⟨hw, q, rfl, hq, rfl⟩ := hI
        unfold SX12_moves_41
        refine Ok.ite (fun _ => Ok.ret hw) (fun c4 => ?_)
        rw [nI_eqP (by omega) (by omega)] at c4
        rw [nI_1]
        refine Ok.bd _ (xX12_exchanges hw hn (by omega) (by omega)) ?_
        rintro _ z hz
        exact Ok.ret ⟨j - (q + 1), by omega, hz, q + 1, rfl, by omega, rfl⟩
    · rintro _ w ho2
      refine Ok.bd _ (nX12_takesRow (ho2.gm hG) hs (ho2.pts en) hn ho2.2.2) ?_
      rintro r z ⟨hz, -⟩
      refine Ok.bd _ (xX12_at hz.tt hs (i := j) (by omega)) ?_
      rintro v _ ⟨rfl, -⟩
      exact Ok.ret ⟨hz, True.intro⟩
theorem nX12_reverse {σ t : St} (hG : GM σ t) {a : Int32} : Ok (FX12_reverse a t) (fun r u => GM σ u ∧ True) := by
  unfold FX12_reverse
  refine Ok.bd _ (rX12_isNet hG.tt) ?_
  rintro v _ ⟨rfl, -, hv⟩
  refine Ok.ite (fun _ => Ok.ret ⟨hG, True.intro⟩) (fun c => ?_)
  obtain ⟨⟨s, hs, rfl⟩, n, en, hn, -⟩ := hv.resolve_left c
  rw [nI_cl (by omega)] at en
  refine Ok.bd _ (xX12_laysRow hG.tt hG.pe hs en hn) ?_
  rintro _ u ⟨ho, -⟩
  refine Ok.bd (fun _ w => OD t n w) ?_ ?_
  · refine Ok.loop (fun k c w => OD t n w ∧ ∃ q, c = nI q ∧ q ≤ 20 ∧ k = 20 - q) ?_ 20 _ _ ⟨ho, 0, rfl, by omega, rfl⟩
    intro k c w hI
    obtain ⟨hw, q, rfl, hq, rfl⟩ := hI
    unfold SX12_reverse_18
    refine Ok.bd _ (xX12_points hw.1 hs) ?_
    rintro _ _ ⟨rfl, rfl⟩
    rw [hw.pts en]
    have e0 : nI n - 1 - nI q = nI n - nI (1 + q) := by
      show nI n - nI 1 - nI q = _
      rw [Int32.sub_sub, nI_add]
    rw [e0]
    refine Ok.ite (fun _ => Ok.ret hw) (fun c1 => ?_)
    rw [Int32.le_iff_toInt_le, pk_sub_toInt (by omega) (by omega), nI_toInt (by omega)] at c1
    refine Ok.bd _ (xX12_points hw.1 hs) ?_
    rintro _ _ ⟨rfl, rfl⟩
    rw [hw.pts en, e0, nI_sub (by omega)]
    refine Ok.bd _ (xX12_exchanges hw hn (i := q) (j := n - (1 + q)) (by omega) (by omega)) ?_
    rintro _ z hz
    exact Ok.ret ⟨20 - (q + 1), by omega, hz, q + 1, nI_1 q, by omega, rfl⟩
  · rintro _ w ho2
    refine Ok.bd _ (nX12_takesRow (ho2.gm hG) hs (ho2.pts en) hn ho2.2.2) ?_
    rintro r z ⟨hz, -⟩
    refine Ok.bd _ (xX12_at hz.tt hs (i := 0) (by omega)) ?_
    rintro v _ ⟨rfl, -⟩
    exact Ok.ret ⟨hz, True.intro⟩
theorem xX12_polishes {t : St} (hT : TY t) (hpe : PEs (t 150)) {s n : Nat} {b : Int32} (hs : s < 3) (en : t 150 (91 * s) = nI n) (hn : n < 10) : Ok (FX12_polishes (nI s) b t) (fun _ u => OD t n u) := by
  unfold FX12_polishes
  refine Ok.bd _ (xX12_laysRow hT hpe hs en hn) ?_
  rintro _ u ⟨ho, -⟩
  refine Ok.bd _ (rX12_valueOf ho.1 ⟨s, hs, rfl⟩) ?_
  rintro v4 _ ⟨rfl, -⟩
  refine Ok.bd (fun _ w => OD t n w) ?_ (fun _ w h => Ok.ret h)
  refine Ok.loop (fun k c w => OD t n w ∧ k = (if c.2.2 = 0 then 0 else 1 + (c.2.1.toInt + 2147483648).toNat)) ?_ _ _ _ ⟨ho, rfl⟩
  clear ho
  intro k c w hI
  obtain ⟨hw, rfl⟩ := hI
  obtain ⟨c0, now, goes⟩ := c
  unfold SX12_polishes_18
  dsimp only
  refine Ok.ite (fun _ => Ok.ret hw) (fun cg => ?_)
  rw [if_neg cg]
  refine Ok.bd (fun e z => OD t n z ∧ (e.1 = -1 ∨ ((∃ a, a < n ∧ e.1 = nI a) ∧ (∃ b, b < n ∧ e.2.1 = nI b) ∧ e.2.2 < now))) ?_ ?_
  · refine Ok.loop (fun k c z => OD t n z ∧ (∃ j, c.2.2.2 = nI j ∧ j ≤ 9 ∧ k = 9 - j) ∧ ¬ now < c.2.2.1 ∧ (c.1 = -1 ∨ ((∃ a, a < n ∧ c.1 = nI a) ∧ (∃ b, b < n ∧ c.2.1 = nI b) ∧ c.2.2.1 < now))) ?_ 9 _ _ ⟨hw, ⟨0, rfl, by omega, rfl⟩, Int32.lt_irrefl, Or.inl rfl⟩
    clear hw
    intro k c z hI
    obtain ⟨hz, ⟨j, ej, hj, rfl⟩, hl, hd⟩ := hI
    obtain ⟨d0, d1, d2, d3⟩ := c
    dsimp only at ej hl hd
    subst ej
    unfold SX12_polishes_36
    dsimp only
    refine Ok.bd _ (xX12_points hz.1 hs) ?_
    rintro _ _ ⟨rfl, rfl⟩
    rw [hz.pts en]
    refine Ok.ite (fun _ => Ok.ret ⟨hz, hd⟩) (fun c1 => ?_)
    rw [nI_leP (by omega) (by omega)] at c1
    refine Ok.bd (fun e z => OD t n z ∧ ¬ now < e.2.2 ∧ (e.1 = -1 ∨ ((∃ a, a < n ∧ e.1 = nI a) ∧ (∃ b, b < n ∧ e.2.1 = nI b) ∧ e.2.2 < now))) ?_ (fun e z h => Ok.ret ⟨9 - (j + 1), by omega, h.1, ⟨j + 1, nI_1 j, by omega, rfl⟩, h.2.1, h.2.2⟩)
    rw [nI_1]
    refine Ok.loop (fun k c z => OD t n z ∧ (∃ j, c.2.2.2 = nI j ∧ j ≤ 9 ∧ k = 9 - j) ∧ ¬ now < c.2.2.1 ∧ (c.1 = -1 ∨ ((∃ a, a < n ∧ c.1 = nI a) ∧ (∃ b, b < n ∧ c.2.1 = nI b) ∧ c.2.2.1 < now))) ?_ (9 - (j + 1)) _ _ ⟨hz, ⟨j + 1, rfl, by omega, rfl⟩, hl, hd⟩
    clear hz hl hd
    intro k c z hI
    obtain ⟨hz, ⟨i, ei, hi, rfl⟩, hl, hd⟩ := hI
    obtain ⟨f0, f1, f2, f3⟩ := c
    dsimp only at ei hl hd
    subst ei
    unfold SX12_polishes_52
    dsimp only
    refine Ok.bd _ (xX12_points hz.1 hs) ?_
    rintro _ _ ⟨rfl, rfl⟩
    rw [hz.pts en]
    refine Ok.ite (fun _ => Ok.ret ⟨hz, hl, hd⟩) (fun c2 => ?_)
    rw [nI_leP (by omega) (by omega)] at c2
    refine Ok.bd _ (xX12_exchanges hz hn (i := j) (j := i) (by omega) (by omega)) ?_
    rintro _ z1 hz1
    refine Ok.bd _ (rX12_valueOf hz1.1 ⟨s, hs, rfl⟩) ?_
    rintro v19 _ ⟨rfl, -⟩
    refine Ok.bd _ (xX12_exchanges hz1 hn (i := j) (j := i) (by omega) (by omega)) ?_
    rintro _ z2 hz2
    refine Ok.bd (fun e z => OD t n z ∧ ¬ now < e.2.2 ∧ (e.1 = -1 ∨ ((∃ a, a < n ∧ e.1 = nI a) ∧ (∃ b, b < n ∧ e.2.1 = nI b) ∧ e.2.2 < now))) ?_ (fun e z h => Ok.ret ⟨9 - (i + 1), by omega, h.1, ⟨i + 1, nI_1 i, by omega, rfl⟩, h.2.1, h.2.2⟩)
    refine Ok.ite (fun _ => Ok.ret ⟨hz2, hl, hd⟩) (fun c3 => ?_)
    have hlt : v19 < now := by
      rw [Int32.le_iff_toInt_le] at c3
      rw [Int32.lt_iff_toInt_lt] at hl ⊢
      omega
    refine Ok.ret ⟨hz2, ?_, Or.inr ⟨⟨j, by omega, rfl⟩, ⟨i, by omega, rfl⟩, hlt⟩⟩
    show ¬ now < v19
    rw [Int32.lt_iff_toInt_lt] at hlt ⊢
    omega
  · rintro ⟨e0, e1, e2⟩ z ⟨hz, hd⟩
    dsimp only at hd ⊢
    refine Ok.bd (fun v z' => z = z' ∧ ((v = 0 ∧ e0 = -1) ∨ (v = 1 ∧ ¬ e0 = -1))) (Ok.ite (fun q => Ok.ret ⟨rfl, Or.inl ⟨rfl, q⟩⟩) (fun q => Ok.ret ⟨rfl, Or.inr ⟨rfl, q⟩⟩)) ?_
    rintro v39 _ ⟨rfl, h39⟩
    refine Ok.bd (fun v z' => OD t n z' ∧ (v39 = 0 ∨ v.2.toInt < now.toInt)) ?_ ?_
    · refine Ok.ite (fun q => Ok.ret ⟨hz, Or.inl q⟩) (fun q => ?_)
      rcases h39 with ⟨h, -⟩ | ⟨-, h⟩
      · exact absurd h q
      · obtain ⟨⟨a, ha, rfl⟩, ⟨b', hb', rfl⟩, hlt⟩ := hd.resolve_left h
        refine Ok.bd _ (xX12_exchanges hz hn ha hb') ?_
        rintro _ z1 hz1
        exact Ok.ret ⟨hz1, Or.inr (Int32.lt_iff_toInt_lt.mp hlt)⟩
    · rintro ⟨v0, v1⟩ z1 ⟨hz1, hv⟩
      refine Ok.ret ⟨_, ?_, hz1, rfl⟩
      dsimp only at hv ⊢
      by_cases q : v39 = 0
      · rw [if_pos q]
        omega
      · rw [if_neg q]
        have := hv.resolve_left q
        have := Int32.le_toInt v1
        omega
theorem nX12_polish {σ t : St} (hG : GM σ t) {a b : Int32} : Ok (FX12_polish a b t) (fun r u => GM σ u ∧ True) := by
  unfold FX12_polish
  refine Ok.bd _ (rX12_isNet hG.tt) ?_
  rintro v _ ⟨rfl, -, hv⟩
  refine Ok.ite (fun _ => Ok.ret ⟨hG, True.intro⟩) (fun c => ?_)
  obtain ⟨⟨s, hs, rfl⟩, n, en, hn, -⟩ := hv.resolve_left c
  rw [nI_cl (by omega)] at en
  refine Ok.bd _ (rX12_isMeasure hG.tt) ?_
  rintro v _ ⟨rfl, -, -⟩
  refine Ok.ite (fun _ => Ok.ret ⟨hG, True.intro⟩) (fun _ => ?_)
  refine Ok.bd _ (xX12_polishes hG.tt hG.pe hs en hn) ?_
  rintro r u ho
  refine Ok.bd _ (nX12_takesRow (ho.gm hG) hs (ho.pts en) hn ho.2.2) ?_
  rintro r z ⟨hz, -⟩
  exact Ok.ret ⟨hz, True.intro⟩
theorem nX12_polished {σ t : St} (hG : GM σ t) {a b : Int32} : Ok (FX12_polished a b t) (fun r u => GM σ u ∧ True) := by
  unfold FX12_polished
  refine Ok.bd _ (rX12_isNet hG.tt) ?_
  rintro v _ ⟨rfl, -, hv⟩
  refine Ok.ite (fun _ => Ok.ret ⟨hG, True.intro⟩) (fun c => ?_)
  obtain ⟨⟨s, hs, rfl⟩, n, en, hn, -⟩ := hv.resolve_left c
  rw [nI_cl (by omega)] at en
  refine Ok.bd _ (rX12_isMeasure hG.tt) ?_
  rintro v _ ⟨rfl, -, -⟩
  refine Ok.ite (fun _ => Ok.ret ⟨hG, True.intro⟩) (fun _ => ?_)
  refine Ok.bd _ (xX12_polishes hG.tt hG.pe hs en hn) ?_
  rintro r u ho
  refine Ok.bd _ (rX12_valueOf ho.1 ⟨s, hs, rfl⟩) ?_
  rintro v _ ⟨rfl, -⟩
  exact Ok.ret ⟨ho.gm hG, True.intro⟩
theorem GM.wt {σ t : St} (h : GM σ t) {s p q : Nat} {v : Int32} (hs : s < 3) (hp : p < 9) (hq : q < 9) (hv : IsR 10 v) : GM σ (wr t 150 (91 * s + 1 + 9 * p + q) v) := by
  have e : wr t 150 (91 * s + 1 + 9 * p + q) v = stp t 150 (upd (t 150) (91 * s + 1 + 9 * p + q) v) := rfl
  have em : (91 * s + 1 + 9 * p + q) % 91 = 1 + 9 * p + q := by
    rw [show 91 * s + 1 + 9 * p + q = 91 * s + (1 + 9 * p + q) by omega, Nat.mul_add_mod, Nat.mod_eq_of_lt (by omega)]
  rw [e]
  refine h.st (fun i hi => ?_) (h.pe.congr (fun s' hs' => pk_un (by omega)) (fun s' i hs' hi => pk_un (by omega)))
  by_cases q' : i = 91 * s + 1 + 9 * p + q
  · subst q'
    rw [pk_us, em, if_neg (by omega)]
    exact hv
  · rw [pk_un q']
    exact h.ts hi
theorem nX12_adds {σ t : St} (hG : GM σ t) {a b c d : Int32} : Ok (FX12_adds a b c d t) (fun r u => GM σ u ∧ True) := by
  unfold FX12_adds FX12_areTwo
  refine Ok.bd (fun v u => t = u ∧ (v = 0 ∨ ((IsR 3 a ∧ IsR 9 b ∧ PtIn t a b) ∧ (IsR 3 a ∧ IsR 9 c ∧ PtIn t a c)))) ?_ ?_
  · refine Ok.bd _ (rX12_isPoint hG.tt) ?_
    rintro v _ ⟨rfl, -, hv⟩
    refine Ok.ite (fun _ => Ok.ret ⟨rfl, Or.inl rfl⟩) (fun c1 => ?_)
    refine Ok.bd _ (rX12_isPoint hG.tt) ?_
    rintro w _ ⟨rfl, -, hw⟩
    refine Ok.ite (fun _ => Ok.ret ⟨rfl, Or.inl rfl⟩) (fun c2 => ?_)
    exact Ok.ite (fun _ => Ok.ret ⟨rfl, Or.inl rfl⟩) (fun _ => Ok.ret ⟨rfl, Or.inr ⟨hv.resolve_left c1, hw.resolve_left c2⟩⟩)
  · rintro v _ ⟨rfl, hv⟩
    refine Ok.ite (fun _ => Ok.ret ⟨hG, True.intro⟩) (fun c1 => ?_)
    obtain ⟨⟨⟨s, hs, rfl⟩, ⟨p, hp, rfl⟩, -⟩, -, ⟨q, hq, rfl⟩, -⟩ := hv.resolve_left c1
    refine Ok.bd _ (rX12_in hG.tt) ?_
    rintro v6 _ ⟨rfl, -, h6⟩
    refine Ok.ite (fun _ => Ok.ret ⟨hG, True.intro⟩) (fun c2 => ?_)
    have hd : IsR 10 d := in_R (h6.resolve_left c2) (by decide) (by decide)
    refine Ok.bd _ (rX12_weight hG.tt ⟨s, hs, rfl⟩ ⟨p, hp, rfl⟩ ⟨q, hq, rfl⟩) ?_
    rintro v10 _ ⟨rfl, -⟩
    have fin : Ok (bnd (FX12_remembers t) (fun _ t1 => bnd (FX12_weighs (nI s) (nI p) (nI q) d t1) (fun _ t2 => bnd (FX12_done v10 t2) (fun v t3 => some (v, t3))))) (fun r u => GM σ u ∧ True) := by
      refine Ok.bd _ xX12_remembers ?_
      rintro _ _ rfl
      refine Ok.bd _ (xX12_weighs hs hp hq) ?_
      rintro _ _ rfl
      refine Ok.bd _ (nX12_done ((hG.rem.wt hs hp hq hd).wt hs hq hp hd)) ?_
      rintro r u ⟨hu, -⟩
      exact Ok.ret ⟨hu, True.intro⟩
    refine Ok.ite (fun _ => ?_) (fun _ => fin)
    refine Ok.bd _ (rX12_lines hG.tt ⟨s, hs, rfl⟩) ?_
    rintro v24 _ ⟨rfl, -⟩
    exact Ok.ite (fun _ => Ok.ret ⟨hG, True.intro⟩) (fun _ => fin)
theorem nX12_cuts {σ t : St} (hG : GM σ t) {a b c : Int32} : Ok (FX12_cuts a b c t) (fun r u => GM σ u ∧ True) := by
  unfold FX12_cuts FX12_areTwo
  refine Ok.bd (fun v u => t = u ∧ (v = 0 ∨ ((IsR 3 a ∧ IsR 9 b ∧ PtIn t a b) ∧ (IsR 3 a ∧ IsR 9 c ∧ PtIn t a c)))) ?_ ?_
  · refine Ok.bd _ (rX12_isPoint hG.tt) ?_
    rintro v _ ⟨rfl, -, hv⟩
    refine Ok.ite (fun _ => Ok.ret ⟨rfl, Or.inl rfl⟩) (fun c1 => ?_)
    refine Ok.bd _ (rX12_isPoint hG.tt) ?_
    rintro w _ ⟨rfl, -, hw⟩
    refine Ok.ite (fun _ => Ok.ret ⟨rfl, Or.inl rfl⟩) (fun c2 => ?_)
    exact Ok.ite (fun _ => Ok.ret ⟨rfl, Or.inl rfl⟩) (fun _ => Ok.ret ⟨rfl, Or.inr ⟨hv.resolve_left c1, hw.resolve_left c2⟩⟩)
  · rintro v _ ⟨rfl, hv⟩
    refine Ok.ite (fun _ => Ok.ret ⟨hG, True.intro⟩) (fun c1 => ?_)
    obtain ⟨⟨⟨s, hs, rfl⟩, ⟨p, hp, rfl⟩, -⟩, -, ⟨q, hq, rfl⟩, -⟩ := hv.resolve_left c1
    refine Ok.bd _ (rX12_weight hG.tt ⟨s, hs, rfl⟩ ⟨p, hp, rfl⟩ ⟨q, hq, rfl⟩) ?_
    rintro v5 _ ⟨rfl, -⟩
    refine Ok.ite (fun _ => Ok.ret ⟨hG, True.intro⟩) (fun _ => ?_)
    refine Ok.bd _ xX12_remembers ?_
    rintro _ _ rfl
    refine Ok.bd _ (xX12_weighs hs hp hq) ?_
    rintro _ _ rfl
    refine Ok.bd _ (nX12_keeps ((hG.rem.wt hs hp hq ⟨0, by omega, rfl⟩).wt hs hq hp ⟨0, by omega, rfl⟩)) ?_
    rintro r u ⟨hu, -⟩
    exact Ok.ret ⟨hu, True.intro⟩
