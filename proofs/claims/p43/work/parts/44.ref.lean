/-! the reference is fed (wip/ext/g44.py) -/
theorem and255 (x : Int32) : IsR 256 (x &&& 255) := by
  have e : x = nI x.toBitVec.toNat := by
    apply Int32.toBitVec_inj.mp
    apply BitVec.eq_of_toNat_eq
    show _ = x.toBitVec.toNat % 2 ^ 32
    rw [Nat.mod_eq_of_lt x.toBitVec.isLt]
  rw [e, show (255 : Int32) = nI 255 from rfl, nI_and]
  exact ⟨_, Nat.lt_of_le_of_lt Nat.and_le_right (by omega), rfl⟩
theorem nX12_feed {t : St} (hT : TY t) (hP : PI t) {k : Nat} (ek : t 149 5 = nI k) (hk : k < 401) {a b c d e : Int32} : Ok (FX12_feed a b c d e t) (fun r u => (380 < k ∧ r = -1 ∧ t = u) ∨ (k ≤ 380 ∧ r = nI (k + 20) ∧ TY u ∧ (∀ b, b < 149 → u b = t b) ∧ PI u ∧ u 149 5 = nI (k + 20))) := by
  unfold FX12_feed
  refine Ok.rd (fun v1 h1 => ?_)
  rw [ek] at h1
  subst h1
  refine Ok.ite (fun c1 => ?_) (fun c1 => Ok.ret (Or.inl ⟨?_, rfl, rfl⟩))
  rotate_left
  · rw [li_380, nI_leP (by omega) (by omega)] at c1
    omega
  rw [li_380, nI_leP (by omega) (by omega)] at c1
  generalize upd (upd (upd (upd (upd (fun _ => 0) (0 : Int32).toNatClampNeg a) (1 : Int32).toNatClampNeg b) (2 : Int32).toNatClampNeg c) (3 : Int32).toNatClampNeg d) (4 : Int32).toNatClampNeg e = ff
  refine Ok.bd (fun _ u => TY u ∧ ∀ b, b ≠ 153 → u b = t b) ?_ ?_
  · refine Ok.loop (fun n c u => (TY u ∧ ∀ b, b ≠ 153 → u b = t b) ∧ ∃ j, c = nI j ∧ j ≤ 20 ∧ n = 20 - j) ?_ 20 _ _ ⟨⟨hT, fun _ _ => rfl⟩, 0, rfl, by omega, rfl⟩
    intro n c u hI
    obtain ⟨⟨hu, ho⟩, j, rfl, hj, rfl⟩ := hI
    unfold SX12_feed_42
    refine Ok.ite (fun _ => Ok.ret ⟨hu, ho⟩) (fun c2 => ?_)
    rw [li_20, nI_leP (by omega) (by omega)] at c2
    refine Ok.rd (fun v5 h5 => ?_)
    rw [ho 149 (by decide), ek] at h5
    subst h5
    have e4 : nI j / 4 = nI (j / 4) := by rw [li_4, nI_divN (by omega) (by omega) (by omega)]
    rw [e4, nI_add]
    refine Ok.ck (inb_n (by omega) (by omega)) (fun _ => Ok.ck (inb_n (by omega) (by omega)) (fun _ => Ok.wr (fun w ew => ?_)))
    rw [nI_cl (n := k + j) (by omega)] at ew
    refine Ok.ret ⟨20 - (j + 1), by omega, ⟨?_, fun b hb => by rw [wo ew hb]; exact ho b hb⟩, j + 1, nI_1 j, by omega, rfl⟩
    rw [ew]
    exact hu.wr (Or.inr (by rw [ty_a153 (by omega)]; exact and255 _))
  rintro _ u ⟨hu, ho⟩
  refine Ok.rd (fun v15 h15 => Ok.wr (fun w ew => Ok.rd (fun v19 h19 => Ok.ret (Or.inr ?_))))
  rw [ho 149 (by decide), ek] at h15
  subst h15
  have e20 : nI k + 20 = nI (k + 20) := by rw [li_20, nI_add]
  rw [e20] at ew
  have w5 : w 149 5 = nI (k + 20) := ws ew
  refine ⟨c1, h19.trans w5, ?_, fun b hb => by rw [wo ew (by omega)]; exact ho b (by omega), ?_, w5⟩
  · rw [ew]
    exact hu.wr (Or.inr (by rw [ty_m5]; exact ⟨k + 20, by omega, rfl⟩))
  · unfold PI
    rw [wo ew (by decide), wo ew (by decide), wo ew (by decide), ho 150 (by decide), ho 151 (by decide), ho 152 (by decide)]
    exact hP
