/-! the reference: what it keeps to (printed by wip/p2/gen15.py) -/
theorem upd_eq {f : Nat → Int32} {e : Nat} {v : Int32} : upd f e v e = v := by simp [upd]
/-- what one slot keeps to -/
def SG (g : Nat → Int32) (s : Nat) : Prop := (g (91 * s) = nI (g (91 * s)).toNatClampNeg ∧ (g (91 * s)).toNatClampNeg ≤ 9) ∧ ∀ i, i < 9 → g (91 * s + 82 + i) = nI (g (91 * s + 82 + i)).toNatClampNeg ∧ (g (91 * s + 82 + i)).toNatClampNeg < 9
def SP (g : Nat → Int32) (s : Nat) : Prop := ∀ p, p < (g (91 * s)).toNatClampNeg → ∃ i, i < (g (91 * s)).toNatClampNeg ∧ g (91 * s + 82 + i) = nI p
/-- weights are at most nine -/
def SW (g : Nat → Int32) (s : Nat) : Prop := ∀ k, k < 81 → g (91 * s + 1 + k) = nI (g (91 * s + 1 + k)).toNatClampNeg ∧ (g (91 * s + 1 + k)).toNatClampNeg ≤ 9
def WB (g : Nat → Int32) : Prop := ∀ s, s < 3 → SW g s
def SO (g : Nat → Int32) : Prop := GO g ∧ PE g ∧ WB g
/-- all slots but one -/
def SX (z : Nat) (g : Nat → Int32) : Prop := ∀ s, s < 3 → s ≠ z → SG g s ∧ SP g s ∧ SW g s
def KO (m : Nat) (f : Nat → Int32) : Prop := ∀ t, t < m → SO (fun i => f (273 * t + i))
theorem SG_congr {g h : Nat → Int32} {s : Nat} (e : ∀ i, i < 91 → g (91 * s + i) = h (91 * s + i)) (H : SG g s) : SG h s := by
  have e0 : h (91 * s) = g (91 * s) := (e 0 (by omega)).symm
  unfold SG
  rw [e0]
  refine ⟨H.1, fun i hi => ?_⟩
  have e1 : h (91 * s + 82 + i) = g (91 * s + 82 + i) := by
    have := (e (82 + i) (by omega)).symm
    rw [← Nat.add_assoc] at this
    exact this
  rw [e1]
  exact H.2 i hi
theorem SP_congr {g h : Nat → Int32} {s : Nat} (e : ∀ i, i < 91 → g (91 * s + i) = h (91 * s + i)) (b : (g (91 * s)).toNatClampNeg ≤ 9) (H : SP g s) : SP h s := by
  have e0 : h (91 * s) = g (91 * s) := (e 0 (by omega)).symm
  intro p hp
  rw [e0] at hp ⊢
  obtain ⟨i, h1, h2⟩ := H p hp
  refine ⟨i, h1, ?_⟩
  have := (e (82 + i) (by omega)).symm
  rw [← Nat.add_assoc] at this
  rw [this]
  exact h2
theorem SW_congr {g h : Nat → Int32} {s : Nat} (e : ∀ i, i < 91 → g (91 * s + i) = h (91 * s + i)) (H : SW g s) : SW h s := by
  intro k hk
  have := (e (1 + k) (by omega)).symm
  rw [← Nat.add_assoc] at this
  rw [this]
  exact H k hk
theorem SO_congr {g h : Nat → Int32} (e : ∀ i, i < 273 → g i = h i) (H : SO g) : SO h := by
  refine ⟨fun s hs => ?_, fun s hs => ?_, fun s hs => ?_⟩
  · exact SG_congr (fun i hi => e _ (by omega)) (H.1 s hs)
  · exact SP_congr (fun i hi => e _ (by omega)) (H.1 s hs).1.2 (H.2.1 s hs)
  · exact SW_congr (fun i hi => e _ (by omega)) (H.2.2 s hs)
theorem SX_upd {g : Nat → Int32} {z e : Nat} {v : Int32} (H : SX z g) (h1 : 91 * z ≤ e) (h2 : e < 91 * z + 91) : SX z (upd g e v) := by
  intro s hs hz
  have E : ∀ i, i < 91 → g (91 * s + i) = upd g e v (91 * s + i) := fun i hi => (upd_ne (by omega)).symm
  exact ⟨SG_congr E (H s hs hz).1, SP_congr E (H s hs hz).1.1.2 (H s hs hz).2.1, SW_congr E (H s hs hz).2.2⟩
theorem SX_of {g : Nat → Int32} {z : Nat} (hG : GO g) (hE : PE g) (hT : WB g) : SX z g := fun s hs _ => ⟨hG s hs, hE s hs, hT s hs⟩
theorem GO_of {g : Nat → Int32} {z : Nat} (H : SX z g) (h : SG g z) : GO g := by
  intro s hs
  by_cases e : s = z
  · subst e; exact h
  · exact (H s hs e).1
theorem PE_of {g : Nat → Int32} {z : Nat} (H : SX z g) (h : SP g z) : PE g := by
  intro s hs
  by_cases e : s = z
  · subst e; exact h
  · exact (H s hs e).2.1
theorem WB_of {g : Nat → Int32} {z : Nat} (H : SX z g) (h : SW g z) : WB g := by
  intro s hs
  by_cases e : s = z
  · subst e; exact h
  · exact (H s hs e).2.2
theorem cp_step {f g : Nat → Int32} {j : Nat} (H : ∀ i, i < j → f i = g i) : ∀ i, i < j + 1 → upd f j (g j) i = g i := by
  intro i hi
  by_cases e : i = j
  · subst e; exact upd_eq
  · rw [upd_ne e]; exact H i (by omega)
theorem SO_cp {f g : Nat → Int32} (H : ∀ i, i < 273 → f i = g i) (hG : GO g) (hE : PE g) (hT : WB g) : SO f := SO_congr (fun i hi => (H i hi).symm) ⟨hG, hE, hT⟩
theorem KO_sh0 {m : Nat} {f : Nat → Int32} (h : KO m f) (hm : m = 10) : KO 9 (fun i => if i < 0 then f i else f (i + 273)) := by
  intro t ht
  refine SO_congr (fun i hi => ?_) (h (t + 1) (by omega))
  show f (273 * (t + 1) + i) = if 273 * t + i < 0 then f (273 * t + i) else f (273 * t + i + 273)
  rw [if_neg (by omega)]
  congr 1
  omega
theorem KO_sh1 {f : Nat → Int32} {j : Nat} (h : KO 9 (fun i => if i < j then f i else f (i + 273))) : KO 9 (fun i => if i < j + 1 then upd f j (f (j + 273)) i else upd f j (f (j + 273)) (i + 273)) := by
  have e : (fun i => if i < j + 1 then upd f j (f (j + 273)) i else upd f j (f (j + 273)) (i + 273)) = (fun i => if i < j then f i else f (i + 273)) := by
    funext i
    by_cases h1 : i < j
    · rw [if_pos h1, if_pos (by omega), upd_ne (by omega)]
    · rw [if_neg h1]
      by_cases h2 : i = j
      · subst h2; rw [if_pos (by omega), upd_eq]
      · rw [if_neg (by omega), upd_ne (by omega)]
  rw [e]
  exact h
theorem KO_sh2 {f : Nat → Int32} {m : Nat} (h : KO 9 (fun i => if i < 2457 then f i else f (i + 273))) (hm : m ≤ 9) : KO m f := by
  intro t ht
  refine SO_congr (fun i hi => ?_) (h t (by omega))
  show (if 273 * t + i < 2457 then f (273 * t + i) else f (273 * t + i + 273)) = f (273 * t + i)
  rw [if_pos (by omega)]
theorem KO_sh3 {f : Nat → Int32} {j : Nat} (h : KO 9 (fun i => if i < j then f i else f (i + 273))) (hj : 2457 ≤ j) : KO 9 (fun i => if i < 2457 then f i else f (i + 273)) := by
  intro t ht
  refine SO_congr (fun i hi => ?_) (h t ht)
  show (if 273 * t + i < j then f (273 * t + i) else f (273 * t + i + 273)) = if 273 * t + i < 2457 then f (273 * t + i) else f (273 * t + i + 273)
  rw [if_pos (by omega), if_pos (by omega)]
theorem KO_w {f w : Nat → Int32} {m j : Nat} (h : KO m f ∧ ∀ i, i < j → f (273 * m + i) = w i) : KO m (upd f (273 * m + j) (w j)) ∧ ∀ i, i < j + 1 → upd f (273 * m + j) (w j) (273 * m + i) = w i := by
  refine ⟨fun t ht => SO_congr (fun i hi => ?_) (h.1 t ht), fun i hi => ?_⟩
  · show f (273 * t + i) = upd f (273 * m + j) (w j) (273 * t + i)
    rw [upd_ne (by omega)]
  · by_cases e : i = j
    · subst e; exact upd_eq
    · rw [upd_ne (by omega)]; exact h.2 i (by omega)
theorem KO_add {f w : Nat → Int32} {m : Nat} (h : KO m f ∧ ∀ i, i < 273 → f (273 * m + i) = w i) (hw : SO w) : KO (m + 1) f := by
  intro t ht
  by_cases e : t = m
  · subst e
    exact SO_congr (fun i hi => (h.2 i hi).symm) hw
  · exact h.1 t (by omega)
theorem KO_le {f : Nat → Int32} {m n : Nat} (h : KO n f) (hm : m ≤ n) : KO m f := fun t ht => h t (by omega)
theorem SO_kept {f g : Nat → Int32} {m n : Nat} (h : KO n f) (hm : m < n) (H : ∀ i, i < 273 → g i = f (273 * m + i)) : SO g := SO_congr (fun i hi => (H i hi).symm) (h m hm)
/-- a slot is emptied -/
theorem EM_step {g : Nat → Int32} {z j : Nat} (hj : j < 91) (H : SX z g ∧ ∀ i, i < j → g (91 * z + i) = 0) : SX z (upd g (91 * z + j) 0) ∧ ∀ i, i < j + 1 → upd g (91 * z + j) 0 (91 * z + i) = 0 := by
  refine ⟨SX_upd H.1 (by omega) (by omega), fun i hi => ?_⟩
  by_cases e : i = j
  · subst e; exact upd_eq
  · rw [upd_ne (by omega)]; exact H.2 i (by omega)
theorem EM_SO {g : Nat → Int32} {z : Nat} (H : SX z g ∧ ∀ i, i < 91 → g (91 * z + i) = 0) : SO g := by
  have e0 : g (91 * z) = 0 := H.2 0 (by omega)
  have c0 : (0 : Int32).toNatClampNeg = 0 := by decide
  refine ⟨GO_of H.1 ?_, PE_of H.1 ?_, WB_of H.1 ?_⟩
  · unfold SG
    rw [e0, c0]
    refine ⟨⟨rfl, by omega⟩, fun i hi => ?_⟩
    have := H.2 (82 + i) (by omega)
    rw [← Nat.add_assoc] at this
    rw [this, c0]
    exact ⟨rfl, by omega⟩
  · intro p hp
    rw [e0, c0] at hp
    omega
  · intro k hk
    have := H.2 (1 + k) (by omega)
    rw [← Nat.add_assoc] at this
    rw [this, c0]
    exact ⟨rfl, by omega⟩
theorem pk_dec {a : Nat} (h : 1 ≤ a) : nI a + -1 = nI (a - 1) := by
  have e := pk_sub (a := a) (b := 1) h
  rw [← e, Int32.sub_eq_add_neg]
  rfl
/-- a row that has every point -/
def PM (n : Nat) (f : Nat → Int32) : Prop := ∀ p, p < n → ∃ i, i < n ∧ f i = nI p
theorem row_step {f g : Nat → Int32} {z j : Nat} (hz : z < 3) (hj : j < 9) (hG : GO g) (H : ∀ i, i < j → f i = g (91 * z + 82 + i)) : ∀ i, i < j + 1 → upd f j (nI (g (91 * z + 82 + j)).toNatClampNeg) i = g (91 * z + 82 + i) := by
  rw [← ((hG z hz).2 j hj).1]
  exact cp_step (g := fun i => g (91 * z + 82 + i)) H
theorem PM_row {f g : Nat → Int32} {z : Nat} (hz : z < 3) (hE : PE g) (H : ∀ i, i < (g (91 * z)).toNatClampNeg → f i = g (91 * z + 82 + i)) : PM (g (91 * z)).toNatClampNeg f := by
  intro p hp
  obtain ⟨i, h1, h2⟩ := hE z hz p hp
  exact ⟨i, h1, by rw [H i h1]; exact h2⟩
def LX12k_laysRow_2 (f_state : Nat → Int32) (n1 : Nat) (K : (Nat → Int32) → Int32 × (Nat → Int32)) : Nat → Nat → (Nat → Int32) → Int32 × (Nat → Int32)
  | 0, _, f_order => K f_order
  | k + 1, j, f_order => (LX12k_laysRow_2 f_state n1 K k (j + 1) (upd f_order j ((nI ((f_state (91 * n1 + 82 + j)).toNatClampNeg)))))
set_option maxHeartbeats 4000000 in
set_option maxRecDepth 100000 in
theorem LX12k_laysRow_2_s (G : xG) {P R : xMem} {L : Nat} (hP : P.length = L) (z : Nat) (i_keptMany : Nat) (i_taped : Nat) (i_faultKind : Int32) (i_faultPlace : Int32) (i_spot : Nat) (i_begin : Nat) (i_token : Int32) (i_value : Int32) (i_bad : Int32) (i_full : Nat) (i_bandRows : Int32) (i_bandFirsts : Int32) (i_outs : Nat) (f_state : Nat → Int32) (f_was : Nat → Int32) (f_kept : Nat → Int32) (f_tape : Nat → Int32) (f_rest : Nat → Int32) (f_ways : Nat → Int32) (f_costs : Nat → Int32) (f_bandBest : Nat → Int32) (f_found : Nat → Int32) (f_drawn : Nat → Int32) (f_joined : Nat → Int32) (f_out : Nat → Int32) (bi_keptMany : i_keptMany ≤ 10) (bi_taped : i_taped ≤ 400) (bi_spot : i_spot ≤ 400) (bi_begin : i_begin ≤ 400) (bi_full : i_full ≤ 511) (bi_outs : i_outs ≤ 400) (hG : GO f_state) (hE : PE f_state) (n1 : Nat) (bn1 : n1 < 3) (Q : Int32 × (Nat → Int32) → Prop) (K : (Nat → Int32) → Int32 × (Nat → Int32)) (HE : ∀ (f_order : Nat → Int32) (hR : RO f_order) (hi : ∀ i, i < ((f_state (91 * n1)).toNatClampNeg) → f_order i = f_state (91 * n1 + 82 + i)), Q (K f_order) → xW G mX12_laysRow (xrm 1 0 0) (xQ G (fun v M2 => ∃ o : Int32 × (Nat → Int32), v = none ∧ Q o ∧ RO o.2 ∧ PM (f_state (91 * z)).toNatClampNeg o.2 ∧ M2 = (P ++ (MDL L i_keptMany i_taped i_faultKind i_faultPlace i_spot i_begin i_token i_value i_bad i_full i_bandRows i_bandFirsts i_outs f_state f_was f_kept f_tape o.2 f_rest f_ways f_costs f_bandBest f_found f_drawn f_joined f_out ++ R))) 0 0) 29 [] [] (P ++ (MDL L i_keptMany i_taped i_faultKind i_faultPlace i_spot i_begin i_token i_value i_bad i_full i_bandRows i_bandFirsts i_outs f_state f_was f_kept f_tape f_order f_rest f_ways f_costs f_bandBest f_found f_drawn f_joined f_out ++ R)) 0 0) :
    ∀ (k j : Nat) (f_order : Nat → Int32) (hR : RO f_order) (hi : ∀ i, i < j → f_order i = f_state (91 * n1 + 82 + i)), (f_state (91 * n1)).toNatClampNeg - j = k → j < 100000 → Q (LX12k_laysRow_2 f_state n1 K k j f_order) → xW G mX12_laysRow (xrm 1 0 0) (xQ G (fun v M2 => ∃ o : Int32 × (Nat → Int32), v = none ∧ Q o ∧ RO o.2 ∧ PM (f_state (91 * z)).toNatClampNeg o.2 ∧ M2 = (P ++ (MDL L i_keptMany i_taped i_faultKind i_faultPlace i_spot i_begin i_token i_value i_bad i_full i_bandRows i_bandFirsts i_outs f_state f_was f_kept f_tape o.2 f_rest f_ways f_costs f_bandBest f_found f_drawn f_joined f_out ++ R))) 0 0) 2 [(0, .ref L), (1, .int (nI n1)), (2, .int (nI j))] [] (P ++ (MDL L i_keptMany i_taped i_faultKind i_faultPlace i_spot i_begin i_token i_value i_bad i_full i_bandRows i_bandFirsts i_outs f_state f_was f_kept f_tape f_order f_rest f_ways f_costs f_bandBest f_found f_drawn f_joined f_out ++ R)) 0 0 := by
  intro k
  induction k with
  | zero =>
    intro j f_order hR hi hj hj2 hq
    rw [LX12k_laysRow_2] at hq
    refine xi_iload_n 2 dX12_laysRow_2 rfl ?_
    refine xi_aload_n 0 dX12_laysRow_3 rfl ?_
    refine xi_iload_n 1 dX12_laysRow_4 rfl ?_
    refine xi_callV (as := [.int (nI n1)]) (rest := [.int (nI j)]) dX12_laysRow_5 (FX12_points_ok G hP i_keptMany i_taped i_faultKind i_faultPlace i_spot i_begin i_token i_value i_bad i_full i_bandRows i_bandFirsts i_outs f_state f_was f_kept f_tape f_order f_rest f_ways f_costs f_bandBest f_found f_drawn f_joined f_out (by omega) (by omega) (by omega) (by omega) (by omega) (by omega) n1 (by omega) _ rfl (fun r => r = nI ((f_state (91 * n1)).toNatClampNeg)) ((hG n1 (by omega)).1.1)) mkX12_points w_1108 ws_36 w_1106 (xpg0 hP rfl) rfl rfl rfl rfl (Nat.le_of_ble_eq_true rfl) (Nat.le_of_ble_eq_true rfl) (Nat.le_of_ble_eq_true rfl) (Nat.le_of_ble_eq_true rfl) (Nat.le_of_ble_eq_true rfl) ?_
    intro v M2 hz
    obtain ⟨_, rfl, rfl, rfl⟩ := hz
    show xW _ _ _ _ 8 _ [.int (nI ((f_state (91 * n1)).toNatClampNeg)), .int (nI j)] (P ++ (MDL L i_keptMany i_taped i_faultKind i_faultPlace i_spot i_begin i_token i_value i_bad i_full i_bandRows i_bandFirsts i_outs f_state f_was f_kept f_tape f_order f_rest f_ways f_costs f_bandBest f_found f_drawn f_joined f_out ++ R)) _ _
    have o3 := (hG n1 (by omega)).1.2
    refine xi_icmp_ge_t (tgt := 29) dX12_laysRow_8 (by decide) (nI_le (a := (f_state (91 * n1)).toNatClampNeg) (b := j) (by omega) (by omega)) ?_
    refine xi_sub (lv' := []) [] rfl ?_
    exact HE f_order hR (by first | exact row_step (by omega) (by omega) hG hi | exact fun i h_ => hi i (by omega)) hq
  | succ k ih =>
    intro j f_order hR hi hj hj2 hq
    rw [LX12k_laysRow_2] at hq
    refine xi_iload_n 2 dX12_laysRow_2 rfl ?_
    refine xi_aload_n 0 dX12_laysRow_3 rfl ?_
    refine xi_iload_n 1 dX12_laysRow_4 rfl ?_
    refine xi_callV (as := [.int (nI n1)]) (rest := [.int (nI j)]) dX12_laysRow_5 (FX12_points_ok G hP i_keptMany i_taped i_faultKind i_faultPlace i_spot i_begin i_token i_value i_bad i_full i_bandRows i_bandFirsts i_outs f_state f_was f_kept f_tape f_order f_rest f_ways f_costs f_bandBest f_found f_drawn f_joined f_out (by omega) (by omega) (by omega) (by omega) (by omega) (by omega) n1 (by omega) _ rfl (fun r => r = nI ((f_state (91 * n1)).toNatClampNeg)) ((hG n1 (by omega)).1.1)) mkX12_points w_1108 ws_36 w_1106 (xpg0 hP rfl) rfl rfl rfl rfl (Nat.le_of_ble_eq_true rfl) (Nat.le_of_ble_eq_true rfl) (Nat.le_of_ble_eq_true rfl) (Nat.le_of_ble_eq_true rfl) (Nat.le_of_ble_eq_true rfl) ?_
    intro v M2 hz
    obtain ⟨_, rfl, rfl, rfl⟩ := hz
    show xW _ _ _ _ 8 _ [.int (nI ((f_state (91 * n1)).toNatClampNeg)), .int (nI j)] (P ++ (MDL L i_keptMany i_taped i_faultKind i_faultPlace i_spot i_begin i_token i_value i_bad i_full i_bandRows i_bandFirsts i_outs f_state f_was f_kept f_tape f_order f_rest f_ways f_costs f_bandBest f_found f_drawn f_joined f_out ++ R)) _ _
    have o1 := (hG n1 (by omega)).1.2
    refine xi_icmp_ge_f (tgt := 29) dX12_laysRow_8 (by decide) (nI_ge (a := j) (b := (f_state (91 * n1)).toNatClampNeg) (by omega) (by omega)) ?_
    refine xi_aload_n 0 dX12_laysRow_11 rfl ?_
    refine xi_get (f := 13) dX12_laysRow_12 (xpg0 hP rfl) rfl ok_9 (by decide) w_1021 rfl ?_
    refine xi_iload_n 2 dX12_laysRow_15 rfl ?_
    refine xi_aload_n 0 dX12_laysRow_16 rfl ?_
    refine xi_iload_n 1 dX12_laysRow_17 rfl ?_
    refine xi_iload_n 2 dX12_laysRow_18 rfl ?_
    refine xi_callV (as := [.int (nI n1), .int (nI j)]) (rest := [.int (nI j), .ref (L + 5)]) dX12_laysRow_19 (FX12_at_ok G hP i_keptMany i_taped i_faultKind i_faultPlace i_spot i_begin i_token i_value i_bad i_full i_bandRows i_bandFirsts i_outs f_state f_was f_kept f_tape f_order f_rest f_ways f_costs f_bandBest f_found f_drawn f_joined f_out (by omega) (by omega) (by omega) (by omega) (by omega) (by omega) n1 (by omega) j (by omega) _ rfl (fun r => r = nI ((f_state (91 * n1 + 82 + j)).toNatClampNeg)) (((hG n1 (by omega)).2 j (by omega)).1)) mkX12_at w_1273 ws_64 w_1271 (xpg0 hP rfl) rfl rfl rfl rfl (Nat.le_of_ble_eq_true rfl) (Nat.le_of_ble_eq_true rfl) (Nat.le_of_ble_eq_true rfl) (Nat.le_of_ble_eq_true rfl) (Nat.le_of_ble_eq_true rfl) ?_
    intro v M2 hz
    obtain ⟨_, rfl, rfl, rfl⟩ := hz
    show xW _ _ _ _ 22 _ [.int (nI ((f_state (91 * n1 + 82 + j)).toNatClampNeg)), .int (nI j), .ref (L + 5)] (P ++ (MDL L i_keptMany i_taped i_faultKind i_faultPlace i_spot i_begin i_token i_value i_bad i_full i_bandRows i_bandFirsts i_outs f_state f_was f_kept f_tape f_order f_rest f_ways f_costs f_bandBest f_found f_drawn f_joined f_out ++ R)) _ _
    have o2 := ((hG n1 (by omega)).2 j (by omega)).2
    refine xi_iastore (M' := (P ++ (MDL L i_keptMany i_taped i_faultKind i_faultPlace i_spot i_begin i_token i_value i_bad i_full i_bandRows i_bandFirsts i_outs f_state f_was f_kept f_tape (upd f_order j ((nI ((f_state (91 * n1 + 82 + j)).toNatClampNeg)))) f_rest f_ways f_costs f_bandBest f_found f_drawn f_joined f_out ++ R))) dX12_laysRow_22 (xpg hP rfl) (vp_in_nI (by omega) (by decide)) (by rw [nI_clamp (by omega)]; exact (xps hP)) ?_
    refine xi_iinc (v := (nI (j + 1))) (lv' := [(2, .int (nI (j + 1))), (0, .ref L), (1, .int (nI n1))]) 2 dX12_laysRow_23 rfl (nI_1 _) (by decide) rfl ?_
    refine xi_goto (tgt := 2) dX12_laysRow_26 (by decide) ?_
    refine xi_sub (lv' := [(0, .ref L), (1, .int (nI n1)), (2, .int (nI (j + 1)))]) [1, 2, 0] rfl ?_
    exact ih (j + 1) (upd f_order j ((nI ((f_state (91 * n1 + 82 + j)).toNatClampNeg)))) (hR_upd hR j ((f_state (91 * n1 + 82 + j)).toNatClampNeg) (by omega) (by omega)) (by first | exact row_step (by omega) (by omega) hG hi | exact fun i h_ => hi i (by omega)) (by omega) (by omega) hq
def FX12k_laysRow (f_state : Nat → Int32) (f_order : Nat → Int32) (z : Nat) : Int32 × (Nat → Int32) := (LX12k_laysRow_2 f_state z (fun u4 => (0, u4)) ((f_state (91 * z)).toNatClampNeg - 0) 0 f_order)
set_option maxHeartbeats 4000000 in
set_option maxRecDepth 100000 in
theorem FX12k_laysRow_ok (G : xG) {P R : xMem} {L : Nat} (hP : P.length = L) (i_keptMany : Nat) (i_taped : Nat) (i_faultKind : Int32) (i_faultPlace : Int32) (i_spot : Nat) (i_begin : Nat) (i_token : Int32) (i_value : Int32) (i_bad : Int32) (i_full : Nat) (i_bandRows : Int32) (i_bandFirsts : Int32) (i_outs : Nat) (f_state : Nat → Int32) (f_was : Nat → Int32) (f_kept : Nat → Int32) (f_tape : Nat → Int32) (f_order : Nat → Int32) (f_rest : Nat → Int32) (f_ways : Nat → Int32) (f_costs : Nat → Int32) (f_bandBest : Nat → Int32) (f_found : Nat → Int32) (f_drawn : Nat → Int32) (f_joined : Nat → Int32) (f_out : Nat → Int32) (bi_keptMany : i_keptMany ≤ 10) (bi_taped : i_taped ≤ 400) (bi_spot : i_spot ≤ 400) (bi_begin : i_begin ≤ 400) (bi_full : i_full ≤ 511) (bi_outs : i_outs ≤ 400) (hG : GO f_state) (hE : PE f_state) (hR : RO f_order) (z : Nat) (bz : z < 3) (M : xMem) (hM : M = (P ++ (MDL L i_keptMany i_taped i_faultKind i_faultPlace i_spot i_begin i_token i_value i_bad i_full i_bandRows i_bandFirsts i_outs f_state f_was f_kept f_tape f_order f_rest f_ways f_costs f_bandBest f_found f_drawn f_joined f_out ++ R))) (Q : Int32 × (Nat → Int32) → Prop) (hq : Q (FX12k_laysRow f_state f_order z)) : xC G mX12_laysRow 1 0 0 [.ref L, .int (nI z)] M (fun v M2 => ∃ o : Int32 × (Nat → Int32), v = none ∧ Q o ∧ RO o.2 ∧ PM (f_state (91 * z)).toNatClampNeg o.2 ∧ M2 = (P ++ (MDL L i_keptMany i_taped i_faultKind i_faultPlace i_spot i_begin i_token i_value i_bad i_full i_bandRows i_bandFirsts i_outs f_state f_was f_kept f_tape o.2 f_rest f_ways f_costs f_bandBest f_found f_drawn f_joined f_out ++ R))) := by
  subst hM
  unfold FX12k_laysRow at hq
  refine xC.of (by decide) (Nat.le_of_ble_eq_true rfl) ?_
  show xW _ _ _ _ 0 [(0, .ref L), (1, .int (nI z))] [] _ 0 0
  refine xi_iconst (v := 0) dX12_laysRow_0 (by decide) ?_
  refine xi_istore_n (lv' := [(2, .int 0), (0, .ref L), (1, .int (nI z))]) dX12_laysRow_1 (by decide) rfl ?_
  refine xi_sub (lv' := [(0, .ref L), (1, .int (nI z)), (2, .int 0)]) [1, 2, 0] rfl ?_
  refine LX12k_laysRow_2_s G hP z i_keptMany i_taped i_faultKind i_faultPlace i_spot i_begin i_token i_value i_bad i_full i_bandRows i_bandFirsts i_outs f_state f_was f_kept f_tape f_rest f_ways f_costs f_bandBest f_found f_drawn f_joined f_out (by omega) (by omega) (by omega) (by omega) (by omega) (by omega) hG hE z (by omega) Q _ (fun u4 hb5 hi2 hq => ?_) ((f_state (91 * z)).toNatClampNeg - 0) 0 f_order hR (by exact fun i hi => absurd hi (Nat.not_lt_zero _)) rfl (by omega) hq
  exact xi_vret dX12_laysRow_29 rfl (Nat.le_of_ble_eq_true rfl) (Nat.le_of_ble_eq_true rfl) ⟨_, rfl, hq, hb5, (PM_row bz hE hi2), rfl⟩
def FX12k_exchanges (f_order : Nat → Int32) (p : Nat) (q : Nat) : Int32 × (Nat → Int32) := (0, upd (upd f_order p ((nI ((f_order q).toNatClampNeg)))) q ((nI ((f_order p).toNatClampNeg))))
set_option maxHeartbeats 4000000 in
set_option maxRecDepth 100000 in
theorem FX12k_exchanges_ok (G : xG) {P R : xMem} {L : Nat} (hP : P.length = L) (i_keptMany : Nat) (i_taped : Nat) (i_faultKind : Int32) (i_faultPlace : Int32) (i_spot : Nat) (i_begin : Nat) (i_token : Int32) (i_value : Int32) (i_bad : Int32) (i_full : Nat) (i_bandRows : Int32) (i_bandFirsts : Int32) (i_outs : Nat) (f_state : Nat → Int32) (f_was : Nat → Int32) (f_kept : Nat → Int32) (f_tape : Nat → Int32) (f_order : Nat → Int32) (f_rest : Nat → Int32) (f_ways : Nat → Int32) (f_costs : Nat → Int32) (f_bandBest : Nat → Int32) (f_found : Nat → Int32) (f_drawn : Nat → Int32) (f_joined : Nat → Int32) (f_out : Nat → Int32) (bi_keptMany : i_keptMany ≤ 10) (bi_taped : i_taped ≤ 400) (bi_spot : i_spot ≤ 400) (bi_begin : i_begin ≤ 400) (bi_full : i_full ≤ 511) (bi_outs : i_outs ≤ 400) (hR : RO f_order) (p : Nat) (bp : p < 9) (q : Nat) (bq : q < 9) (M : xMem) (hM : M = (P ++ (MDL L i_keptMany i_taped i_faultKind i_faultPlace i_spot i_begin i_token i_value i_bad i_full i_bandRows i_bandFirsts i_outs f_state f_was f_kept f_tape f_order f_rest f_ways f_costs f_bandBest f_found f_drawn f_joined f_out ++ R))) (Q : Int32 × (Nat → Int32) → Prop) (hq : Q (FX12k_exchanges f_order p q)) : xC G mX12_exchanges 0 0 0 [.ref L, .int (nI p), .int (nI q)] M (fun v M2 => ∃ o : Int32 × (Nat → Int32), v = none ∧ Q o ∧ RO o.2 ∧ M2 = (P ++ (MDL L i_keptMany i_taped i_faultKind i_faultPlace i_spot i_begin i_token i_value i_bad i_full i_bandRows i_bandFirsts i_outs f_state f_was f_kept f_tape o.2 f_rest f_ways f_costs f_bandBest f_found f_drawn f_joined f_out ++ R))) := by
  subst hM
  unfold FX12k_exchanges at hq
  refine xC.of (by decide) (Nat.le_of_ble_eq_true rfl) ?_
  show xW _ _ _ _ 0 [(0, .ref L), (1, .int (nI p)), (2, .int (nI q))] [] _ 0 0
  refine xi_aload_n 0 dX12_exchanges_0 rfl ?_
  refine xi_get (f := 13) dX12_exchanges_1 (xpg0 hP rfl) rfl ok_9 (by decide) w_1021 rfl ?_
  refine xi_iload_n 1 dX12_exchanges_4 rfl ?_
  have o1 := (hR p (by omega)).2
  refine xi_iaload (v := (nI ((f_order p).toNatClampNeg))) dX12_exchanges_5 (xpg hP rfl) (vp_in_nI (by omega) (by decide)) (by rw [nI_clamp (by omega)]; exact (hR p (by omega)).1) ?_
  refine xi_istore_n (lv' := [(3, .int (nI ((f_order p).toNatClampNeg))), (0, .ref L), (1, .int (nI p)), (2, .int (nI q))]) dX12_exchanges_6 (by decide) rfl ?_
  refine xi_aload_n 1 dX12_exchanges_7 rfl ?_
  refine xi_get (f := 13) dX12_exchanges_8 (xpg0 hP rfl) rfl ok_9 (by decide) w_1021 rfl ?_
  refine xi_iload_n 2 dX12_exchanges_11 rfl ?_
  refine xi_aload_n 1 dX12_exchanges_12 rfl ?_
  refine xi_get (f := 13) dX12_exchanges_13 (xpg0 hP rfl) rfl ok_9 (by decide) w_1021 rfl ?_
  refine xi_iload_n 3 dX12_exchanges_16 rfl ?_
  have o2 := (hR q (by omega)).2
  refine xi_iaload (v := (nI ((f_order q).toNatClampNeg))) dX12_exchanges_17 (xpg hP rfl) (vp_in_nI (by omega) (by decide)) (by rw [nI_clamp (by omega)]; exact (hR q (by omega)).1) ?_
  refine xi_iastore (M' := (P ++ (MDL L i_keptMany i_taped i_faultKind i_faultPlace i_spot i_begin i_token i_value i_bad i_full i_bandRows i_bandFirsts i_outs f_state f_was f_kept f_tape (upd f_order p ((nI ((f_order q).toNatClampNeg)))) f_rest f_ways f_costs f_bandBest f_found f_drawn f_joined f_out ++ R))) dX12_exchanges_18 (xpg hP rfl) (vp_in_nI (by omega) (by decide)) (by rw [nI_clamp (by omega)]; exact (xps hP)) ?_
  refine xi_aload_n 1 dX12_exchanges_19 rfl ?_
  refine xi_get (f := 13) dX12_exchanges_20 (xpg0 hP rfl) rfl ok_9 (by decide) w_1021 rfl ?_
  refine xi_iload_n 3 dX12_exchanges_23 rfl ?_
  refine xi_iload_n 0 dX12_exchanges_24 rfl ?_
  refine xi_iastore (M' := (P ++ (MDL L i_keptMany i_taped i_faultKind i_faultPlace i_spot i_begin i_token i_value i_bad i_full i_bandRows i_bandFirsts i_outs f_state f_was f_kept f_tape (upd (upd f_order p ((nI ((f_order q).toNatClampNeg)))) q ((nI ((f_order p).toNatClampNeg)))) f_rest f_ways f_costs f_bandBest f_found f_drawn f_joined f_out ++ R))) dX12_exchanges_25 (xpg hP rfl) (vp_in_nI (by omega) (by decide)) (by rw [nI_clamp (by omega)]; exact (xps hP)) ?_
  exact xi_vret dX12_exchanges_26 rfl (Nat.le_of_ble_eq_true rfl) (Nat.le_of_ble_eq_true rfl) ⟨_, rfl, hq, (hR_upd (hR_upd hR p ((f_order q).toNatClampNeg) (by omega) (by omega)) q ((f_order p).toNatClampNeg) (by omega) (by omega)), rfl⟩
def FX12_value (f_state : Nat → Int32) (f_order : Nat → Int32) (x : Int32) (m : Int32) : Int32 × (Nat → Int32) := (if (FX12_isNet f_state x) = (0 : Int32) then ((-2 : Int32), f_order) else (if (FX12_isMeasure m) = (0 : Int32) then ((-2 : Int32), f_order) else ((FX12_valueOf f_state ((FX12k_laysRow f_state f_order x.toNatClampNeg).2) x.toNatClampNeg m), (FX12k_laysRow f_state f_order x.toNatClampNeg).2)))
set_option maxHeartbeats 4000000 in
set_option maxRecDepth 100000 in
theorem FX12_value_ok (G : xG) {P R : xMem} {L : Nat} (hP : P.length = L) (i_keptMany : Nat) (i_taped : Nat) (i_faultKind : Int32) (i_faultPlace : Int32) (i_spot : Nat) (i_begin : Nat) (i_token : Int32) (i_value : Int32) (i_bad : Int32) (i_full : Nat) (i_bandRows : Int32) (i_bandFirsts : Int32) (i_outs : Nat) (f_state : Nat → Int32) (f_was : Nat → Int32) (f_kept : Nat → Int32) (f_tape : Nat → Int32) (f_order : Nat → Int32) (f_rest : Nat → Int32) (f_ways : Nat → Int32) (f_costs : Nat → Int32) (f_bandBest : Nat → Int32) (f_found : Nat → Int32) (f_drawn : Nat → Int32) (f_joined : Nat → Int32) (f_out : Nat → Int32) (bi_keptMany : i_keptMany ≤ 10) (bi_taped : i_taped ≤ 400) (bi_spot : i_spot ≤ 400) (bi_begin : i_begin ≤ 400) (bi_full : i_full ≤ 511) (bi_outs : i_outs ≤ 400) (hG : GO f_state) (hE : PE f_state) (hR : RO f_order) (x : Int32) (m : Int32) (M : xMem) (hM : M = (P ++ (MDL L i_keptMany i_taped i_faultKind i_faultPlace i_spot i_begin i_token i_value i_bad i_full i_bandRows i_bandFirsts i_outs f_state f_was f_kept f_tape f_order f_rest f_ways f_costs f_bandBest f_found f_drawn f_joined f_out ++ R))) (Q : Int32 × (Nat → Int32) → Prop) (hq : Q (FX12_value f_state f_order x m)) : xC G mX12_value 6 0 0 [.ref L, .int x, .int m] M (fun v M2 => ∃ o : Int32 × (Nat → Int32), v = some (.int o.1) ∧ Q o ∧ RO o.2 ∧ M2 = (P ++ (MDL L i_keptMany i_taped i_faultKind i_faultPlace i_spot i_begin i_token i_value i_bad i_full i_bandRows i_bandFirsts i_outs f_state f_was f_kept f_tape o.2 f_rest f_ways f_costs f_bandBest f_found f_drawn f_joined f_out ++ R))) := by
  subst hM
  unfold FX12_value at hq
  refine xC.of (by decide) (Nat.le_of_ble_eq_true rfl) ?_
  show xW _ _ _ _ 0 [(0, .ref L), (1, .int x), (2, .int m)] [] _ 0 0
  refine xi_aload_n 0 dX12_value_0 rfl ?_
  refine xi_iload_n 1 dX12_value_1 rfl ?_
  refine xi_callV (as := [.int x]) (rest := []) dX12_value_2 (FX12_isNet_ok G hP i_keptMany i_taped i_faultKind i_faultPlace i_spot i_begin i_token i_value i_bad i_full i_bandRows i_bandFirsts i_outs f_state f_was f_kept f_tape f_order f_rest f_ways f_costs f_bandBest f_found f_drawn f_joined f_out (by omega) (by omega) (by omega) (by omega) (by omega) (by omega) hG x _ rfl (fun r => r = FX12_isNet f_state x) rfl) mkX12_isNet w_1104 ws_35 w_1102 (xpg0 hP rfl) rfl rfl rfl rfl (Nat.le_of_ble_eq_true rfl) (Nat.le_of_ble_eq_true rfl) (Nat.le_of_ble_eq_true rfl) (Nat.le_of_ble_eq_true rfl) (Nat.le_of_ble_eq_true rfl) ?_
  intro v M2 hz
  obtain ⟨_, rfl, rfl, rfl⟩ := hz
  show xW _ _ _ _ 5 _ [.int (FX12_isNet f_state x)] (P ++ (MDL L i_keptMany i_taped i_faultKind i_faultPlace i_spot i_begin i_token i_value i_bad i_full i_bandRows i_bandFirsts i_outs f_state f_was f_kept f_tape f_order f_rest f_ways f_costs f_bandBest f_found f_drawn f_joined f_out ++ R)) _ _
  refine xi_if_eq (tgt := 15) dX12_value_5 (by decide) (fun c1 => ?_) (fun c1 => ?_)
  · rw [if_pos c1] at hq
    refine xi_bipush (v := (-2)) dX12_value_15 (by decide) ?_
    exact xi_iret dX12_value_17 rfl rfl (Nat.le_of_ble_eq_true rfl) (Nat.le_of_ble_eq_true rfl) ⟨_, rfl, hq, hR, rfl⟩
  · rw [if_neg c1] at hq
    obtain ⟨e2, e2b, e2h⟩ := net_in c1
    have e2c : x.toNatClampNeg = e2 := by rw [e2h]; exact nI_clamp (by omega)
    try rw [e2c] at hq
    subst e2h
    have e2g := (hG e2 e2b).1.2
    refine xi_iload_n 2 dX12_value_8 rfl ?_
    refine xi_callS (as := [.int m]) (rest := []) dX12_value_9 (FX12_isMeasure_ok G m (fun r => r = FX12_isMeasure m) rfl) mkX12_isMeasure w_1288 w_1287 rfl rfl (Nat.le_of_ble_eq_true rfl) (Nat.le_of_ble_eq_true rfl) (Nat.le_of_ble_eq_true rfl) (Nat.le_of_ble_eq_true rfl) (Nat.le_of_ble_eq_true rfl) ?_
    intro v M2 hz
    obtain ⟨_, rfl, rfl, hM2⟩ := hz
    rw [hM2]
    show xW _ _ _ _ 12 _ [.int (FX12_isMeasure m)] (P ++ (MDL L i_keptMany i_taped i_faultKind i_faultPlace i_spot i_begin i_token i_value i_bad i_full i_bandRows i_bandFirsts i_outs f_state f_was f_kept f_tape f_order f_rest f_ways f_costs f_bandBest f_found f_drawn f_joined f_out ++ R)) _ _
    refine xi_if_ne (tgt := 18) dX12_value_12 (by decide) (fun c3 => ?_) (fun c3 => ?_)
    · rw [if_neg c3] at hq
      refine xi_aload_n 0 dX12_value_18 rfl ?_
      refine xi_iload_n 1 dX12_value_19 rfl ?_
      refine xi_callV (as := [.int (nI e2)]) (rest := []) dX12_value_20 (FX12k_laysRow_ok G hP i_keptMany i_taped i_faultKind i_faultPlace i_spot i_begin i_token i_value i_bad i_full i_bandRows i_bandFirsts i_outs f_state f_was f_kept f_tape f_order f_rest f_ways f_costs f_bandBest f_found f_drawn f_joined f_out (by omega) (by omega) (by omega) (by omega) (by omega) (by omega) hG hE hR e2 (by omega) _ rfl (fun r => r = FX12k_laysRow f_state f_order e2) rfl) mkX12_laysRow w_1292 ws_66 w_1290 (xpg0 hP rfl) rfl rfl rfl rfl (Nat.le_of_ble_eq_true rfl) (Nat.le_of_ble_eq_true rfl) (Nat.le_of_ble_eq_true rfl) (Nat.le_of_ble_eq_true rfl) (Nat.le_of_ble_eq_true rfl) ?_
      intro v M2 hz
      obtain ⟨_, rfl, rfl, hk4, hp5, rfl⟩ := hz
      show xW _ _ _ _ 23 _ [] (P ++ (MDL L i_keptMany i_taped i_faultKind i_faultPlace i_spot i_begin i_token i_value i_bad i_full i_bandRows i_bandFirsts i_outs f_state f_was f_kept f_tape ((FX12k_laysRow f_state f_order e2).2) f_rest f_ways f_costs f_bandBest f_found f_drawn f_joined f_out ++ R)) _ _
      refine xi_aload_n 0 dX12_value_23 rfl ?_
      refine xi_iload_n 1 dX12_value_24 rfl ?_
      refine xi_iload_n 2 dX12_value_25 rfl ?_
      refine xi_callV (as := [.int (nI e2), .int m]) (rest := []) dX12_value_26 (FX12_valueOf_ok G hP i_keptMany i_taped i_faultKind i_faultPlace i_spot i_begin i_token i_value i_bad i_full i_bandRows i_bandFirsts i_outs f_state f_was f_kept f_tape ((FX12k_laysRow f_state f_order e2).2) f_rest f_ways f_costs f_bandBest f_found f_drawn f_joined f_out (by omega) (by omega) (by omega) (by omega) (by omega) (by omega) hG hk4 e2 (by omega) m _ rfl (fun r => r = FX12_valueOf f_state ((FX12k_laysRow f_state f_order e2).2) e2 m) rfl) mkX12_valueOf w_1296 ws_67 w_1294 (xpg0 hP rfl) rfl rfl rfl rfl (Nat.le_of_ble_eq_true rfl) (Nat.le_of_ble_eq_true rfl) (Nat.le_of_ble_eq_true rfl) (Nat.le_of_ble_eq_true rfl) (Nat.le_of_ble_eq_true rfl) ?_
      intro v M2 hz
      obtain ⟨_, rfl, rfl, rfl⟩ := hz
      show xW _ _ _ _ 29 _ [.int (FX12_valueOf f_state ((FX12k_laysRow f_state f_order e2).2) e2 m)] (P ++ (MDL L i_keptMany i_taped i_faultKind i_faultPlace i_spot i_begin i_token i_value i_bad i_full i_bandRows i_bandFirsts i_outs f_state f_was f_kept f_tape ((FX12k_laysRow f_state f_order e2).2) f_rest f_ways f_costs f_bandBest f_found f_drawn f_joined f_out ++ R)) _ _
      exact xi_iret dX12_value_29 rfl rfl (Nat.le_of_ble_eq_true rfl) (Nat.le_of_ble_eq_true rfl) ⟨_, rfl, hq, hk4, rfl⟩
    · rw [if_pos c3] at hq
      refine xi_bipush (v := (-2)) dX12_value_15 (by decide) ?_
      exact xi_iret dX12_value_17 rfl rfl (Nat.le_of_ble_eq_true rfl) (Nat.le_of_ble_eq_true rfl) ⟨_, rfl, hq, hR, rfl⟩
def FX12_gain (f_state : Nat → Int32) (f_order : Nat → Int32) (x : Int32) (m : Int32) (y : Int32) (t : Int32) : Int32 × (Nat → Int32) := (if (FX12_isPoint f_state x y) = (0 : Int32) then ((-1000 : Int32), f_order) else (if (FX12_isPoint f_state ((nI x.toNatClampNeg)) t) = (0 : Int32) then ((-1000 : Int32), f_order) else (if (FX12_isMeasure m) = (0 : Int32) then ((-1000 : Int32), f_order) else (((FX12_valueOf f_state ((FX12k_exchanges ((FX12k_laysRow f_state f_order x.toNatClampNeg).2) y.toNatClampNeg t.toNatClampNeg).2) x.toNatClampNeg m) - (FX12_valueOf f_state ((FX12k_laysRow f_state f_order x.toNatClampNeg).2) x.toNatClampNeg m)), (FX12k_exchanges ((FX12k_laysRow f_state f_order x.toNatClampNeg).2) y.toNatClampNeg t.toNatClampNeg).2))))
set_option maxHeartbeats 4000000 in
set_option maxRecDepth 100000 in
theorem FX12_gain_ok (G : xG) {P R : xMem} {L : Nat} (hP : P.length = L) (i_keptMany : Nat) (i_taped : Nat) (i_faultKind : Int32) (i_faultPlace : Int32) (i_spot : Nat) (i_begin : Nat) (i_token : Int32) (i_value : Int32) (i_bad : Int32) (i_full : Nat) (i_bandRows : Int32) (i_bandFirsts : Int32) (i_outs : Nat) (f_state : Nat → Int32) (f_was : Nat → Int32) (f_kept : Nat → Int32) (f_tape : Nat → Int32) (f_order : Nat → Int32) (f_rest : Nat → Int32) (f_ways : Nat → Int32) (f_costs : Nat → Int32) (f_bandBest : Nat → Int32) (f_found : Nat → Int32) (f_drawn : Nat → Int32) (f_joined : Nat → Int32) (f_out : Nat → Int32) (bi_keptMany : i_keptMany ≤ 10) (bi_taped : i_taped ≤ 400) (bi_spot : i_spot ≤ 400) (bi_begin : i_begin ≤ 400) (bi_full : i_full ≤ 511) (bi_outs : i_outs ≤ 400) (hG : GO f_state) (hE : PE f_state) (hR : RO f_order) (x : Int32) (m : Int32) (y : Int32) (t : Int32) (M : xMem) (hM : M = (P ++ (MDL L i_keptMany i_taped i_faultKind i_faultPlace i_spot i_begin i_token i_value i_bad i_full i_bandRows i_bandFirsts i_outs f_state f_was f_kept f_tape f_order f_rest f_ways f_costs f_bandBest f_found f_drawn f_joined f_out ++ R))) (Q : Int32 × (Nat → Int32) → Prop) (hq : Q (FX12_gain f_state f_order x m y t)) : xC G mX12_gain 6 0 0 [.ref L, .int x, .int m, .int y, .int t] M (fun v M2 => ∃ o : Int32 × (Nat → Int32), v = some (.int o.1) ∧ Q o ∧ RO o.2 ∧ M2 = (P ++ (MDL L i_keptMany i_taped i_faultKind i_faultPlace i_spot i_begin i_token i_value i_bad i_full i_bandRows i_bandFirsts i_outs f_state f_was f_kept f_tape o.2 f_rest f_ways f_costs f_bandBest f_found f_drawn f_joined f_out ++ R))) := by
  subst hM
  unfold FX12_gain at hq
  refine xC.of (by decide) (Nat.le_of_ble_eq_true rfl) ?_
  show xW _ _ _ _ 0 [(0, .ref L), (1, .int x), (2, .int m), (3, .int y), (4, .int t)] [] _ 0 0
  refine xi_aload_n 0 dX12_gain_0 rfl ?_
  refine xi_iload_n 1 dX12_gain_1 rfl ?_
  refine xi_iload_n 3 dX12_gain_2 rfl ?_
  refine xi_callV (as := [.int x, .int y]) (rest := []) dX12_gain_3 (FX12_isPoint_ok G hP i_keptMany i_taped i_faultKind i_faultPlace i_spot i_begin i_token i_value i_bad i_full i_bandRows i_bandFirsts i_outs f_state f_was f_kept f_tape f_order f_rest f_ways f_costs f_bandBest f_found f_drawn f_joined f_out (by omega) (by omega) (by omega) (by omega) (by omega) (by omega) hG x y _ rfl (fun r => r = FX12_isPoint f_state x y) rfl) mkX12_isPoint w_1257 ws_63 w_1255 (xpg0 hP rfl) rfl rfl rfl rfl (Nat.le_of_ble_eq_true rfl) (Nat.le_of_ble_eq_true rfl) (Nat.le_of_ble_eq_true rfl) (Nat.le_of_ble_eq_true rfl) (Nat.le_of_ble_eq_true rfl) ?_
  intro v M2 hz
  obtain ⟨_, rfl, rfl, rfl⟩ := hz
  show xW _ _ _ _ 6 _ [.int (FX12_isPoint f_state x y)] (P ++ (MDL L i_keptMany i_taped i_faultKind i_faultPlace i_spot i_begin i_token i_value i_bad i_full i_bandRows i_bandFirsts i_outs f_state f_was f_kept f_tape f_order f_rest f_ways f_costs f_bandBest f_found f_drawn f_joined f_out ++ R)) _ _
  refine xi_if_eq (tgt := 26) dX12_gain_6 (by decide) (fun c1 => ?_) (fun c1 => ?_)
  · rw [if_pos c1] at hq
    refine xi_sipush (v := (-1000)) dX12_gain_26 (by decide) ?_
    exact xi_iret dX12_gain_29 rfl rfl (Nat.le_of_ble_eq_true rfl) (Nat.le_of_ble_eq_true rfl) ⟨_, rfl, hq, hR, rfl⟩
  · rw [if_neg c1] at hq
    obtain ⟨e2, e2b, e2h⟩ := point_in c1
    have e2c : x.toNatClampNeg = e2 := by rw [e2h]; exact nI_clamp (by omega)
    try rw [e2c] at hq
    subst e2h
    have e2g := (hG e2 e2b).1.2
    obtain ⟨e3, e3b, e3h⟩ := point_in2 hG c1
    rw [nI_clamp (by omega)] at e3b
    have e3c : y.toNatClampNeg = e3 := by rw [e3h]; exact nI_clamp (by omega)
    try rw [e3c] at hq
    subst e3h
    refine xi_aload_n 0 dX12_gain_9 rfl ?_
    refine xi_iload_n 1 dX12_gain_10 rfl ?_
    refine xi_iload 4 dX12_gain_11 rfl ?_
    refine xi_callV (as := [.int (nI e2), .int t]) (rest := []) dX12_gain_13 (FX12_isPoint_ok G hP i_keptMany i_taped i_faultKind i_faultPlace i_spot i_begin i_token i_value i_bad i_full i_bandRows i_bandFirsts i_outs f_state f_was f_kept f_tape f_order f_rest f_ways f_costs f_bandBest f_found f_drawn f_joined f_out (by omega) (by omega) (by omega) (by omega) (by omega) (by omega) hG ((nI e2)) t _ rfl (fun r => r = FX12_isPoint f_state ((nI e2)) t) rfl) mkX12_isPoint w_1257 ws_63 w_1255 (xpg0 hP rfl) rfl rfl rfl rfl (Nat.le_of_ble_eq_true rfl) (Nat.le_of_ble_eq_true rfl) (Nat.le_of_ble_eq_true rfl) (Nat.le_of_ble_eq_true rfl) (Nat.le_of_ble_eq_true rfl) ?_
    intro v M2 hz
    obtain ⟨_, rfl, rfl, rfl⟩ := hz
    show xW _ _ _ _ 16 _ [.int (FX12_isPoint f_state ((nI e2)) t)] (P ++ (MDL L i_keptMany i_taped i_faultKind i_faultPlace i_spot i_begin i_token i_value i_bad i_full i_bandRows i_bandFirsts i_outs f_state f_was f_kept f_tape f_order f_rest f_ways f_costs f_bandBest f_found f_drawn f_joined f_out ++ R)) _ _
    refine xi_if_eq (tgt := 26) dX12_gain_16 (by decide) (fun c4 => ?_) (fun c4 => ?_)
    · rw [if_pos c4] at hq
      refine xi_sipush (v := (-1000)) dX12_gain_26 (by decide) ?_
      exact xi_iret dX12_gain_29 rfl rfl (Nat.le_of_ble_eq_true rfl) (Nat.le_of_ble_eq_true rfl) ⟨_, rfl, hq, hR, rfl⟩
    · rw [if_neg c4] at hq
      obtain ⟨e5, e5b, e5h⟩ := point_in2 hG c4
      rw [nI_clamp (by omega)] at e5b
      have e5c : t.toNatClampNeg = e5 := by rw [e5h]; exact nI_clamp (by omega)
      try rw [e5c] at hq
      subst e5h
      refine xi_iload_n 2 dX12_gain_19 rfl ?_
      refine xi_callS (as := [.int m]) (rest := []) dX12_gain_20 (FX12_isMeasure_ok G m (fun r => r = FX12_isMeasure m) rfl) mkX12_isMeasure w_1288 w_1287 rfl rfl (Nat.le_of_ble_eq_true rfl) (Nat.le_of_ble_eq_true rfl) (Nat.le_of_ble_eq_true rfl) (Nat.le_of_ble_eq_true rfl) (Nat.le_of_ble_eq_true rfl) ?_
      intro v M2 hz
      obtain ⟨_, rfl, rfl, hM2⟩ := hz
      rw [hM2]
      show xW _ _ _ _ 23 _ [.int (FX12_isMeasure m)] (P ++ (MDL L i_keptMany i_taped i_faultKind i_faultPlace i_spot i_begin i_token i_value i_bad i_full i_bandRows i_bandFirsts i_outs f_state f_was f_kept f_tape f_order f_rest f_ways f_costs f_bandBest f_found f_drawn f_joined f_out ++ R)) _ _
      refine xi_if_ne (tgt := 30) dX12_gain_23 (by decide) (fun c6 => ?_) (fun c6 => ?_)
      · rw [if_neg c6] at hq
        refine xi_aload_n 0 dX12_gain_30 rfl ?_
        refine xi_iload_n 1 dX12_gain_31 rfl ?_
        refine xi_callV (as := [.int (nI e2)]) (rest := []) dX12_gain_32 (FX12k_laysRow_ok G hP i_keptMany i_taped i_faultKind i_faultPlace i_spot i_begin i_token i_value i_bad i_full i_bandRows i_bandFirsts i_outs f_state f_was f_kept f_tape f_order f_rest f_ways f_costs f_bandBest f_found f_drawn f_joined f_out (by omega) (by omega) (by omega) (by omega) (by omega) (by omega) hG hE hR e2 (by omega) _ rfl (fun r => r = FX12k_laysRow f_state f_order e2) rfl) mkX12_laysRow w_1292 ws_66 w_1290 (xpg0 hP rfl) rfl rfl rfl rfl (Nat.le_of_ble_eq_true rfl) (Nat.le_of_ble_eq_true rfl) (Nat.le_of_ble_eq_true rfl) (Nat.le_of_ble_eq_true rfl) (Nat.le_of_ble_eq_true rfl) ?_
        intro v M2 hz
        obtain ⟨_, rfl, rfl, hk7, hp8, rfl⟩ := hz
        show xW _ _ _ _ 35 _ [] (P ++ (MDL L i_keptMany i_taped i_faultKind i_faultPlace i_spot i_begin i_token i_value i_bad i_full i_bandRows i_bandFirsts i_outs f_state f_was f_kept f_tape ((FX12k_laysRow f_state f_order e2).2) f_rest f_ways f_costs f_bandBest f_found f_drawn f_joined f_out ++ R)) _ _
        refine xi_aload_n 0 dX12_gain_35 rfl ?_
        refine xi_iload_n 1 dX12_gain_36 rfl ?_
        refine xi_iload_n 2 dX12_gain_37 rfl ?_
        refine xi_callV (as := [.int (nI e2), .int m]) (rest := []) dX12_gain_38 (FX12_valueOf_ok G hP i_keptMany i_taped i_faultKind i_faultPlace i_spot i_begin i_token i_value i_bad i_full i_bandRows i_bandFirsts i_outs f_state f_was f_kept f_tape ((FX12k_laysRow f_state f_order e2).2) f_rest f_ways f_costs f_bandBest f_found f_drawn f_joined f_out (by omega) (by omega) (by omega) (by omega) (by omega) (by omega) hG hk7 e2 (by omega) m _ rfl (fun r => r = FX12_valueOf f_state ((FX12k_laysRow f_state f_order e2).2) e2 m) rfl) mkX12_valueOf w_1296 ws_67 w_1294 (xpg0 hP rfl) rfl rfl rfl rfl (Nat.le_of_ble_eq_true rfl) (Nat.le_of_ble_eq_true rfl) (Nat.le_of_ble_eq_true rfl) (Nat.le_of_ble_eq_true rfl) (Nat.le_of_ble_eq_true rfl) ?_
        intro v M2 hz
        obtain ⟨_, rfl, rfl, rfl⟩ := hz
        show xW _ _ _ _ 41 _ [.int (FX12_valueOf f_state ((FX12k_laysRow f_state f_order e2).2) e2 m)] (P ++ (MDL L i_keptMany i_taped i_faultKind i_faultPlace i_spot i_begin i_token i_value i_bad i_full i_bandRows i_bandFirsts i_outs f_state f_was f_kept f_tape ((FX12k_laysRow f_state f_order e2).2) f_rest f_ways f_costs f_bandBest f_found f_drawn f_joined f_out ++ R)) _ _
        refine xi_istore (lv' := [(5, .int (FX12_valueOf f_state ((FX12k_laysRow f_state f_order e2).2) e2 m)), (0, .ref L), (1, .int (nI e2)), (2, .int m), (3, .int (nI e3)), (4, .int (nI e5))]) dX12_gain_41 (by decide) rfl ?_
        refine xi_aload_n 1 dX12_gain_43 rfl ?_
        refine xi_iload_n 4 dX12_gain_44 rfl ?_
        refine xi_iload 5 dX12_gain_45 rfl ?_
        refine xi_callV (as := [.int (nI e3), .int (nI e5)]) (rest := []) dX12_gain_47 (FX12k_exchanges_ok G hP i_keptMany i_taped i_faultKind i_faultPlace i_spot i_begin i_token i_value i_bad i_full i_bandRows i_bandFirsts i_outs f_state f_was f_kept f_tape ((FX12k_laysRow f_state f_order e2).2) f_rest f_ways f_costs f_bandBest f_found f_drawn f_joined f_out (by omega) (by omega) (by omega) (by omega) (by omega) (by omega) hk7 e3 (by omega) e5 (by omega) _ rfl (fun r => r = FX12k_exchanges ((FX12k_laysRow f_state f_order e2).2) e3 e5) rfl) mkX12_exchanges w_1452 ws_87 w_1450 (xpg0 hP rfl) rfl rfl rfl rfl (Nat.le_of_ble_eq_true rfl) (Nat.le_of_ble_eq_true rfl) (Nat.le_of_ble_eq_true rfl) (Nat.le_of_ble_eq_true rfl) (Nat.le_of_ble_eq_true rfl) ?_
        intro v M2 hz
        obtain ⟨_, rfl, rfl, hk9, rfl⟩ := hz
        show xW _ _ _ _ 50 _ [] (P ++ (MDL L i_keptMany i_taped i_faultKind i_faultPlace i_spot i_begin i_token i_value i_bad i_full i_bandRows i_bandFirsts i_outs f_state f_was f_kept f_tape ((FX12k_exchanges ((FX12k_laysRow f_state f_order e2).2) e3 e5).2) f_rest f_ways f_costs f_bandBest f_found f_drawn f_joined f_out ++ R)) _ _
        refine xi_aload_n 1 dX12_gain_50 rfl ?_
        refine xi_iload_n 2 dX12_gain_51 rfl ?_
        refine xi_iload_n 3 dX12_gain_52 rfl ?_
        refine xi_callV (as := [.int (nI e2), .int m]) (rest := []) dX12_gain_53 (FX12_valueOf_ok G hP i_keptMany i_taped i_faultKind i_faultPlace i_spot i_begin i_token i_value i_bad i_full i_bandRows i_bandFirsts i_outs f_state f_was f_kept f_tape ((FX12k_exchanges ((FX12k_laysRow f_state f_order e2).2) e3 e5).2) f_rest f_ways f_costs f_bandBest f_found f_drawn f_joined f_out (by omega) (by omega) (by omega) (by omega) (by omega) (by omega) hG hk9 e2 (by omega) m _ rfl (fun r => r = FX12_valueOf f_state ((FX12k_exchanges ((FX12k_laysRow f_state f_order e2).2) e3 e5).2) e2 m) rfl) mkX12_valueOf w_1296 ws_67 w_1294 (xpg0 hP rfl) rfl rfl rfl rfl (Nat.le_of_ble_eq_true rfl) (Nat.le_of_ble_eq_true rfl) (Nat.le_of_ble_eq_true rfl) (Nat.le_of_ble_eq_true rfl) (Nat.le_of_ble_eq_true rfl) ?_
        intro v M2 hz
        obtain ⟨_, rfl, rfl, rfl⟩ := hz
        show xW _ _ _ _ 56 _ [.int (FX12_valueOf f_state ((FX12k_exchanges ((FX12k_laysRow f_state f_order e2).2) e3 e5).2) e2 m)] (P ++ (MDL L i_keptMany i_taped i_faultKind i_faultPlace i_spot i_begin i_token i_value i_bad i_full i_bandRows i_bandFirsts i_outs f_state f_was f_kept f_tape ((FX12k_exchanges ((FX12k_laysRow f_state f_order e2).2) e3 e5).2) f_rest f_ways f_costs f_bandBest f_found f_drawn f_joined f_out ++ R)) _ _
        refine xi_iload 0 dX12_gain_56 rfl ?_
        refine xi_isub (v := ((FX12_valueOf f_state ((FX12k_exchanges ((FX12k_laysRow f_state f_order e2).2) e3 e5).2) e2 m) - (FX12_valueOf f_state ((FX12k_laysRow f_state f_order e2).2) e2 m))) dX12_gain_58 rfl ?_
        exact xi_iret dX12_gain_59 rfl rfl (Nat.le_of_ble_eq_true rfl) (Nat.le_of_ble_eq_true rfl) ⟨_, rfl, hq, hk9, rfl⟩
      · rw [if_pos c6] at hq
        refine xi_sipush (v := (-1000)) dX12_gain_26 (by decide) ?_
        exact xi_iret dX12_gain_29 rfl rfl (Nat.le_of_ble_eq_true rfl) (Nat.le_of_ble_eq_true rfl) ⟨_, rfl, hq, hR, rfl⟩
def LX12k_remembers_2 (f_state : Nat → Int32) (K : (Nat → Int32) → Int32 × (Nat → Int32)) : Nat → Nat → (Nat → Int32) → Int32 × (Nat → Int32)
  | 0, _, f_was => K f_was
  | k + 1, j, f_was => (LX12k_remembers_2 f_state K k (j + 1) (upd f_was j ((f_state j))))
set_option maxHeartbeats 4000000 in
set_option maxRecDepth 100000 in
theorem LX12k_remembers_2_s (G : xG) {P R : xMem} {L : Nat} (hP : P.length = L) (i_keptMany : Nat) (i_taped : Nat) (i_faultKind : Int32) (i_faultPlace : Int32) (i_spot : Nat) (i_begin : Nat) (i_token : Int32) (i_value : Int32) (i_bad : Int32) (i_full : Nat) (i_bandRows : Int32) (i_bandFirsts : Int32) (i_outs : Nat) (f_state : Nat → Int32) (f_kept : Nat → Int32) (f_tape : Nat → Int32) (f_order : Nat → Int32) (f_rest : Nat → Int32) (f_ways : Nat → Int32) (f_costs : Nat → Int32) (f_bandBest : Nat → Int32) (f_found : Nat → Int32) (f_drawn : Nat → Int32) (f_joined : Nat → Int32) (f_out : Nat → Int32) (bi_keptMany : i_keptMany ≤ 10) (bi_taped : i_taped ≤ 400) (bi_spot : i_spot ≤ 400) (bi_begin : i_begin ≤ 400) (bi_full : i_full ≤ 511) (bi_outs : i_outs ≤ 400) (hG : GO f_state) (hE : PE f_state) (hT : WB f_state) (Q : Int32 × (Nat → Int32) → Prop) (K : (Nat → Int32) → Int32 × (Nat → Int32)) (HE : ∀ (f_was : Nat → Int32) (hi : ∀ i, i < 273 → f_was i = f_state i), Q (K f_was) → xW G mX12_remembers (xrm 0 0 0) (xQ G (fun v M2 => ∃ o : Int32 × (Nat → Int32), v = none ∧ Q o ∧ SO o.2 ∧ M2 = (P ++ (MDL L i_keptMany i_taped i_faultKind i_faultPlace i_spot i_begin i_token i_value i_bad i_full i_bandRows i_bandFirsts i_outs f_state o.2 f_kept f_tape f_order f_rest f_ways f_costs f_bandBest f_found f_drawn f_joined f_out ++ R))) 0 0) 27 [] [] (P ++ (MDL L i_keptMany i_taped i_faultKind i_faultPlace i_spot i_begin i_token i_value i_bad i_full i_bandRows i_bandFirsts i_outs f_state f_was f_kept f_tape f_order f_rest f_ways f_costs f_bandBest f_found f_drawn f_joined f_out ++ R)) 0 0) :
    ∀ (k j : Nat) (f_was : Nat → Int32) (hi : ∀ i, i < j → f_was i = f_state i), 273 - j = k → j < 100000 → Q (LX12k_remembers_2 f_state K k j f_was) → xW G mX12_remembers (xrm 0 0 0) (xQ G (fun v M2 => ∃ o : Int32 × (Nat → Int32), v = none ∧ Q o ∧ SO o.2 ∧ M2 = (P ++ (MDL L i_keptMany i_taped i_faultKind i_faultPlace i_spot i_begin i_token i_value i_bad i_full i_bandRows i_bandFirsts i_outs f_state o.2 f_kept f_tape f_order f_rest f_ways f_costs f_bandBest f_found f_drawn f_joined f_out ++ R))) 0 0) 2 [(0, .ref L), (1, .int (nI j))] [] (P ++ (MDL L i_keptMany i_taped i_faultKind i_faultPlace i_spot i_begin i_token i_value i_bad i_full i_bandRows i_bandFirsts i_outs f_state f_was f_kept f_tape f_order f_rest f_ways f_costs f_bandBest f_found f_drawn f_joined f_out ++ R)) 0 0 := by
  intro k
  induction k with
  | zero =>
    intro j f_was hi hj hj2 hq
    rw [LX12k_remembers_2] at hq
    refine xi_iload_n 1 dX12_remembers_2 rfl ?_
    refine xi_sipush (v := 273) dX12_remembers_3 (by decide) ?_
    refine xi_icmp_ge_t (tgt := 27) dX12_remembers_6 (by decide) (nI_le (a := 273) (b := j) (by omega) (by omega)) ?_
    refine xi_sub (lv' := []) [] rfl ?_
    exact HE f_was (by first | exact cp_step hi | exact fun i h_ => hi i (by omega)) hq
  | succ k ih =>
    intro j f_was hi hj hj2 hq
    rw [LX12k_remembers_2] at hq
    refine xi_iload_n 1 dX12_remembers_2 rfl ?_
    refine xi_sipush (v := 273) dX12_remembers_3 (by decide) ?_
    refine xi_icmp_ge_f (tgt := 27) dX12_remembers_6 (by decide) (nI_ge (a := j) (b := 273) (by omega) (by omega)) ?_
    refine xi_aload_n 0 dX12_remembers_9 rfl ?_
    refine xi_get (f := 1) dX12_remembers_10 (xpg0 hP rfl) rfl ok_9 (by decide) w_1009 rfl ?_
    refine xi_iload_n 1 dX12_remembers_13 rfl ?_
    refine xi_aload_n 0 dX12_remembers_14 rfl ?_
    refine xi_get (f := 0) dX12_remembers_15 (xpg0 hP rfl) rfl ok_9 (by decide) w_1008 rfl ?_
    refine xi_iload_n 1 dX12_remembers_18 rfl ?_
    refine xi_iaload (v := (f_state j)) dX12_remembers_19 (xpg hP rfl) (vp_in_nI (by omega) (by decide)) (by rw [nI_clamp (by omega)]) ?_
    refine xi_iastore (M' := (P ++ (MDL L i_keptMany i_taped i_faultKind i_faultPlace i_spot i_begin i_token i_value i_bad i_full i_bandRows i_bandFirsts i_outs f_state (upd f_was j ((f_state j))) f_kept f_tape f_order f_rest f_ways f_costs f_bandBest f_found f_drawn f_joined f_out ++ R))) dX12_remembers_20 (xpg hP rfl) (vp_in_nI (by omega) (by decide)) (by rw [nI_clamp (by omega)]; exact (xps hP)) ?_
    refine xi_iinc (v := (nI (j + 1))) (lv' := [(1, .int (nI (j + 1))), (0, .ref L)]) 1 dX12_remembers_21 rfl (nI_1 _) (by decide) rfl ?_
    refine xi_goto (tgt := 2) dX12_remembers_24 (by decide) ?_
    refine xi_sub (lv' := [(0, .ref L), (1, .int (nI (j + 1)))]) [1, 0] rfl ?_
    exact ih (j + 1) (upd f_was j ((f_state j))) (by first | exact cp_step hi | exact fun i h_ => hi i (by omega)) (by omega) (by omega) hq
def FX12k_remembers (f_state : Nat → Int32) (f_was : Nat → Int32) : Int32 × (Nat → Int32) := (LX12k_remembers_2 f_state (fun u1 => (0, u1)) (273 - 0) 0 f_was)
set_option maxHeartbeats 4000000 in
set_option maxRecDepth 100000 in
theorem FX12k_remembers_ok (G : xG) {P R : xMem} {L : Nat} (hP : P.length = L) (i_keptMany : Nat) (i_taped : Nat) (i_faultKind : Int32) (i_faultPlace : Int32) (i_spot : Nat) (i_begin : Nat) (i_token : Int32) (i_value : Int32) (i_bad : Int32) (i_full : Nat) (i_bandRows : Int32) (i_bandFirsts : Int32) (i_outs : Nat) (f_state : Nat → Int32) (f_was : Nat → Int32) (f_kept : Nat → Int32) (f_tape : Nat → Int32) (f_order : Nat → Int32) (f_rest : Nat → Int32) (f_ways : Nat → Int32) (f_costs : Nat → Int32) (f_bandBest : Nat → Int32) (f_found : Nat → Int32) (f_drawn : Nat → Int32) (f_joined : Nat → Int32) (f_out : Nat → Int32) (bi_keptMany : i_keptMany ≤ 10) (bi_taped : i_taped ≤ 400) (bi_spot : i_spot ≤ 400) (bi_begin : i_begin ≤ 400) (bi_full : i_full ≤ 511) (bi_outs : i_outs ≤ 400) (hG : GO f_state) (hE : PE f_state) (hT : WB f_state) (hW : SO f_was) (M : xMem) (hM : M = (P ++ (MDL L i_keptMany i_taped i_faultKind i_faultPlace i_spot i_begin i_token i_value i_bad i_full i_bandRows i_bandFirsts i_outs f_state f_was f_kept f_tape f_order f_rest f_ways f_costs f_bandBest f_found f_drawn f_joined f_out ++ R))) (Q : Int32 × (Nat → Int32) → Prop) (hq : Q (FX12k_remembers f_state f_was)) : xC G mX12_remembers 0 0 0 [.ref L] M (fun v M2 => ∃ o : Int32 × (Nat → Int32), v = none ∧ Q o ∧ SO o.2 ∧ M2 = (P ++ (MDL L i_keptMany i_taped i_faultKind i_faultPlace i_spot i_begin i_token i_value i_bad i_full i_bandRows i_bandFirsts i_outs f_state o.2 f_kept f_tape f_order f_rest f_ways f_costs f_bandBest f_found f_drawn f_joined f_out ++ R))) := by
  subst hM
  unfold FX12k_remembers at hq
  refine xC.of (by decide) (Nat.le_of_ble_eq_true rfl) ?_
  show xW _ _ _ _ 0 [(0, .ref L)] [] _ 0 0
  refine xi_iconst (v := 0) dX12_remembers_0 (by decide) ?_
  refine xi_istore_n (lv' := [(1, .int 0), (0, .ref L)]) dX12_remembers_1 (by decide) rfl ?_
  refine xi_sub (lv' := [(0, .ref L), (1, .int 0)]) [1, 0] rfl ?_
  refine LX12k_remembers_2_s G hP i_keptMany i_taped i_faultKind i_faultPlace i_spot i_begin i_token i_value i_bad i_full i_bandRows i_bandFirsts i_outs f_state f_kept f_tape f_order f_rest f_ways f_costs f_bandBest f_found f_drawn f_joined f_out (by omega) (by omega) (by omega) (by omega) (by omega) (by omega) hG hE hT Q _ (fun u1 hi2 hq => ?_) (273 - 0) 0 f_was (by exact fun i hi => absurd hi (Nat.not_lt_zero _)) rfl (by omega) hq
  exact xi_vret dX12_remembers_27 rfl (Nat.le_of_ble_eq_true rfl) (Nat.le_of_ble_eq_true rfl) ⟨_, rfl, hq, (SO_cp hi2 hG hE hT), rfl⟩
def LX12k_keeps_52 (i_keptMany : Nat) (f_was : Nat → Int32) (w1 : Int32) (K : (Nat → Int32) → Int32 × Nat × (Nat → Int32)) : Nat → Nat → (Nat → Int32) → Int32 × Nat × (Nat → Int32)
  | 0, _, f_kept => K f_kept
  | k + 1, j, f_kept => (LX12k_keeps_52 i_keptMany f_was w1 K k (j + 1) (upd f_kept ((273 * i_keptMany) + j) ((f_was j))))
def LX12k_keeps_11 (i_keptMany : Nat) (f_was : Nat → Int32) (w1 : Int32) (K : (Nat → Int32) → Int32 × Nat × (Nat → Int32)) : Nat → Nat → (Nat → Int32) → Int32 × Nat × (Nat → Int32)
  | 0, _, f_kept => K f_kept
  | k + 1, j, f_kept => (LX12k_keeps_11 i_keptMany f_was w1 K k (j + 1) (upd f_kept j ((f_kept (j + 273)))))
set_option maxHeartbeats 4000000 in
set_option maxRecDepth 100000 in
theorem LX12k_keeps_52_s (G : xG) {P R : xMem} {L : Nat} (hP : P.length = L) (i_keptMany : Nat) (i_taped : Nat) (i_faultKind : Int32) (i_faultPlace : Int32) (i_spot : Nat) (i_begin : Nat) (i_token : Int32) (i_value : Int32) (i_bad : Int32) (i_full : Nat) (i_bandRows : Int32) (i_bandFirsts : Int32) (i_outs : Nat) (f_state : Nat → Int32) (f_was : Nat → Int32) (f_tape : Nat → Int32) (f_order : Nat → Int32) (f_rest : Nat → Int32) (f_ways : Nat → Int32) (f_costs : Nat → Int32) (f_bandBest : Nat → Int32) (f_found : Nat → Int32) (f_drawn : Nat → Int32) (f_joined : Nat → Int32) (f_out : Nat → Int32) (bi_keptMany : i_keptMany ≤ 10) (bi_taped : i_taped ≤ 400) (bi_spot : i_spot ≤ 400) (bi_begin : i_begin ≤ 400) (bi_full : i_full ≤ 511) (bi_outs : i_outs ≤ 400) (hW : SO f_was) (w1 : Int32) (hx : i_keptMany < 10) (Q : Int32 × Nat × (Nat → Int32) → Prop) (K : (Nat → Int32) → Int32 × Nat × (Nat → Int32)) (HE : ∀ (f_kept : Nat → Int32) (hi : KO i_keptMany f_kept ∧ ∀ i, i < 273 → f_kept (273 * i_keptMany + i) = f_was i), Q (K f_kept) → xW G mX12_keeps (xrm 0 0 0) (xQ G (fun v M2 => ∃ o : Int32 × Nat × (Nat → Int32), v = some (.int o.1) ∧ Q o ∧ KO o.2.1 o.2.2 ∧ o.2.1 ≤ 10 ∧ M2 = (P ++ (MDL L o.2.1 i_taped i_faultKind i_faultPlace i_spot i_begin i_token i_value i_bad i_full i_bandRows i_bandFirsts i_outs f_state f_was o.2.2 f_tape f_order f_rest f_ways f_costs f_bandBest f_found f_drawn f_joined f_out ++ R))) 0 0) 86 [(0, .ref L), (1, .int w1)] [] (P ++ (MDL L i_keptMany i_taped i_faultKind i_faultPlace i_spot i_begin i_token i_value i_bad i_full i_bandRows i_bandFirsts i_outs f_state f_was f_kept f_tape f_order f_rest f_ways f_costs f_bandBest f_found f_drawn f_joined f_out ++ R)) 0 0) :
    ∀ (k j : Nat) (f_kept : Nat → Int32) (hi : KO i_keptMany f_kept ∧ ∀ i, i < j → f_kept (273 * i_keptMany + i) = f_was i), 273 - j = k → j < 100000 → Q (LX12k_keeps_52 i_keptMany f_was w1 K k j f_kept) → xW G mX12_keeps (xrm 0 0 0) (xQ G (fun v M2 => ∃ o : Int32 × Nat × (Nat → Int32), v = some (.int o.1) ∧ Q o ∧ KO o.2.1 o.2.2 ∧ o.2.1 ≤ 10 ∧ M2 = (P ++ (MDL L o.2.1 i_taped i_faultKind i_faultPlace i_spot i_begin i_token i_value i_bad i_full i_bandRows i_bandFirsts i_outs f_state f_was o.2.2 f_tape f_order f_rest f_ways f_costs f_bandBest f_found f_drawn f_joined f_out ++ R))) 0 0) 52 [(0, .ref L), (1, .int w1), (2, .int (nI j))] [] (P ++ (MDL L i_keptMany i_taped i_faultKind i_faultPlace i_spot i_begin i_token i_value i_bad i_full i_bandRows i_bandFirsts i_outs f_state f_was f_kept f_tape f_order f_rest f_ways f_costs f_bandBest f_found f_drawn f_joined f_out ++ R)) 0 0 := by
  intro k
  induction k with
  | zero =>
    intro j f_kept hi hj hj2 hq
    rw [LX12k_keeps_52] at hq
    refine xi_iload_n 2 dX12_keeps_52 rfl ?_
    refine xi_sipush (v := 273) dX12_keeps_53 (by decide) ?_
    refine xi_icmp_ge_t (tgt := 86) dX12_keeps_56 (by decide) (nI_le (a := 273) (b := j) (by omega) (by omega)) ?_
    refine xi_sub (lv' := [(0, .ref L), (1, .int w1)]) [0, 1] rfl ?_
    exact HE f_kept (by first | exact KO_w hi | exact ⟨hi.1, fun i h_ => hi.2 i (by omega)⟩) hq
  | succ k ih =>
    intro j f_kept hi hj hj2 hq
    rw [LX12k_keeps_52] at hq
    refine xi_iload_n 2 dX12_keeps_52 rfl ?_
    refine xi_sipush (v := 273) dX12_keeps_53 (by decide) ?_
    refine xi_icmp_ge_f (tgt := 86) dX12_keeps_56 (by decide) (nI_ge (a := j) (b := 273) (by omega) (by omega)) ?_
    refine xi_aload_n 0 dX12_keeps_59 rfl ?_
    refine xi_get (f := 2) dX12_keeps_60 (xpg0 hP rfl) rfl ok_9 (by decide) w_1010 rfl ?_
    refine xi_sipush (v := 273) dX12_keeps_63 (by decide) ?_
    refine xi_aload_n 0 dX12_keeps_66 rfl ?_
    refine xi_get (f := 3) dX12_keeps_67 (xpg0 hP rfl) rfl ok_9 (by decide) w_1011 rfl ?_
    refine xi_imul (v := (nI (273 * i_keptMany))) dX12_keeps_70 (pk_mul 273 i_keptMany) ?_
    refine xi_iload_n 2 dX12_keeps_71 rfl ?_
    refine xi_iadd (v := (nI ((273 * i_keptMany) + j))) dX12_keeps_72 (nI_add (273 * i_keptMany) j) ?_
    refine xi_aload_n 0 dX12_keeps_73 rfl ?_
    refine xi_get (f := 1) dX12_keeps_74 (xpg0 hP rfl) rfl ok_9 (by decide) w_1009 rfl ?_
    refine xi_iload_n 2 dX12_keeps_77 rfl ?_
    refine xi_iaload (v := (f_was j)) dX12_keeps_78 (xpg hP rfl) (vp_in_nI (by omega) (by decide)) (by rw [nI_clamp (by omega)]) ?_
    refine xi_iastore (M' := (P ++ (MDL L i_keptMany i_taped i_faultKind i_faultPlace i_spot i_begin i_token i_value i_bad i_full i_bandRows i_bandFirsts i_outs f_state f_was (upd f_kept ((273 * i_keptMany) + j) ((f_was j))) f_tape f_order f_rest f_ways f_costs f_bandBest f_found f_drawn f_joined f_out ++ R))) dX12_keeps_79 (xpg hP rfl) (vp_in_nI (by omega) (by decide)) (by rw [nI_clamp (by omega)]; exact (xps hP)) ?_
    refine xi_iinc (v := (nI (j + 1))) (lv' := [(2, .int (nI (j + 1))), (0, .ref L), (1, .int w1)]) 2 dX12_keeps_80 rfl (nI_1 _) (by decide) rfl ?_
    refine xi_goto (tgt := 52) dX12_keeps_83 (by decide) ?_
    refine xi_sub (lv' := [(0, .ref L), (1, .int w1), (2, .int (nI (j + 1)))]) [1, 2, 0] rfl ?_
    exact ih (j + 1) (upd f_kept ((273 * i_keptMany) + j) ((f_was j))) (by first | exact KO_w hi | exact ⟨hi.1, fun i h_ => hi.2 i (by omega)⟩) (by omega) (by omega) hq
set_option maxHeartbeats 4000000 in
set_option maxRecDepth 100000 in
theorem LX12k_keeps_11_s (G : xG) {P R : xMem} {L : Nat} (hP : P.length = L) (i_keptMany : Nat) (i_taped : Nat) (i_faultKind : Int32) (i_faultPlace : Int32) (i_spot : Nat) (i_begin : Nat) (i_token : Int32) (i_value : Int32) (i_bad : Int32) (i_full : Nat) (i_bandRows : Int32) (i_bandFirsts : Int32) (i_outs : Nat) (f_state : Nat → Int32) (f_was : Nat → Int32) (f_tape : Nat → Int32) (f_order : Nat → Int32) (f_rest : Nat → Int32) (f_ways : Nat → Int32) (f_costs : Nat → Int32) (f_bandBest : Nat → Int32) (f_found : Nat → Int32) (f_drawn : Nat → Int32) (f_joined : Nat → Int32) (f_out : Nat → Int32) (bi_keptMany : i_keptMany ≤ 10) (bi_taped : i_taped ≤ 400) (bi_spot : i_spot ≤ 400) (bi_begin : i_begin ≤ 400) (bi_full : i_full ≤ 511) (bi_outs : i_outs ≤ 400) (hW : SO f_was) (w1 : Int32) (Q : Int32 × Nat × (Nat → Int32) → Prop) (K : (Nat → Int32) → Int32 × Nat × (Nat → Int32)) (HE : ∀ (f_kept : Nat → Int32) (hi : KO 9 (fun i => if i < 2457 then f_kept i else f_kept (i + 273))), Q (K f_kept) → xW G mX12_keeps (xrm 0 0 0) (xQ G (fun v M2 => ∃ o : Int32 × Nat × (Nat → Int32), v = some (.int o.1) ∧ Q o ∧ KO o.2.1 o.2.2 ∧ o.2.1 ≤ 10 ∧ M2 = (P ++ (MDL L o.2.1 i_taped i_faultKind i_faultPlace i_spot i_begin i_token i_value i_bad i_full i_bandRows i_bandFirsts i_outs f_state f_was o.2.2 f_tape f_order f_rest f_ways f_costs f_bandBest f_found f_drawn f_joined f_out ++ R))) 0 0) 40 [(0, .ref L), (1, .int w1)] [] (P ++ (MDL L i_keptMany i_taped i_faultKind i_faultPlace i_spot i_begin i_token i_value i_bad i_full i_bandRows i_bandFirsts i_outs f_state f_was f_kept f_tape f_order f_rest f_ways f_costs f_bandBest f_found f_drawn f_joined f_out ++ R)) 0 0) :
    ∀ (k j : Nat) (f_kept : Nat → Int32) (hi : KO 9 (fun i => if i < j then f_kept i else f_kept (i + 273))), 2457 - j = k → j < 100000 → Q (LX12k_keeps_11 i_keptMany f_was w1 K k j f_kept) → xW G mX12_keeps (xrm 0 0 0) (xQ G (fun v M2 => ∃ o : Int32 × Nat × (Nat → Int32), v = some (.int o.1) ∧ Q o ∧ KO o.2.1 o.2.2 ∧ o.2.1 ≤ 10 ∧ M2 = (P ++ (MDL L o.2.1 i_taped i_faultKind i_faultPlace i_spot i_begin i_token i_value i_bad i_full i_bandRows i_bandFirsts i_outs f_state f_was o.2.2 f_tape f_order f_rest f_ways f_costs f_bandBest f_found f_drawn f_joined f_out ++ R))) 0 0) 11 [(0, .ref L), (1, .int w1), (2, .int (nI j))] [] (P ++ (MDL L i_keptMany i_taped i_faultKind i_faultPlace i_spot i_begin i_token i_value i_bad i_full i_bandRows i_bandFirsts i_outs f_state f_was f_kept f_tape f_order f_rest f_ways f_costs f_bandBest f_found f_drawn f_joined f_out ++ R)) 0 0 := by
  intro k
  induction k with
  | zero =>
    intro j f_kept hi hj hj2 hq
    rw [LX12k_keeps_11] at hq
    refine xi_iload_n 2 dX12_keeps_11 rfl ?_
    refine xi_sipush (v := 2457) dX12_keeps_12 (by decide) ?_
    refine xi_icmp_ge_t (tgt := 40) dX12_keeps_15 (by decide) (nI_le (a := 2457) (b := j) (by omega) (by omega)) ?_
    refine xi_sub (lv' := [(0, .ref L), (1, .int w1)]) [0, 1] rfl ?_
    exact HE f_kept (by first | exact KO_sh1 hi | exact KO_sh3 hi (by omega)) hq
  | succ k ih =>
    intro j f_kept hi hj hj2 hq
    rw [LX12k_keeps_11] at hq
    refine xi_iload_n 2 dX12_keeps_11 rfl ?_
    refine xi_sipush (v := 2457) dX12_keeps_12 (by decide) ?_
    refine xi_icmp_ge_f (tgt := 40) dX12_keeps_15 (by decide) (nI_ge (a := j) (b := 2457) (by omega) (by omega)) ?_
    refine xi_aload_n 0 dX12_keeps_18 rfl ?_
    refine xi_get (f := 2) dX12_keeps_19 (xpg0 hP rfl) rfl ok_9 (by decide) w_1010 rfl ?_
    refine xi_iload_n 2 dX12_keeps_22 rfl ?_
    refine xi_aload_n 0 dX12_keeps_23 rfl ?_
    refine xi_get (f := 2) dX12_keeps_24 (xpg0 hP rfl) rfl ok_9 (by decide) w_1010 rfl ?_
    refine xi_iload_n 2 dX12_keeps_27 rfl ?_
    refine xi_sipush (v := 273) dX12_keeps_28 (by decide) ?_
    refine xi_iadd (v := (nI (j + 273))) dX12_keeps_31 (nI_add j 273) ?_
    refine xi_iaload (v := (f_kept (j + 273))) dX12_keeps_32 (xpg hP rfl) (vp_in_nI (by omega) (by decide)) (by rw [nI_clamp (by omega)]) ?_
    refine xi_iastore (M' := (P ++ (MDL L i_keptMany i_taped i_faultKind i_faultPlace i_spot i_begin i_token i_value i_bad i_full i_bandRows i_bandFirsts i_outs f_state f_was (upd f_kept j ((f_kept (j + 273)))) f_tape f_order f_rest f_ways f_costs f_bandBest f_found f_drawn f_joined f_out ++ R))) dX12_keeps_33 (xpg hP rfl) (vp_in_nI (by omega) (by decide)) (by rw [nI_clamp (by omega)]; exact (xps hP)) ?_
    refine xi_iinc (v := (nI (j + 1))) (lv' := [(2, .int (nI (j + 1))), (0, .ref L), (1, .int w1)]) 2 dX12_keeps_34 rfl (nI_1 _) (by decide) rfl ?_
    refine xi_goto (tgt := 11) dX12_keeps_37 (by decide) ?_
    refine xi_sub (lv' := [(0, .ref L), (1, .int w1), (2, .int (nI (j + 1)))]) [1, 2, 0] rfl ?_
    exact ih (j + 1) (upd f_kept j ((f_kept (j + 273)))) (by first | exact KO_sh1 hi | exact KO_sh3 hi (by omega)) (by omega) (by omega) hq
def FX12k_keeps (i_keptMany : Nat) (f_was : Nat → Int32) (f_kept : Nat → Int32) (x : Int32) : Int32 × Nat × (Nat → Int32) := (if (nI i_keptMany) = (10 : Int32) then (LX12k_keeps_11 i_keptMany f_was x (fun u4 => (LX12k_keeps_52 (i_keptMany - 1) f_was x (fun u6 => (x, (i_keptMany - 1) + 1, u6)) (273 - 0) 0 u4)) (2457 - 0) 0 f_kept) else (LX12k_keeps_52 i_keptMany f_was x (fun u2 => (x, i_keptMany + 1, u2)) (273 - 0) 0 f_kept))
set_option maxHeartbeats 4000000 in
set_option maxRecDepth 100000 in
theorem FX12k_keeps_ok (G : xG) {P R : xMem} {L : Nat} (hP : P.length = L) (i_keptMany : Nat) (i_taped : Nat) (i_faultKind : Int32) (i_faultPlace : Int32) (i_spot : Nat) (i_begin : Nat) (i_token : Int32) (i_value : Int32) (i_bad : Int32) (i_full : Nat) (i_bandRows : Int32) (i_bandFirsts : Int32) (i_outs : Nat) (f_state : Nat → Int32) (f_was : Nat → Int32) (f_kept : Nat → Int32) (f_tape : Nat → Int32) (f_order : Nat → Int32) (f_rest : Nat → Int32) (f_ways : Nat → Int32) (f_costs : Nat → Int32) (f_bandBest : Nat → Int32) (f_found : Nat → Int32) (f_drawn : Nat → Int32) (f_joined : Nat → Int32) (f_out : Nat → Int32) (bi_keptMany : i_keptMany ≤ 10) (bi_taped : i_taped ≤ 400) (bi_spot : i_spot ≤ 400) (bi_begin : i_begin ≤ 400) (bi_full : i_full ≤ 511) (bi_outs : i_outs ≤ 400) (hW : SO f_was) (hK : KO i_keptMany f_kept) (x : Int32) (M : xMem) (hM : M = (P ++ (MDL L i_keptMany i_taped i_faultKind i_faultPlace i_spot i_begin i_token i_value i_bad i_full i_bandRows i_bandFirsts i_outs f_state f_was f_kept f_tape f_order f_rest f_ways f_costs f_bandBest f_found f_drawn f_joined f_out ++ R))) (Q : Int32 × Nat × (Nat → Int32) → Prop) (hq : Q (FX12k_keeps i_keptMany f_was f_kept x)) : xC G mX12_keeps 0 0 0 [.ref L, .int x] M (fun v M2 => ∃ o : Int32 × Nat × (Nat → Int32), v = some (.int o.1) ∧ Q o ∧ KO o.2.1 o.2.2 ∧ o.2.1 ≤ 10 ∧ M2 = (P ++ (MDL L o.2.1 i_taped i_faultKind i_faultPlace i_spot i_begin i_token i_value i_bad i_full i_bandRows i_bandFirsts i_outs f_state f_was o.2.2 f_tape f_order f_rest f_ways f_costs f_bandBest f_found f_drawn f_joined f_out ++ R))) := by
  subst hM
  unfold FX12k_keeps at hq
  refine xC.of (by decide) (Nat.le_of_ble_eq_true rfl) ?_
  show xW _ _ _ _ 0 [(0, .ref L), (1, .int x)] [] _ 0 0
  refine xi_aload_n 0 dX12_keeps_0 rfl ?_
  refine xi_get (f := 3) dX12_keeps_1 (xpg0 hP rfl) rfl ok_9 (by decide) w_1011 rfl ?_
  refine xi_bipush (v := 10) dX12_keeps_4 (by decide) ?_
  refine xi_icmp_ne (tgt := 50) dX12_keeps_6 (by decide) (fun c1 => ?_) (fun c1 => ?_)
  · rw [if_neg c1] at hq
    have c1n : ¬ i_keptMany = 10 := fun e => c1 (congrArg nI e)
    refine xi_iconst (v := 0) dX12_keeps_50 (by decide) ?_
    refine xi_istore_n (lv' := [(2, .int 0), (0, .ref L), (1, .int x)]) dX12_keeps_51 (by decide) rfl ?_
    refine xi_sub (lv' := [(0, .ref L), (1, .int x), (2, .int 0)]) [1, 2, 0] rfl ?_
    refine LX12k_keeps_52_s G hP i_keptMany i_taped i_faultKind i_faultPlace i_spot i_begin i_token i_value i_bad i_full i_bandRows i_bandFirsts i_outs f_state f_was f_tape f_order f_rest f_ways f_costs f_bandBest f_found f_drawn f_joined f_out (by omega) (by omega) (by omega) (by omega) (by omega) (by omega) hW x (by omega) Q _ (fun u2 hi52 hq => ?_) (273 - 0) 0 f_kept (by refine ⟨?_, fun i hi => absurd hi (Nat.not_lt_zero _)⟩; first | exact KO_sh2 hi11 (by omega) | exact hK) rfl (by omega) hq
    refine xi_aload_n 0 dX12_keeps_86 rfl ?_
    refine xi_dup dX12_keeps_87 rfl ?_
    refine xi_get (f := 3) dX12_keeps_88 (xpg0 hP rfl) rfl ok_9 (by decide) w_1011 rfl ?_
    refine xi_iconst (v := 1) dX12_keeps_91 (by decide) ?_
    refine xi_iadd (v := (nI (i_keptMany + 1))) dX12_keeps_92 (nI_add i_keptMany 1) ?_
    refine xi_put (f := 3) (ty := .int) (M' := (P ++ (MDL L (i_keptMany + 1) i_taped i_faultKind i_faultPlace i_spot i_begin i_token i_value i_bad i_full i_bandRows i_bandFirsts i_outs f_state f_was u2 f_tape f_order f_rest f_ways f_costs f_bandBest f_found f_drawn f_joined f_out ++ R))) dX12_keeps_93 (xpg0 hP rfl) rfl ok_9 (by decide) w_1011 rfl pf_I (fun _ h => by cases h) rfl rfl (Nat.le_of_ble_eq_true rfl) (xps0 hP) ?_
    refine xi_iload_n 1 dX12_keeps_96 rfl ?_
    exact xi_iret dX12_keeps_97 rfl rfl (Nat.le_of_ble_eq_true rfl) (Nat.le_of_ble_eq_true rfl) ⟨_, rfl, hq, (KO_add hi52 hW), (by show (i_keptMany + 1) ≤ 10; omega), rfl⟩
  · rw [if_pos c1] at hq
    have c1n : i_keptMany = 10 := (nI_eq (a := i_keptMany) (b := 10) (by omega) (by omega)).mp c1
    refine xi_iconst (v := 0) dX12_keeps_9 (by decide) ?_
    refine xi_istore_n (lv' := [(2, .int 0), (0, .ref L), (1, .int x)]) dX12_keeps_10 (by decide) rfl ?_
    refine xi_sub (lv' := [(0, .ref L), (1, .int x), (2, .int 0)]) [1, 2, 0] rfl ?_
    refine LX12k_keeps_11_s G hP i_keptMany i_taped i_faultKind i_faultPlace i_spot i_begin i_token i_value i_bad i_full i_bandRows i_bandFirsts i_outs f_state f_was f_tape f_order f_rest f_ways f_costs f_bandBest f_found f_drawn f_joined f_out (by omega) (by omega) (by omega) (by omega) (by omega) (by omega) hW x Q _ (fun u4 hi11 hq => ?_) (2457 - 0) 0 f_kept (by first | exact KO_sh0 hK (by omega)) rfl (by omega) hq
    refine xi_aload_n 0 dX12_keeps_40 rfl ?_
    refine xi_dup dX12_keeps_41 rfl ?_
    refine xi_get (f := 3) dX12_keeps_42 (xpg0 hP rfl) rfl ok_9 (by decide) w_1011 rfl ?_
    refine xi_iconst (v := 1) dX12_keeps_45 (by decide) ?_
    refine xi_isub (v := (nI (i_keptMany - 1))) dX12_keeps_46 (pk_sub (a := i_keptMany) (b := 1) (by omega)) ?_
    refine xi_put (f := 3) (ty := .int) (M' := (P ++ (MDL L (i_keptMany - 1) i_taped i_faultKind i_faultPlace i_spot i_begin i_token i_value i_bad i_full i_bandRows i_bandFirsts i_outs f_state f_was u4 f_tape f_order f_rest f_ways f_costs f_bandBest f_found f_drawn f_joined f_out ++ R))) dX12_keeps_47 (xpg0 hP rfl) rfl ok_9 (by decide) w_1011 rfl pf_I (fun _ h => by cases h) rfl rfl (Nat.le_of_ble_eq_true rfl) (xps0 hP) ?_
    refine xi_iconst (v := 0) dX12_keeps_50 (by decide) ?_
    refine xi_istore_n (lv' := [(2, .int 0), (0, .ref L), (1, .int x)]) dX12_keeps_51 (by decide) rfl ?_
    refine xi_sub (lv' := [(0, .ref L), (1, .int x), (2, .int 0)]) [1, 2, 0] rfl ?_
    refine LX12k_keeps_52_s G hP (i_keptMany - 1) i_taped i_faultKind i_faultPlace i_spot i_begin i_token i_value i_bad i_full i_bandRows i_bandFirsts i_outs f_state f_was f_tape f_order f_rest f_ways f_costs f_bandBest f_found f_drawn f_joined f_out (by omega) (by omega) (by omega) (by omega) (by omega) (by omega) hW x (by omega) Q _ (fun u6 hi52 hq => ?_) (273 - 0) 0 u4 (by refine ⟨?_, fun i hi => absurd hi (Nat.not_lt_zero _)⟩; first | exact KO_sh2 hi11 (by omega) | exact hK) rfl (by omega) hq
    refine xi_aload_n 0 dX12_keeps_86 rfl ?_
    refine xi_dup dX12_keeps_87 rfl ?_
    refine xi_get (f := 3) dX12_keeps_88 (xpg0 hP rfl) rfl ok_9 (by decide) w_1011 rfl ?_
    refine xi_iconst (v := 1) dX12_keeps_91 (by decide) ?_
    refine xi_iadd (v := (nI ((i_keptMany - 1) + 1))) dX12_keeps_92 (nI_add (i_keptMany - 1) 1) ?_
    refine xi_put (f := 3) (ty := .int) (M' := (P ++ (MDL L ((i_keptMany - 1) + 1) i_taped i_faultKind i_faultPlace i_spot i_begin i_token i_value i_bad i_full i_bandRows i_bandFirsts i_outs f_state f_was u6 f_tape f_order f_rest f_ways f_costs f_bandBest f_found f_drawn f_joined f_out ++ R))) dX12_keeps_93 (xpg0 hP rfl) rfl ok_9 (by decide) w_1011 rfl pf_I (fun _ h => by cases h) rfl rfl (Nat.le_of_ble_eq_true rfl) (xps0 hP) ?_
    refine xi_iload_n 1 dX12_keeps_96 rfl ?_
    exact xi_iret dX12_keeps_97 rfl rfl (Nat.le_of_ble_eq_true rfl) (Nat.le_of_ble_eq_true rfl) ⟨_, rfl, hq, (KO_add hi52 hW), (by show ((i_keptMany - 1) + 1) ≤ 10; omega), rfl⟩
def LX12k_done_2 (i_keptMany : Nat) (f_state : Nat → Int32) (f_was : Nat → Int32) (f_kept : Nat → Int32) (w1 : Int32) (K : Int32 × Nat × (Nat → Int32)) : Nat → Nat → Int32 × Nat × (Nat → Int32)
  | 0, _ => K
  | k + 1, j => (if (f_was j) = (f_state j) then (LX12k_done_2 i_keptMany f_state f_was f_kept w1 K k (j + 1)) else (((FX12k_keeps i_keptMany f_was f_kept w1).1), (FX12k_keeps i_keptMany f_was f_kept w1).2.1, (FX12k_keeps i_keptMany f_was f_kept w1).2.2))
set_option maxHeartbeats 4000000 in
set_option maxRecDepth 100000 in
theorem LX12k_done_2_s (G : xG) {P R : xMem} {L : Nat} (hP : P.length = L) (i_keptMany : Nat) (i_taped : Nat) (i_faultKind : Int32) (i_faultPlace : Int32) (i_spot : Nat) (i_begin : Nat) (i_token : Int32) (i_value : Int32) (i_bad : Int32) (i_full : Nat) (i_bandRows : Int32) (i_bandFirsts : Int32) (i_outs : Nat) (f_state : Nat → Int32) (f_was : Nat → Int32) (f_kept : Nat → Int32) (f_tape : Nat → Int32) (f_order : Nat → Int32) (f_rest : Nat → Int32) (f_ways : Nat → Int32) (f_costs : Nat → Int32) (f_bandBest : Nat → Int32) (f_found : Nat → Int32) (f_drawn : Nat → Int32) (f_joined : Nat → Int32) (f_out : Nat → Int32) (bi_keptMany : i_keptMany ≤ 10) (bi_taped : i_taped ≤ 400) (bi_spot : i_spot ≤ 400) (bi_begin : i_begin ≤ 400) (bi_full : i_full ≤ 511) (bi_outs : i_outs ≤ 400) (hW : SO f_was) (hK : KO i_keptMany f_kept) (w1 : Int32) (Q : Int32 × Nat × (Nat → Int32) → Prop) (K : Int32 × Nat × (Nat → Int32)) (HE : Q (K) → xW G mX12_done (xrm 1 0 0) (xQ G (fun v M2 => ∃ o : Int32 × Nat × (Nat → Int32), v = some (.int o.1) ∧ Q o ∧ KO o.2.1 o.2.2 ∧ o.2.1 ≤ 10 ∧ M2 = (P ++ (MDL L o.2.1 i_taped i_faultKind i_faultPlace i_spot i_begin i_token i_value i_bad i_full i_bandRows i_bandFirsts i_outs f_state f_was o.2.2 f_tape f_order f_rest f_ways f_costs f_bandBest f_found f_drawn f_joined f_out ++ R))) 0 0) 36 [(1, .int w1)] [] (P ++ (MDL L i_keptMany i_taped i_faultKind i_faultPlace i_spot i_begin i_token i_value i_bad i_full i_bandRows i_bandFirsts i_outs f_state f_was f_kept f_tape f_order f_rest f_ways f_costs f_bandBest f_found f_drawn f_joined f_out ++ R)) 0 0) :
    ∀ (k j : Nat), 273 - j = k → j < 100000 → Q (LX12k_done_2 i_keptMany f_state f_was f_kept w1 K k j) → xW G mX12_done (xrm 1 0 0) (xQ G (fun v M2 => ∃ o : Int32 × Nat × (Nat → Int32), v = some (.int o.1) ∧ Q o ∧ KO o.2.1 o.2.2 ∧ o.2.1 ≤ 10 ∧ M2 = (P ++ (MDL L o.2.1 i_taped i_faultKind i_faultPlace i_spot i_begin i_token i_value i_bad i_full i_bandRows i_bandFirsts i_outs f_state f_was o.2.2 f_tape f_order f_rest f_ways f_costs f_bandBest f_found f_drawn f_joined f_out ++ R))) 0 0) 2 [(0, .ref L), (1, .int w1), (2, .int (nI j))] [] (P ++ (MDL L i_keptMany i_taped i_faultKind i_faultPlace i_spot i_begin i_token i_value i_bad i_full i_bandRows i_bandFirsts i_outs f_state f_was f_kept f_tape f_order f_rest f_ways f_costs f_bandBest f_found f_drawn f_joined f_out ++ R)) 0 0 := by
  intro k
  induction k with
  | zero =>
    intro j hj hj2 hq
    rw [LX12k_done_2] at hq
    refine xi_iload_n 2 dX12_done_2 rfl ?_
    refine xi_sipush (v := 273) dX12_done_3 (by decide) ?_
    refine xi_icmp_ge_t (tgt := 36) dX12_done_6 (by decide) (nI_le (a := 273) (b := j) (by omega) (by omega)) ?_
    refine xi_sub (lv' := [(1, .int w1)]) [1] rfl ?_
    exact HE hq
  | succ k ih =>
    intro j hj hj2 hq
    rw [LX12k_done_2] at hq
    refine xi_iload_n 2 dX12_done_2 rfl ?_
    refine xi_sipush (v := 273) dX12_done_3 (by decide) ?_
    refine xi_icmp_ge_f (tgt := 36) dX12_done_6 (by decide) (nI_ge (a := j) (b := 273) (by omega) (by omega)) ?_
    refine xi_aload_n 0 dX12_done_9 rfl ?_
    refine xi_get (f := 1) dX12_done_10 (xpg0 hP rfl) rfl ok_9 (by decide) w_1009 rfl ?_
    refine xi_iload_n 2 dX12_done_13 rfl ?_
    refine xi_iaload (v := (f_was j)) dX12_done_14 (xpg hP rfl) (vp_in_nI (by omega) (by decide)) (by rw [nI_clamp (by omega)]) ?_
    refine xi_aload_n 0 dX12_done_15 rfl ?_
    refine xi_get (f := 0) dX12_done_16 (xpg0 hP rfl) rfl ok_9 (by decide) w_1008 rfl ?_
    refine xi_iload_n 2 dX12_done_19 rfl ?_
    refine xi_iaload (v := (f_state j)) dX12_done_20 (xpg hP rfl) (vp_in_nI (by omega) (by decide)) (by rw [nI_clamp (by omega)]) ?_
    refine xi_icmp_eq (tgt := 30) dX12_done_21 (by decide) (fun c1 => ?_) (fun c1 => ?_)
    · rw [if_pos c1] at hq
      refine xi_iinc (v := (nI (j + 1))) (lv' := [(2, .int (nI (j + 1))), (0, .ref L), (1, .int w1)]) 2 dX12_done_30 rfl (nI_1 _) (by decide) rfl ?_
      refine xi_goto (tgt := 2) dX12_done_33 (by decide) ?_
      refine xi_sub (lv' := [(0, .ref L), (1, .int w1), (2, .int (nI (j + 1)))]) [1, 2, 0] rfl ?_
      exact ih (j + 1) (by omega) (by omega) hq
    · rw [if_neg c1] at hq
      refine xi_aload_n 0 dX12_done_24 rfl ?_
      refine xi_iload_n 1 dX12_done_25 rfl ?_
      refine xi_callV (as := [.int w1]) (rest := []) dX12_done_26 (FX12k_keeps_ok G hP i_keptMany i_taped i_faultKind i_faultPlace i_spot i_begin i_token i_value i_bad i_full i_bandRows i_bandFirsts i_outs f_state f_was f_kept f_tape f_order f_rest f_ways f_costs f_bandBest f_found f_drawn f_joined f_out (by omega) (by omega) (by omega) (by omega) (by omega) (by omega) hW hK w1 _ rfl (fun r => r = FX12k_keeps i_keptMany f_was f_kept w1) rfl) mkX12_keeps w_1120 ws_39 w_1118 (xpg0 hP rfl) rfl rfl rfl rfl (Nat.le_of_ble_eq_true rfl) (Nat.le_of_ble_eq_true rfl) (Nat.le_of_ble_eq_true rfl) (Nat.le_of_ble_eq_true rfl) (Nat.le_of_ble_eq_true rfl) ?_
      intro v M2 hz
      obtain ⟨_, rfl, rfl, hk2, hn3, rfl⟩ := hz
      show xW _ _ _ _ 29 _ [.int ((FX12k_keeps i_keptMany f_was f_kept w1).1)] (P ++ (MDL L ((FX12k_keeps i_keptMany f_was f_kept w1).2.1) i_taped i_faultKind i_faultPlace i_spot i_begin i_token i_value i_bad i_full i_bandRows i_bandFirsts i_outs f_state f_was ((FX12k_keeps i_keptMany f_was f_kept w1).2.2) f_tape f_order f_rest f_ways f_costs f_bandBest f_found f_drawn f_joined f_out ++ R)) _ _
      exact xi_iret dX12_done_29 rfl rfl (Nat.le_of_ble_eq_true rfl) (Nat.le_of_ble_eq_true rfl) ⟨_, rfl, hq, hk2, (by show ((FX12k_keeps i_keptMany f_was f_kept w1).2.1) ≤ 10; omega), rfl⟩
def FX12k_done (i_keptMany : Nat) (f_state : Nat → Int32) (f_was : Nat → Int32) (f_kept : Nat → Int32) (x : Int32) : Int32 × Nat × (Nat → Int32) := (LX12k_done_2 i_keptMany f_state f_was f_kept x ((x, i_keptMany, f_kept)) (273 - 0) 0)
set_option maxHeartbeats 4000000 in
set_option maxRecDepth 100000 in
theorem FX12k_done_ok (G : xG) {P R : xMem} {L : Nat} (hP : P.length = L) (i_keptMany : Nat) (i_taped : Nat) (i_faultKind : Int32) (i_faultPlace : Int32) (i_spot : Nat) (i_begin : Nat) (i_token : Int32) (i_value : Int32) (i_bad : Int32) (i_full : Nat) (i_bandRows : Int32) (i_bandFirsts : Int32) (i_outs : Nat) (f_state : Nat → Int32) (f_was : Nat → Int32) (f_kept : Nat → Int32) (f_tape : Nat → Int32) (f_order : Nat → Int32) (f_rest : Nat → Int32) (f_ways : Nat → Int32) (f_costs : Nat → Int32) (f_bandBest : Nat → Int32) (f_found : Nat → Int32) (f_drawn : Nat → Int32) (f_joined : Nat → Int32) (f_out : Nat → Int32) (bi_keptMany : i_keptMany ≤ 10) (bi_taped : i_taped ≤ 400) (bi_spot : i_spot ≤ 400) (bi_begin : i_begin ≤ 400) (bi_full : i_full ≤ 511) (bi_outs : i_outs ≤ 400) (hW : SO f_was) (hK : KO i_keptMany f_kept) (x : Int32) (M : xMem) (hM : M = (P ++ (MDL L i_keptMany i_taped i_faultKind i_faultPlace i_spot i_begin i_token i_value i_bad i_full i_bandRows i_bandFirsts i_outs f_state f_was f_kept f_tape f_order f_rest f_ways f_costs f_bandBest f_found f_drawn f_joined f_out ++ R))) (Q : Int32 × Nat × (Nat → Int32) → Prop) (hq : Q (FX12k_done i_keptMany f_state f_was f_kept x)) : xC G mX12_done 1 0 0 [.ref L, .int x] M (fun v M2 => ∃ o : Int32 × Nat × (Nat → Int32), v = some (.int o.1) ∧ Q o ∧ KO o.2.1 o.2.2 ∧ o.2.1 ≤ 10 ∧ M2 = (P ++ (MDL L o.2.1 i_taped i_faultKind i_faultPlace i_spot i_begin i_token i_value i_bad i_full i_bandRows i_bandFirsts i_outs f_state f_was o.2.2 f_tape f_order f_rest f_ways f_costs f_bandBest f_found f_drawn f_joined f_out ++ R))) := by
  subst hM
  unfold FX12k_done at hq
  refine xC.of (by decide) (Nat.le_of_ble_eq_true rfl) ?_
  show xW _ _ _ _ 0 [(0, .ref L), (1, .int x)] [] _ 0 0
  refine xi_iconst (v := 0) dX12_done_0 (by decide) ?_
  refine xi_istore_n (lv' := [(2, .int 0), (0, .ref L), (1, .int x)]) dX12_done_1 (by decide) rfl ?_
  refine xi_sub (lv' := [(0, .ref L), (1, .int x), (2, .int 0)]) [1, 2, 0] rfl ?_
  refine LX12k_done_2_s G hP i_keptMany i_taped i_faultKind i_faultPlace i_spot i_begin i_token i_value i_bad i_full i_bandRows i_bandFirsts i_outs f_state f_was f_kept f_tape f_order f_rest f_ways f_costs f_bandBest f_found f_drawn f_joined f_out (by omega) (by omega) (by omega) (by omega) (by omega) (by omega) hW hK x Q _ (fun hq => ?_) (273 - 0) 0 rfl (by omega) hq
  refine xi_iload_n 0 dX12_done_36 rfl ?_
  exact xi_iret dX12_done_37 rfl rfl (Nat.le_of_ble_eq_true rfl) (Nat.le_of_ble_eq_true rfl) ⟨_, rfl, hq, hK, (by show i_keptMany ≤ 10; omega), rfl⟩
def LX12_undo_21 (i_keptMany : Nat) (f_kept : Nat → Int32) (K : (Nat → Int32) → Int32 × Nat × (Nat → Int32)) : Nat → Nat → (Nat → Int32) → Int32 × Nat × (Nat → Int32)
  | 0, _, f_state => K f_state
  | k + 1, j, f_state => (LX12_undo_21 i_keptMany f_kept K k (j + 1) (upd f_state j ((f_kept ((273 * i_keptMany) + j)))))
set_option maxHeartbeats 4000000 in
set_option maxRecDepth 100000 in
theorem LX12_undo_21_s (G : xG) {P R : xMem} {L : Nat} (hP : P.length = L) (i_keptMany : Nat) (i_taped : Nat) (i_faultKind : Int32) (i_faultPlace : Int32) (i_spot : Nat) (i_begin : Nat) (i_token : Int32) (i_value : Int32) (i_bad : Int32) (i_full : Nat) (i_bandRows : Int32) (i_bandFirsts : Int32) (i_outs : Nat) (f_was : Nat → Int32) (f_kept : Nat → Int32) (f_tape : Nat → Int32) (f_order : Nat → Int32) (f_rest : Nat → Int32) (f_ways : Nat → Int32) (f_costs : Nat → Int32) (f_bandBest : Nat → Int32) (f_found : Nat → Int32) (f_drawn : Nat → Int32) (f_joined : Nat → Int32) (f_out : Nat → Int32) (bi_keptMany : i_keptMany ≤ 10) (bi_taped : i_taped ≤ 400) (bi_spot : i_spot ≤ 400) (bi_begin : i_begin ≤ 400) (bi_full : i_full ≤ 511) (bi_outs : i_outs ≤ 400) (hK : KO i_keptMany f_kept) (hx : i_keptMany < 10) (Q : Int32 × Nat × (Nat → Int32) → Prop) (K : (Nat → Int32) → Int32 × Nat × (Nat → Int32)) (HE : ∀ (f_state : Nat → Int32) (hi : ∀ i, i < 273 → f_state i = f_kept (273 * i_keptMany + i)), Q (K f_state) → xW G mX12_undo (xrm 0 0 0) (xQ G (fun v M2 => ∃ o : Int32 × Nat × (Nat → Int32), v = some (.int o.1) ∧ Q o ∧ GO o.2.2 ∧ PE o.2.2 ∧ WB o.2.2 ∧ KO o.2.1 f_kept ∧ o.2.1 ≤ 10 ∧ M2 = (P ++ (MDL L o.2.1 i_taped i_faultKind i_faultPlace i_spot i_begin i_token i_value i_bad i_full i_bandRows i_bandFirsts i_outs o.2.2 f_was f_kept f_tape f_order f_rest f_ways f_costs f_bandBest f_found f_drawn f_joined f_out ++ R))) 0 0) 55 [(0, .ref L)] [] (P ++ (MDL L i_keptMany i_taped i_faultKind i_faultPlace i_spot i_begin i_token i_value i_bad i_full i_bandRows i_bandFirsts i_outs f_state f_was f_kept f_tape f_order f_rest f_ways f_costs f_bandBest f_found f_drawn f_joined f_out ++ R)) 0 0) :
    ∀ (k j : Nat) (f_state : Nat → Int32) (hi : ∀ i, i < j → f_state i = f_kept (273 * i_keptMany + i)), 273 - j = k → j < 100000 → Q (LX12_undo_21 i_keptMany f_kept K k j f_state) → xW G mX12_undo (xrm 0 0 0) (xQ G (fun v M2 => ∃ o : Int32 × Nat × (Nat → Int32), v = some (.int o.1) ∧ Q o ∧ GO o.2.2 ∧ PE o.2.2 ∧ WB o.2.2 ∧ KO o.2.1 f_kept ∧ o.2.1 ≤ 10 ∧ M2 = (P ++ (MDL L o.2.1 i_taped i_faultKind i_faultPlace i_spot i_begin i_token i_value i_bad i_full i_bandRows i_bandFirsts i_outs o.2.2 f_was f_kept f_tape f_order f_rest f_ways f_costs f_bandBest f_found f_drawn f_joined f_out ++ R))) 0 0) 21 [(0, .ref L), (1, .int (nI j))] [] (P ++ (MDL L i_keptMany i_taped i_faultKind i_faultPlace i_spot i_begin i_token i_value i_bad i_full i_bandRows i_bandFirsts i_outs f_state f_was f_kept f_tape f_order f_rest f_ways f_costs f_bandBest f_found f_drawn f_joined f_out ++ R)) 0 0 := by
  intro k
  induction k with
  | zero =>
    intro j f_state hi hj hj2 hq
    rw [LX12_undo_21] at hq
    refine xi_iload_n 1 dX12_undo_21 rfl ?_
    refine xi_sipush (v := 273) dX12_undo_22 (by decide) ?_
    refine xi_icmp_ge_t (tgt := 55) dX12_undo_25 (by decide) (nI_le (a := 273) (b := j) (by omega) (by omega)) ?_
    refine xi_sub (lv' := [(0, .ref L)]) [0] rfl ?_
    exact HE f_state (by first | exact cp_step (g := fun i => f_kept (273 * i_keptMany + i)) hi | exact fun i h_ => hi i (by omega)) hq
  | succ k ih =>
    intro j f_state hi hj hj2 hq
    rw [LX12_undo_21] at hq
    refine xi_iload_n 1 dX12_undo_21 rfl ?_
    refine xi_sipush (v := 273) dX12_undo_22 (by decide) ?_
    refine xi_icmp_ge_f (tgt := 55) dX12_undo_25 (by decide) (nI_ge (a := j) (b := 273) (by omega) (by omega)) ?_
    refine xi_aload_n 0 dX12_undo_28 rfl ?_
    refine xi_get (f := 0) dX12_undo_29 (xpg0 hP rfl) rfl ok_9 (by decide) w_1008 rfl ?_
    refine xi_iload_n 1 dX12_undo_32 rfl ?_
    refine xi_aload_n 0 dX12_undo_33 rfl ?_
    refine xi_get (f := 2) dX12_undo_34 (xpg0 hP rfl) rfl ok_9 (by decide) w_1010 rfl ?_
    refine xi_sipush (v := 273) dX12_undo_37 (by decide) ?_
    refine xi_aload_n 0 dX12_undo_40 rfl ?_
    refine xi_get (f := 3) dX12_undo_41 (xpg0 hP rfl) rfl ok_9 (by decide) w_1011 rfl ?_
    refine xi_imul (v := (nI (273 * i_keptMany))) dX12_undo_44 (pk_mul 273 i_keptMany) ?_
    refine xi_iload_n 1 dX12_undo_45 rfl ?_
    refine xi_iadd (v := (nI ((273 * i_keptMany) + j))) dX12_undo_46 (nI_add (273 * i_keptMany) j) ?_
    refine xi_iaload (v := (f_kept ((273 * i_keptMany) + j))) dX12_undo_47 (xpg hP rfl) (vp_in_nI (by omega) (by decide)) (by rw [nI_clamp (by omega)]) ?_
    refine xi_iastore (M' := (P ++ (MDL L i_keptMany i_taped i_faultKind i_faultPlace i_spot i_begin i_token i_value i_bad i_full i_bandRows i_bandFirsts i_outs (upd f_state j ((f_kept ((273 * i_keptMany) + j)))) f_was f_kept f_tape f_order f_rest f_ways f_costs f_bandBest f_found f_drawn f_joined f_out ++ R))) dX12_undo_48 (xpg hP rfl) (vp_in_nI (by omega) (by decide)) (by rw [nI_clamp (by omega)]; exact (xps hP)) ?_
    refine xi_iinc (v := (nI (j + 1))) (lv' := [(1, .int (nI (j + 1))), (0, .ref L)]) 1 dX12_undo_49 rfl (nI_1 _) (by decide) rfl ?_
    refine xi_goto (tgt := 21) dX12_undo_52 (by decide) ?_
    refine xi_sub (lv' := [(0, .ref L), (1, .int (nI (j + 1)))]) [1, 0] rfl ?_
    exact ih (j + 1) (upd f_state j ((f_kept ((273 * i_keptMany) + j)))) (by first | exact cp_step (g := fun i => f_kept (273 * i_keptMany + i)) hi | exact fun i h_ => hi i (by omega)) (by omega) (by omega) hq
def FX12_undo (i_keptMany : Nat) (f_state : Nat → Int32) (f_kept : Nat → Int32) : Int32 × Nat × (Nat → Int32) := (if (nI i_keptMany) = (0 : Int32) then ((-1 : Int32), i_keptMany, f_state) else (LX12_undo_21 (i_keptMany - 1) f_kept (fun u2 => ((nI (i_keptMany - 1)), i_keptMany - 1, u2)) (273 - 0) 0 f_state))
set_option maxHeartbeats 4000000 in
set_option maxRecDepth 100000 in
theorem FX12_undo_ok (G : xG) {P R : xMem} {L : Nat} (hP : P.length = L) (i_keptMany : Nat) (i_taped : Nat) (i_faultKind : Int32) (i_faultPlace : Int32) (i_spot : Nat) (i_begin : Nat) (i_token : Int32) (i_value : Int32) (i_bad : Int32) (i_full : Nat) (i_bandRows : Int32) (i_bandFirsts : Int32) (i_outs : Nat) (f_state : Nat → Int32) (f_was : Nat → Int32) (f_kept : Nat → Int32) (f_tape : Nat → Int32) (f_order : Nat → Int32) (f_rest : Nat → Int32) (f_ways : Nat → Int32) (f_costs : Nat → Int32) (f_bandBest : Nat → Int32) (f_found : Nat → Int32) (f_drawn : Nat → Int32) (f_joined : Nat → Int32) (f_out : Nat → Int32) (bi_keptMany : i_keptMany ≤ 10) (bi_taped : i_taped ≤ 400) (bi_spot : i_spot ≤ 400) (bi_begin : i_begin ≤ 400) (bi_full : i_full ≤ 511) (bi_outs : i_outs ≤ 400) (hG : GO f_state) (hE : PE f_state) (hT : WB f_state) (hK : KO i_keptMany f_kept) (M : xMem) (hM : M = (P ++ (MDL L i_keptMany i_taped i_faultKind i_faultPlace i_spot i_begin i_token i_value i_bad i_full i_bandRows i_bandFirsts i_outs f_state f_was f_kept f_tape f_order f_rest f_ways f_costs f_bandBest f_found f_drawn f_joined f_out ++ R))) (Q : Int32 × Nat × (Nat → Int32) → Prop) (hq : Q (FX12_undo i_keptMany f_state f_kept)) : xC G mX12_undo 0 0 0 [.ref L] M (fun v M2 => ∃ o : Int32 × Nat × (Nat → Int32), v = some (.int o.1) ∧ Q o ∧ GO o.2.2 ∧ PE o.2.2 ∧ WB o.2.2 ∧ KO o.2.1 f_kept ∧ o.2.1 ≤ 10 ∧ M2 = (P ++ (MDL L o.2.1 i_taped i_faultKind i_faultPlace i_spot i_begin i_token i_value i_bad i_full i_bandRows i_bandFirsts i_outs o.2.2 f_was f_kept f_tape f_order f_rest f_ways f_costs f_bandBest f_found f_drawn f_joined f_out ++ R))) := by
  subst hM
  unfold FX12_undo at hq
  refine xC.of (by decide) (Nat.le_of_ble_eq_true rfl) ?_
  show xW _ _ _ _ 0 [(0, .ref L)] [] _ 0 0
  refine xi_aload_n 0 dX12_undo_0 rfl ?_
  refine xi_get (f := 3) dX12_undo_1 (xpg0 hP rfl) rfl ok_9 (by decide) w_1011 rfl ?_
  refine xi_if_ne (tgt := 9) dX12_undo_4 (by decide) (fun c1 => ?_) (fun c1 => ?_)
  · rw [if_neg c1] at hq
    have c1n : ¬ i_keptMany = 0 := fun e => c1 (congrArg nI e)
    refine xi_aload_n 0 dX12_undo_9 rfl ?_
    refine xi_dup dX12_undo_10 rfl ?_
    refine xi_get (f := 3) dX12_undo_11 (xpg0 hP rfl) rfl ok_9 (by decide) w_1011 rfl ?_
    refine xi_iconst (v := 1) dX12_undo_14 (by decide) ?_
    refine xi_isub (v := (nI (i_keptMany - 1))) dX12_undo_15 (pk_sub (a := i_keptMany) (b := 1) (by omega)) ?_
    refine xi_put (f := 3) (ty := .int) (M' := (P ++ (MDL L (i_keptMany - 1) i_taped i_faultKind i_faultPlace i_spot i_begin i_token i_value i_bad i_full i_bandRows i_bandFirsts i_outs f_state f_was f_kept f_tape f_order f_rest f_ways f_costs f_bandBest f_found f_drawn f_joined f_out ++ R))) dX12_undo_16 (xpg0 hP rfl) rfl ok_9 (by decide) w_1011 rfl pf_I (fun _ h => by cases h) rfl rfl (Nat.le_of_ble_eq_true rfl) (xps0 hP) ?_
    refine xi_iconst (v := 0) dX12_undo_19 (by decide) ?_
    refine xi_istore_n (lv' := [(1, .int 0), (0, .ref L)]) dX12_undo_20 (by decide) rfl ?_
    refine xi_sub (lv' := [(0, .ref L), (1, .int 0)]) [1, 0] rfl ?_
    refine LX12_undo_21_s G hP (i_keptMany - 1) i_taped i_faultKind i_faultPlace i_spot i_begin i_token i_value i_bad i_full i_bandRows i_bandFirsts i_outs f_was f_kept f_tape f_order f_rest f_ways f_costs f_bandBest f_found f_drawn f_joined f_out (by omega) (by omega) (by omega) (by omega) (by omega) (by omega) (KO_le hK (by omega)) (by omega) Q _ (fun u2 hi21 hq => ?_) (273 - 0) 0 f_state (by exact fun i hi => absurd hi (Nat.not_lt_zero _)) rfl (by omega) hq
    refine xi_aload_n 0 dX12_undo_55 rfl ?_
    refine xi_get (f := 3) dX12_undo_56 (xpg0 hP rfl) rfl ok_9 (by decide) w_1011 rfl ?_
    exact xi_iret dX12_undo_59 rfl rfl (Nat.le_of_ble_eq_true rfl) (Nat.le_of_ble_eq_true rfl) ⟨_, rfl, hq, (SO_kept (m := i_keptMany - 1) hK (by omega) hi21).1, (SO_kept (m := i_keptMany - 1) hK (by omega) hi21).2.1, (SO_kept (m := i_keptMany - 1) hK (by omega) hi21).2.2, (KO_le (m := i_keptMany - 1) hK (by omega)), (by show (i_keptMany - 1) ≤ 10; omega), rfl⟩
  · rw [if_pos c1] at hq
    have c1n : i_keptMany = 0 := (nI_eq (a := i_keptMany) (b := 0) (by omega) (by omega)).mp c1
    refine xi_iconst (v := (-1)) dX12_undo_7 (by decide) ?_
    exact xi_iret dX12_undo_8 rfl rfl (Nat.le_of_ble_eq_true rfl) (Nat.le_of_ble_eq_true rfl) ⟨_, rfl, hq, hG, hE, hT, hK, (by show i_keptMany ≤ 10; omega), rfl⟩
def LX12_empties_2 (n1 : Nat) (K : (Nat → Int32) → Int32 × (Nat → Int32)) : Nat → Nat → (Nat → Int32) → Int32 × (Nat → Int32)
  | 0, _, f_state => K f_state
  | k + 1, j, f_state => (LX12_empties_2 n1 K k (j + 1) (upd f_state ((91 * n1) + j) ((0 : Int32))))
set_option maxHeartbeats 4000000 in
set_option maxRecDepth 100000 in
theorem LX12_empties_2_s (G : xG) {P R : xMem} {L : Nat} (hP : P.length = L) (i_keptMany : Nat) (i_taped : Nat) (i_faultKind : Int32) (i_faultPlace : Int32) (i_spot : Nat) (i_begin : Nat) (i_token : Int32) (i_value : Int32) (i_bad : Int32) (i_full : Nat) (i_bandRows : Int32) (i_bandFirsts : Int32) (i_outs : Nat) (f_was : Nat → Int32) (f_kept : Nat → Int32) (f_tape : Nat → Int32) (f_order : Nat → Int32) (f_rest : Nat → Int32) (f_ways : Nat → Int32) (f_costs : Nat → Int32) (f_bandBest : Nat → Int32) (f_found : Nat → Int32) (f_drawn : Nat → Int32) (f_joined : Nat → Int32) (f_out : Nat → Int32) (bi_keptMany : i_keptMany ≤ 10) (bi_taped : i_taped ≤ 400) (bi_spot : i_spot ≤ 400) (bi_begin : i_begin ≤ 400) (bi_full : i_full ≤ 511) (bi_outs : i_outs ≤ 400) (n1 : Nat) (bn1 : n1 < 3) (Q : Int32 × (Nat → Int32) → Prop) (K : (Nat → Int32) → Int32 × (Nat → Int32)) (HE : ∀ (f_state : Nat → Int32) (hi : SX n1 f_state ∧ ∀ i, i < 91 → f_state (91 * n1 + i) = 0), Q (K f_state) → xW G mX12_empties (xrm 0 0 0) (xQ G (fun v M2 => ∃ o : Int32 × (Nat → Int32), v = none ∧ Q o ∧ GO o.2 ∧ PE o.2 ∧ WB o.2 ∧ M2 = (P ++ (MDL L i_keptMany i_taped i_faultKind i_faultPlace i_spot i_begin i_token i_value i_bad i_full i_bandRows i_bandFirsts i_outs o.2 f_was f_kept f_tape f_order f_rest f_ways f_costs f_bandBest f_found f_drawn f_joined f_out ++ R))) 0 0) 26 [] [] (P ++ (MDL L i_keptMany i_taped i_faultKind i_faultPlace i_spot i_begin i_token i_value i_bad i_full i_bandRows i_bandFirsts i_outs f_state f_was f_kept f_tape f_order f_rest f_ways f_costs f_bandBest f_found f_drawn f_joined f_out ++ R)) 0 0) :
    ∀ (k j : Nat) (f_state : Nat → Int32) (hi : SX n1 f_state ∧ ∀ i, i < j → f_state (91 * n1 + i) = 0), 91 - j = k → j < 100000 → Q (LX12_empties_2 n1 K k j f_state) → xW G mX12_empties (xrm 0 0 0) (xQ G (fun v M2 => ∃ o : Int32 × (Nat → Int32), v = none ∧ Q o ∧ GO o.2 ∧ PE o.2 ∧ WB o.2 ∧ M2 = (P ++ (MDL L i_keptMany i_taped i_faultKind i_faultPlace i_spot i_begin i_token i_value i_bad i_full i_bandRows i_bandFirsts i_outs o.2 f_was f_kept f_tape f_order f_rest f_ways f_costs f_bandBest f_found f_drawn f_joined f_out ++ R))) 0 0) 2 [(0, .ref L), (1, .int (nI n1)), (2, .int (nI j))] [] (P ++ (MDL L i_keptMany i_taped i_faultKind i_faultPlace i_spot i_begin i_token i_value i_bad i_full i_bandRows i_bandFirsts i_outs f_state f_was f_kept f_tape f_order f_rest f_ways f_costs f_bandBest f_found f_drawn f_joined f_out ++ R)) 0 0 := by
  intro k
  induction k with
  | zero =>
    intro j f_state hi hj hj2 hq
    rw [LX12_empties_2] at hq
    refine xi_iload_n 2 dX12_empties_2 rfl ?_
    refine xi_bipush (v := 91) dX12_empties_3 (by decide) ?_
    refine xi_icmp_ge_t (tgt := 26) dX12_empties_5 (by decide) (nI_le (a := 91) (b := j) (by omega) (by omega)) ?_
    refine xi_sub (lv' := []) [] rfl ?_
    exact HE f_state (by first | exact EM_step (by omega) hi | exact ⟨hi.1, fun i h_ => hi.2 i (by omega)⟩) hq
  | succ k ih =>
    intro j f_state hi hj hj2 hq
    rw [LX12_empties_2] at hq
    refine xi_iload_n 2 dX12_empties_2 rfl ?_
    refine xi_bipush (v := 91) dX12_empties_3 (by decide) ?_
    refine xi_icmp_ge_f (tgt := 26) dX12_empties_5 (by decide) (nI_ge (a := j) (b := 91) (by omega) (by omega)) ?_
    refine xi_aload_n 0 dX12_empties_8 rfl ?_
    refine xi_get (f := 0) dX12_empties_9 (xpg0 hP rfl) rfl ok_9 (by decide) w_1008 rfl ?_
    refine xi_bipush (v := 91) dX12_empties_12 (by decide) ?_
    refine xi_iload_n 1 dX12_empties_14 rfl ?_
    refine xi_imul (v := (nI (91 * n1))) dX12_empties_15 (pk_mul 91 n1) ?_
    refine xi_iload_n 2 dX12_empties_16 rfl ?_
    refine xi_iadd (v := (nI ((91 * n1) + j))) dX12_empties_17 (nI_add (91 * n1) j) ?_
    refine xi_iconst (v := 0) dX12_empties_18 (by decide) ?_
    refine xi_iastore (M' := (P ++ (MDL L i_keptMany i_taped i_faultKind i_faultPlace i_spot i_begin i_token i_value i_bad i_full i_bandRows i_bandFirsts i_outs (upd f_state ((91 * n1) + j) ((0 : Int32))) f_was f_kept f_tape f_order f_rest f_ways f_costs f_bandBest f_found f_drawn f_joined f_out ++ R))) dX12_empties_19 (xpg hP rfl) (vp_in_nI (by omega) (by decide)) (by rw [nI_clamp (by omega)]; exact (xps hP)) ?_
    refine xi_iinc (v := (nI (j + 1))) (lv' := [(2, .int (nI (j + 1))), (0, .ref L), (1, .int (nI n1))]) 2 dX12_empties_20 rfl (nI_1 _) (by decide) rfl ?_
    refine xi_goto (tgt := 2) dX12_empties_23 (by decide) ?_
    refine xi_sub (lv' := [(0, .ref L), (1, .int (nI n1)), (2, .int (nI (j + 1)))]) [1, 2, 0] rfl ?_
    exact ih (j + 1) (upd f_state ((91 * n1) + j) ((0 : Int32))) (by first | exact EM_step (by omega) hi | exact ⟨hi.1, fun i h_ => hi.2 i (by omega)⟩) (by omega) (by omega) hq
def FX12_empties (f_state : Nat → Int32) (z : Nat) : Int32 × (Nat → Int32) := (LX12_empties_2 z (fun u1 => (0, u1)) (91 - 0) 0 f_state)
set_option maxHeartbeats 4000000 in
set_option maxRecDepth 100000 in
theorem FX12_empties_ok (G : xG) {P R : xMem} {L : Nat} (hP : P.length = L) (i_keptMany : Nat) (i_taped : Nat) (i_faultKind : Int32) (i_faultPlace : Int32) (i_spot : Nat) (i_begin : Nat) (i_token : Int32) (i_value : Int32) (i_bad : Int32) (i_full : Nat) (i_bandRows : Int32) (i_bandFirsts : Int32) (i_outs : Nat) (f_state : Nat → Int32) (f_was : Nat → Int32) (f_kept : Nat → Int32) (f_tape : Nat → Int32) (f_order : Nat → Int32) (f_rest : Nat → Int32) (f_ways : Nat → Int32) (f_costs : Nat → Int32) (f_bandBest : Nat → Int32) (f_found : Nat → Int32) (f_drawn : Nat → Int32) (f_joined : Nat → Int32) (f_out : Nat → Int32) (bi_keptMany : i_keptMany ≤ 10) (bi_taped : i_taped ≤ 400) (bi_spot : i_spot ≤ 400) (bi_begin : i_begin ≤ 400) (bi_full : i_full ≤ 511) (bi_outs : i_outs ≤ 400) (hG : GO f_state) (hE : PE f_state) (hT : WB f_state) (z : Nat) (bz : z < 3) (M : xMem) (hM : M = (P ++ (MDL L i_keptMany i_taped i_faultKind i_faultPlace i_spot i_begin i_token i_value i_bad i_full i_bandRows i_bandFirsts i_outs f_state f_was f_kept f_tape f_order f_rest f_ways f_costs f_bandBest f_found f_drawn f_joined f_out ++ R))) (Q : Int32 × (Nat → Int32) → Prop) (hq : Q (FX12_empties f_state z)) : xC G mX12_empties 0 0 0 [.ref L, .int (nI z)] M (fun v M2 => ∃ o : Int32 × (Nat → Int32), v = none ∧ Q o ∧ GO o.2 ∧ PE o.2 ∧ WB o.2 ∧ M2 = (P ++ (MDL L i_keptMany i_taped i_faultKind i_faultPlace i_spot i_begin i_token i_value i_bad i_full i_bandRows i_bandFirsts i_outs o.2 f_was f_kept f_tape f_order f_rest f_ways f_costs f_bandBest f_found f_drawn f_joined f_out ++ R))) := by
  subst hM
  unfold FX12_empties at hq
  refine xC.of (by decide) (Nat.le_of_ble_eq_true rfl) ?_
  show xW _ _ _ _ 0 [(0, .ref L), (1, .int (nI z))] [] _ 0 0
  refine xi_iconst (v := 0) dX12_empties_0 (by decide) ?_
  refine xi_istore_n (lv' := [(2, .int 0), (0, .ref L), (1, .int (nI z))]) dX12_empties_1 (by decide) rfl ?_
  refine xi_sub (lv' := [(0, .ref L), (1, .int (nI z)), (2, .int 0)]) [1, 2, 0] rfl ?_
  refine LX12_empties_2_s G hP i_keptMany i_taped i_faultKind i_faultPlace i_spot i_begin i_token i_value i_bad i_full i_bandRows i_bandFirsts i_outs f_was f_kept f_tape f_order f_rest f_ways f_costs f_bandBest f_found f_drawn f_joined f_out (by omega) (by omega) (by omega) (by omega) (by omega) (by omega) z (by omega) Q _ (fun u1 hi2 hq => ?_) (91 - 0) 0 f_state (by exact ⟨SX_of hG hE hT, fun i hi => absurd hi (Nat.not_lt_zero _)⟩) rfl (by omega) hq
  exact xi_vret dX12_empties_26 rfl (Nat.le_of_ble_eq_true rfl) (Nat.le_of_ble_eq_true rfl) ⟨_, rfl, hq, (EM_SO hi2).1, (EM_SO hi2).2.1, (EM_SO hi2).2.2, rfl⟩
def FX12_drops (i_keptMany : Nat) (f_state : Nat → Int32) (f_was : Nat → Int32) (f_kept : Nat → Int32) (x : Int32) : Int32 × (Nat → Int32) × (Nat → Int32) × Nat × (Nat → Int32) := (if (FX12_isSlot x) = (0 : Int32) then ((-2 : Int32), f_state, f_was, i_keptMany, f_kept) else (if (FX12_isNet f_state ((nI x.toNatClampNeg))) = (0 : Int32) then ((0 : Int32), f_state, f_was, i_keptMany, f_kept) else (((FX12k_keeps i_keptMany ((FX12k_remembers f_state f_was).2) f_kept ((1 : Int32))).1), (FX12_empties f_state x.toNatClampNeg).2, (FX12k_remembers f_state f_was).2, (FX12k_keeps i_keptMany ((FX12k_remembers f_state f_was).2) f_kept ((1 : Int32))).2.1, (FX12k_keeps i_keptMany ((FX12k_remembers f_state f_was).2) f_kept ((1 : Int32))).2.2)))
set_option maxHeartbeats 4000000 in
set_option maxRecDepth 100000 in
theorem FX12_drops_ok (G : xG) {P R : xMem} {L : Nat} (hP : P.length = L) (i_keptMany : Nat) (i_taped : Nat) (i_faultKind : Int32) (i_faultPlace : Int32) (i_spot : Nat) (i_begin : Nat) (i_token : Int32) (i_value : Int32) (i_bad : Int32) (i_full : Nat) (i_bandRows : Int32) (i_bandFirsts : Int32) (i_outs : Nat) (f_state : Nat → Int32) (f_was : Nat → Int32) (f_kept : Nat → Int32) (f_tape : Nat → Int32) (f_order : Nat → Int32) (f_rest : Nat → Int32) (f_ways : Nat → Int32) (f_costs : Nat → Int32) (f_bandBest : Nat → Int32) (f_found : Nat → Int32) (f_drawn : Nat → Int32) (f_joined : Nat → Int32) (f_out : Nat → Int32) (bi_keptMany : i_keptMany ≤ 10) (bi_taped : i_taped ≤ 400) (bi_spot : i_spot ≤ 400) (bi_begin : i_begin ≤ 400) (bi_full : i_full ≤ 511) (bi_outs : i_outs ≤ 400) (hG : GO f_state) (hE : PE f_state) (hT : WB f_state) (hW : SO f_was) (hK : KO i_keptMany f_kept) (x : Int32) (M : xMem) (hM : M = (P ++ (MDL L i_keptMany i_taped i_faultKind i_faultPlace i_spot i_begin i_token i_value i_bad i_full i_bandRows i_bandFirsts i_outs f_state f_was f_kept f_tape f_order f_rest f_ways f_costs f_bandBest f_found f_drawn f_joined f_out ++ R))) (Q : Int32 × (Nat → Int32) × (Nat → Int32) × Nat × (Nat → Int32) → Prop) (hq : Q (FX12_drops i_keptMany f_state f_was f_kept x)) : xC G mX12_drops 3 0 0 [.ref L, .int x] M (fun v M2 => ∃ o : Int32 × (Nat → Int32) × (Nat → Int32) × Nat × (Nat → Int32), v = some (.int o.1) ∧ Q o ∧ GO o.2.1 ∧ PE o.2.1 ∧ WB o.2.1 ∧ SO o.2.2.1 ∧ KO o.2.2.2.1 o.2.2.2.2 ∧ o.2.2.2.1 ≤ 10 ∧ M2 = (P ++ (MDL L o.2.2.2.1 i_taped i_faultKind i_faultPlace i_spot i_begin i_token i_value i_bad i_full i_bandRows i_bandFirsts i_outs o.2.1 o.2.2.1 o.2.2.2.2 f_tape f_order f_rest f_ways f_costs f_bandBest f_found f_drawn f_joined f_out ++ R))) := by
  subst hM
  unfold FX12_drops at hq
  refine xC.of (by decide) (Nat.le_of_ble_eq_true rfl) ?_
  show xW _ _ _ _ 0 [(0, .ref L), (1, .int x)] [] _ 0 0
  refine xi_iload_n 1 dX12_drops_0 rfl ?_
  refine xi_callS (as := [.int x]) (rest := []) dX12_drops_1 (FX12_isSlot_ok G x (fun r => r = FX12_isSlot x) rfl) mkX12_isSlot w_1096 w_1095 rfl rfl (Nat.le_of_ble_eq_true rfl) (Nat.le_of_ble_eq_true rfl) (Nat.le_of_ble_eq_true rfl) (Nat.le_of_ble_eq_true rfl) (Nat.le_of_ble_eq_true rfl) ?_
  intro v M2 hz
  obtain ⟨_, rfl, rfl, hM2⟩ := hz
  rw [hM2]
  show xW _ _ _ _ 4 _ [.int (FX12_isSlot x)] (P ++ (MDL L i_keptMany i_taped i_faultKind i_faultPlace i_spot i_begin i_token i_value i_bad i_full i_bandRows i_bandFirsts i_outs f_state f_was f_kept f_tape f_order f_rest f_ways f_costs f_bandBest f_found f_drawn f_joined f_out ++ R)) _ _
  refine xi_if_ne (tgt := 10) dX12_drops_4 (by decide) (fun c1 => ?_) (fun c1 => ?_)
  · rw [if_neg c1] at hq
    obtain ⟨e2, e2b, e2h⟩ := slot_in c1
    have e2c : x.toNatClampNeg = e2 := by rw [e2h]; exact nI_clamp (by omega)
    try rw [e2c] at hq
    subst e2h
    refine xi_aload_n 0 dX12_drops_10 rfl ?_
    refine xi_iload_n 1 dX12_drops_11 rfl ?_
    refine xi_callV (as := [.int (nI e2)]) (rest := []) dX12_drops_12 (FX12_isNet_ok G hP i_keptMany i_taped i_faultKind i_faultPlace i_spot i_begin i_token i_value i_bad i_full i_bandRows i_bandFirsts i_outs f_state f_was f_kept f_tape f_order f_rest f_ways f_costs f_bandBest f_found f_drawn f_joined f_out (by omega) (by omega) (by omega) (by omega) (by omega) (by omega) hG ((nI e2)) _ rfl (fun r => r = FX12_isNet f_state ((nI e2))) rfl) mkX12_isNet w_1104 ws_35 w_1102 (xpg0 hP rfl) rfl rfl rfl rfl (Nat.le_of_ble_eq_true rfl) (Nat.le_of_ble_eq_true rfl) (Nat.le_of_ble_eq_true rfl) (Nat.le_of_ble_eq_true rfl) (Nat.le_of_ble_eq_true rfl) ?_
    intro v M2 hz
    obtain ⟨_, rfl, rfl, rfl⟩ := hz
    show xW _ _ _ _ 15 _ [.int (FX12_isNet f_state ((nI e2)))] (P ++ (MDL L i_keptMany i_taped i_faultKind i_faultPlace i_spot i_begin i_token i_value i_bad i_full i_bandRows i_bandFirsts i_outs f_state f_was f_kept f_tape f_order f_rest f_ways f_costs f_bandBest f_found f_drawn f_joined f_out ++ R)) _ _
    refine xi_if_ne (tgt := 20) dX12_drops_15 (by decide) (fun c3 => ?_) (fun c3 => ?_)
    · rw [if_neg c3] at hq
      refine xi_aload_n 0 dX12_drops_20 rfl ?_
      refine xi_callV (as := []) (rest := []) dX12_drops_21 (FX12k_remembers_ok G hP i_keptMany i_taped i_faultKind i_faultPlace i_spot i_begin i_token i_value i_bad i_full i_bandRows i_bandFirsts i_outs f_state f_was f_kept f_tape f_order f_rest f_ways f_costs f_bandBest f_found f_drawn f_joined f_out (by omega) (by omega) (by omega) (by omega) (by omega) (by omega) hG hE hT hW _ rfl (fun r => r = FX12k_remembers f_state f_was) rfl) mkX12_remembers w_1112 ws_37 w_1110 (xpg0 hP rfl) rfl rfl rfl rfl (Nat.le_of_ble_eq_true rfl) (Nat.le_of_ble_eq_true rfl) (Nat.le_of_ble_eq_true rfl) (Nat.le_of_ble_eq_true rfl) (Nat.le_of_ble_eq_true rfl) ?_
      intro v M2 hz
      obtain ⟨_, rfl, rfl, hk4, rfl⟩ := hz
      show xW _ _ _ _ 24 _ [] (P ++ (MDL L i_keptMany i_taped i_faultKind i_faultPlace i_spot i_begin i_token i_value i_bad i_full i_bandRows i_bandFirsts i_outs f_state ((FX12k_remembers f_state f_was).2) f_kept f_tape f_order f_rest f_ways f_costs f_bandBest f_found f_drawn f_joined f_out ++ R)) _ _
      refine xi_aload_n 0 dX12_drops_24 rfl ?_
      refine xi_iload_n 1 dX12_drops_25 rfl ?_
      refine xi_callV (as := [.int (nI e2)]) (rest := []) dX12_drops_26 (FX12_empties_ok G hP i_keptMany i_taped i_faultKind i_faultPlace i_spot i_begin i_token i_value i_bad i_full i_bandRows i_bandFirsts i_outs f_state ((FX12k_remembers f_state f_was).2) f_kept f_tape f_order f_rest f_ways f_costs f_bandBest f_found f_drawn f_joined f_out (by omega) (by omega) (by omega) (by omega) (by omega) (by omega) hG hE hT e2 (by omega) _ rfl (fun r => r = FX12_empties f_state e2) rfl) mkX12_empties w_1116 ws_38 w_1114 (xpg0 hP rfl) rfl rfl rfl rfl (Nat.le_of_ble_eq_true rfl) (Nat.le_of_ble_eq_true rfl) (Nat.le_of_ble_eq_true rfl) (Nat.le_of_ble_eq_true rfl) (Nat.le_of_ble_eq_true rfl) ?_
      intro v M2 hz
      obtain ⟨_, rfl, rfl, hk5, hk6, hk7, rfl⟩ := hz
      show xW _ _ _ _ 29 _ [] (P ++ (MDL L i_keptMany i_taped i_faultKind i_faultPlace i_spot i_begin i_token i_value i_bad i_full i_bandRows i_bandFirsts i_outs ((FX12_empties f_state e2).2) ((FX12k_remembers f_state f_was).2) f_kept f_tape f_order f_rest f_ways f_costs f_bandBest f_found f_drawn f_joined f_out ++ R)) _ _
      refine xi_aload_n 0 dX12_drops_29 rfl ?_
      refine xi_iconst (v := 1) dX12_drops_30 (by decide) ?_
      refine xi_callV (as := [.int 1]) (rest := []) dX12_drops_31 (FX12k_keeps_ok G hP i_keptMany i_taped i_faultKind i_faultPlace i_spot i_begin i_token i_value i_bad i_full i_bandRows i_bandFirsts i_outs ((FX12_empties f_state e2).2) ((FX12k_remembers f_state f_was).2) f_kept f_tape f_order f_rest f_ways f_costs f_bandBest f_found f_drawn f_joined f_out (by omega) (by omega) (by omega) (by omega) (by omega) (by omega) hk4 hK ((1 : Int32)) _ rfl (fun r => r = FX12k_keeps i_keptMany ((FX12k_remembers f_state f_was).2) f_kept ((1 : Int32))) rfl) mkX12_keeps w_1120 ws_39 w_1118 (xpg0 hP rfl) rfl rfl rfl rfl (Nat.le_of_ble_eq_true rfl) (Nat.le_of_ble_eq_true rfl) (Nat.le_of_ble_eq_true rfl) (Nat.le_of_ble_eq_true rfl) (Nat.le_of_ble_eq_true rfl) ?_
      intro v M2 hz
      obtain ⟨_, rfl, rfl, hk8, hn9, rfl⟩ := hz
      show xW _ _ _ _ 34 _ [.int ((FX12k_keeps i_keptMany ((FX12k_remembers f_state f_was).2) f_kept ((1 : Int32))).1)] (P ++ (MDL L ((FX12k_keeps i_keptMany ((FX12k_remembers f_state f_was).2) f_kept ((1 : Int32))).2.1) i_taped i_faultKind i_faultPlace i_spot i_begin i_token i_value i_bad i_full i_bandRows i_bandFirsts i_outs ((FX12_empties f_state e2).2) ((FX12k_remembers f_state f_was).2) ((FX12k_keeps i_keptMany ((FX12k_remembers f_state f_was).2) f_kept ((1 : Int32))).2.2) f_tape f_order f_rest f_ways f_costs f_bandBest f_found f_drawn f_joined f_out ++ R)) _ _
      exact xi_iret dX12_drops_34 rfl rfl (Nat.le_of_ble_eq_true rfl) (Nat.le_of_ble_eq_true rfl) ⟨_, rfl, hq, hk5, hk6, hk7, hk4, hk8, (by show ((FX12k_keeps i_keptMany ((FX12k_remembers f_state f_was).2) f_kept ((1 : Int32))).2.1) ≤ 10; omega), rfl⟩
    · rw [if_pos c3] at hq
      refine xi_iconst (v := 0) dX12_drops_18 (by decide) ?_
      exact xi_iret dX12_drops_19 rfl rfl (Nat.le_of_ble_eq_true rfl) (Nat.le_of_ble_eq_true rfl) ⟨_, rfl, hq, hG, hE, hT, hW, hK, (by show i_keptMany ≤ 10; omega), rfl⟩
  · rw [if_pos c1] at hq
    refine xi_bipush (v := (-2)) dX12_drops_7 (by decide) ?_
    exact xi_iret dX12_drops_9 rfl rfl (Nat.le_of_ble_eq_true rfl) (Nat.le_of_ble_eq_true rfl) ⟨_, rfl, hq, hG, hE, hT, hW, hK, (by show i_keptMany ≤ 10; omega), rfl⟩
theorem WB_o {g : Nat → Int32} (h : WB g) (z p : Nat) (v : Int32) (hz : z < 3) (hp : p < 9) : WB (upd g (((91 * z) + 82) + p) v) := by
  intro s hs k hk
  rw [upd_ne (by rcases (show z = 0 ∨ z = 1 ∨ z = 2 by omega) with rfl | rfl | rfl <;> omega)]
  exact h s hs k hk
theorem WB_w {g : Nat → Int32} (h : WB g) (z p q w : Nat) (hw : w ≤ 9) (hz : z < 3) (hp : p < 9) (hq : q < 9) : WB (upd g (((91 * z) + 1) + (9 * p) + q) (nI w)) := by
  intro s hs k hk
  by_cases e : 91 * s + 1 + k = ((91 * z) + 1) + (9 * p) + q
  · rw [e, upd_eq, nI_clamp (by omega)]
    exact ⟨rfl, hw⟩
  · rw [upd_ne e]
    exact h s hs k hk
theorem RO_eq {f : Nat → Int32} (h : RO f) {p : Nat} (hp : p < 9) : nI (f p).toNatClampNeg = f p := (h p hp).1.symm
theorem PM_ex {f : Nat → Int32} {n p q : Nat} (hR : RO f) (hn : n ≤ 9) (hp : p < n) (hq : q < n) (H : PM n f) : PM n (FX12k_exchanges f p q).2 := by
  show PM n (upd (upd f p (nI (f q).toNatClampNeg)) q (nI (f p).toNatClampNeg))
  rw [RO_eq hR (by omega), RO_eq hR (by omega)]
  intro r hr
  obtain ⟨i, h1, h2⟩ := H r hr
  by_cases e1 : i = p
  · subst e1
    exact ⟨q, hq, by rw [upd_eq]; exact h2⟩
  · by_cases e2 : i = q
    · subst e2
      exact ⟨p, hp, by rw [upd_ne (fun e => e1 e.symm), upd_eq]; exact h2⟩
    · exact ⟨i, h1, by rw [upd_ne e2, upd_ne e1]; exact h2⟩
/-- a slot's row is being written from the row that is looked at -/
def TR (z j : Nat) (g f : Nat → Int32) : Prop := SX z g ∧ PM (g (91 * z)).toNatClampNeg f ∧ ∀ i, i < j → g (91 * z + 82 + i) = f i
theorem TR_step {g f : Nat → Int32} {z j : Nat} (hR : RO f) (hj : j < 9) (H : TR z j g f) : TR z (j + 1) (upd g (91 * z + 82 + j) (nI (f j).toNatClampNeg)) f := by
  rw [RO_eq hR hj]
  refine ⟨SX_upd H.1 (by omega) (by omega), ?_, fun i hi => ?_⟩
  · rw [upd_ne (by omega)]; exact H.2.1
  · by_cases e : i = j
    · subst e; exact upd_eq
    · rw [upd_ne (by omega)]; exact H.2.2 i (by omega)
theorem TR_PE {g f : Nat → Int32} {z : Nat} (H : TR z (g (91 * z)).toNatClampNeg g f) : PE g := by
  refine PE_of H.1 fun p hp => ?_
  obtain ⟨i, h1, h2⟩ := H.2.1 p hp
  exact ⟨i, h1, by rw [H.2.2 i h1]; exact h2⟩
def FX12k_puts (f_state : Nat → Int32) (z : Nat) (p : Nat) (w : Nat) : Int32 × (Nat → Int32) := (0, upd f_state (((91 * z) + 82) + p) ((nI w)))
set_option maxHeartbeats 4000000 in
set_option maxRecDepth 100000 in
theorem FX12k_puts_ok (G : xG) {P R : xMem} {L : Nat} (hP : P.length = L) (i_keptMany : Nat) (i_taped : Nat) (i_faultKind : Int32) (i_faultPlace : Int32) (i_spot : Nat) (i_begin : Nat) (i_token : Int32) (i_value : Int32) (i_bad : Int32) (i_full : Nat) (i_bandRows : Int32) (i_bandFirsts : Int32) (i_outs : Nat) (f_state : Nat → Int32) (f_was : Nat → Int32) (f_kept : Nat → Int32) (f_tape : Nat → Int32) (f_order : Nat → Int32) (f_rest : Nat → Int32) (f_ways : Nat → Int32) (f_costs : Nat → Int32) (f_bandBest : Nat → Int32) (f_found : Nat → Int32) (f_drawn : Nat → Int32) (f_joined : Nat → Int32) (f_out : Nat → Int32) (bi_keptMany : i_keptMany ≤ 10) (bi_taped : i_taped ≤ 400) (bi_spot : i_spot ≤ 400) (bi_begin : i_begin ≤ 400) (bi_full : i_full ≤ 511) (bi_outs : i_outs ≤ 400) (hG : GO f_state) (hT : WB f_state) (z : Nat) (bz : z < 3) (p : Nat) (bp : p < 9) (w : Nat) (bw : w < 9) (M : xMem) (hM : M = (P ++ (MDL L i_keptMany i_taped i_faultKind i_faultPlace i_spot i_begin i_token i_value i_bad i_full i_bandRows i_bandFirsts i_outs f_state f_was f_kept f_tape f_order f_rest f_ways f_costs f_bandBest f_found f_drawn f_joined f_out ++ R))) (Q : Int32 × (Nat → Int32) → Prop) (hq : Q (FX12k_puts f_state z p w)) : xC G mX12_puts 0 0 0 [.ref L, .int (nI z), .int (nI p), .int (nI w)] M (fun v M2 => ∃ o : Int32 × (Nat → Int32), v = none ∧ Q o ∧ GO o.2 ∧ WB o.2 ∧ M2 = (P ++ (MDL L i_keptMany i_taped i_faultKind i_faultPlace i_spot i_begin i_token i_value i_bad i_full i_bandRows i_bandFirsts i_outs o.2 f_was f_kept f_tape f_order f_rest f_ways f_costs f_bandBest f_found f_drawn f_joined f_out ++ R))) := by
  subst hM
  unfold FX12k_puts at hq
  refine xC.of (by decide) (Nat.le_of_ble_eq_true rfl) ?_
  show xW _ _ _ _ 0 [(0, .ref L), (1, .int (nI z)), (2, .int (nI p)), (3, .int (nI w))] [] _ 0 0
  refine xi_aload_n 0 dX12_puts_0 rfl ?_
  refine xi_get (f := 0) dX12_puts_1 (xpg0 hP rfl) rfl ok_9 (by decide) w_1008 rfl ?_
  refine xi_bipush (v := 91) dX12_puts_4 (by decide) ?_
  refine xi_iload_n 1 dX12_puts_6 rfl ?_
  refine xi_imul (v := (nI (91 * z))) dX12_puts_7 (pk_mul 91 z) ?_
  refine xi_bipush (v := 82) dX12_puts_8 (by decide) ?_
  refine xi_iadd (v := (nI ((91 * z) + 82))) dX12_puts_10 (nI_add (91 * z) 82) ?_
  refine xi_iload_n 2 dX12_puts_11 rfl ?_
  refine xi_iadd (v := (nI (((91 * z) + 82) + p))) dX12_puts_12 (nI_add ((91 * z) + 82) p) ?_
  refine xi_iload_n 3 dX12_puts_13 rfl ?_
  refine xi_iastore (M' := (P ++ (MDL L i_keptMany i_taped i_faultKind i_faultPlace i_spot i_begin i_token i_value i_bad i_full i_bandRows i_bandFirsts i_outs (upd f_state (((91 * z) + 82) + p) ((nI w))) f_was f_kept f_tape f_order f_rest f_ways f_costs f_bandBest f_found f_drawn f_joined f_out ++ R))) dX12_puts_14 (xpg hP rfl) (vp_in_nI (by omega) (by decide)) (by rw [nI_clamp (by omega)]; exact (xps hP)) ?_
  exact xi_vret dX12_puts_15 rfl (Nat.le_of_ble_eq_true rfl) (Nat.le_of_ble_eq_true rfl) ⟨_, rfl, hq, (GO_o hG z p w bz bp bw), (WB_o hT z p _ bz bp), rfl⟩
def LX12_takesRow_4 (i_keptMany : Nat) (f_state : Nat → Int32) (f_was : Nat → Int32) (f_kept : Nat → Int32) (f_order : Nat → Int32) (n1 : Nat) (K : Int32 → Int32 × (Nat → Int32) × (Nat → Int32) × Nat × (Nat → Int32)) : Nat → Nat → Int32 → Int32 × (Nat → Int32) × (Nat → Int32) × Nat × (Nat → Int32)
  | 0, _, v2 => K v2
  | k + 1, j, v2 => (if (nI ((f_state (91 * n1 + 82 + j)).toNatClampNeg)) = (nI ((f_order j).toNatClampNeg)) then (LX12_takesRow_4 i_keptMany f_state f_was f_kept f_order n1 K k (j + 1) ((v2 + (0 : Int32)))) else (LX12_takesRow_4 i_keptMany f_state f_was f_kept f_order n1 K k (j + 1) ((v2 + (1 : Int32)))))
def LX12_takesRow_48 (i_keptMany : Nat) (f_was : Nat → Int32) (f_kept : Nat → Int32) (f_order : Nat → Int32) (n1 : Nat) (w2 : Int32) (K : (Nat → Int32) → Int32 × (Nat → Int32) × (Nat → Int32) × Nat × (Nat → Int32)) : Nat → Nat → (Nat → Int32) → Int32 × (Nat → Int32) × (Nat → Int32) × Nat × (Nat → Int32)
  | 0, _, f_state => K f_state
  | k + 1, j, f_state => (LX12_takesRow_48 i_keptMany f_was f_kept f_order n1 w2 K k (j + 1) ((FX12k_puts f_state n1 j ((f_order j).toNatClampNeg)).2))
set_option maxHeartbeats 4000000 in
set_option maxRecDepth 100000 in
theorem LX12_takesRow_4_s (G : xG) {P R : xMem} {L : Nat} (hP : P.length = L) (i_keptMany : Nat) (i_taped : Nat) (i_faultKind : Int32) (i_faultPlace : Int32) (i_spot : Nat) (i_begin : Nat) (i_token : Int32) (i_value : Int32) (i_bad : Int32) (i_full : Nat) (i_bandRows : Int32) (i_bandFirsts : Int32) (i_outs : Nat) (f_state : Nat → Int32) (f_was : Nat → Int32) (f_kept : Nat → Int32) (f_tape : Nat → Int32) (f_order : Nat → Int32) (f_rest : Nat → Int32) (f_ways : Nat → Int32) (f_costs : Nat → Int32) (f_bandBest : Nat → Int32) (f_found : Nat → Int32) (f_drawn : Nat → Int32) (f_joined : Nat → Int32) (f_out : Nat → Int32) (bi_keptMany : i_keptMany ≤ 10) (bi_taped : i_taped ≤ 400) (bi_spot : i_spot ≤ 400) (bi_begin : i_begin ≤ 400) (bi_full : i_full ≤ 511) (bi_outs : i_outs ≤ 400) (hG : GO f_state) (hE : PE f_state) (hR : RO f_order) (hT : WB f_state) (hW : SO f_was) (hK : KO i_keptMany f_kept) (n1 : Nat) (bn1 : n1 < 3) (Q : Int32 × (Nat → Int32) × (Nat → Int32) × Nat × (Nat → Int32) → Prop) (K : Int32 → Int32 × (Nat → Int32) × (Nat → Int32) × Nat × (Nat → Int32)) (HE : ∀ (v2 : Int32), Q (K v2) → xW G mX12_takesRow (xrm 2 0 0) (xQ G (fun v M2 => ∃ o : Int32 × (Nat → Int32) × (Nat → Int32) × Nat × (Nat → Int32), v = some (.int o.1) ∧ Q o ∧ GO o.2.1 ∧ PE o.2.1 ∧ WB o.2.1 ∧ SO o.2.2.1 ∧ KO o.2.2.2.1 o.2.2.2.2 ∧ o.2.2.2.1 ≤ 10 ∧ M2 = (P ++ (MDL L o.2.2.2.1 i_taped i_faultKind i_faultPlace i_spot i_begin i_token i_value i_bad i_full i_bandRows i_bandFirsts i_outs o.2.1 o.2.2.1 o.2.2.2.2 f_tape f_order f_rest f_ways f_costs f_bandBest f_found f_drawn f_joined f_out ++ R))) 0 0) 42 [(0, .ref L), (1, .int (nI n1)), (2, .int v2)] [] (P ++ (MDL L i_keptMany i_taped i_faultKind i_faultPlace i_spot i_begin i_token i_value i_bad i_full i_bandRows i_bandFirsts i_outs f_state f_was f_kept f_tape f_order f_rest f_ways f_costs f_bandBest f_found f_drawn f_joined f_out ++ R)) 0 0) :
    ∀ (k j : Nat) (v2 : Int32), (f_state (91 * n1)).toNatClampNeg - j = k → j < 100000 → Q (LX12_takesRow_4 i_keptMany f_state f_was f_kept f_order n1 K k j v2) → xW G mX12_takesRow (xrm 2 0 0) (xQ G (fun v M2 => ∃ o : Int32 × (Nat → Int32) × (Nat → Int32) × Nat × (Nat → Int32), v = some (.int o.1) ∧ Q o ∧ GO o.2.1 ∧ PE o.2.1 ∧ WB o.2.1 ∧ SO o.2.2.1 ∧ KO o.2.2.2.1 o.2.2.2.2 ∧ o.2.2.2.1 ≤ 10 ∧ M2 = (P ++ (MDL L o.2.2.2.1 i_taped i_faultKind i_faultPlace i_spot i_begin i_token i_value i_bad i_full i_bandRows i_bandFirsts i_outs o.2.1 o.2.2.1 o.2.2.2.2 f_tape f_order f_rest f_ways f_costs f_bandBest f_found f_drawn f_joined f_out ++ R))) 0 0) 4 [(0, .ref L), (1, .int (nI n1)), (2, .int v2), (3, .int (nI j))] [] (P ++ (MDL L i_keptMany i_taped i_faultKind i_faultPlace i_spot i_begin i_token i_value i_bad i_full i_bandRows i_bandFirsts i_outs f_state f_was f_kept f_tape f_order f_rest f_ways f_costs f_bandBest f_found f_drawn f_joined f_out ++ R)) 0 0 := by
  intro k
  induction k with
  | zero =>
    intro j v2 hj hj2 hq
    rw [LX12_takesRow_4] at hq
    refine xi_iload_n 3 dX12_takesRow_4 rfl ?_
    refine xi_aload_n 0 dX12_takesRow_5 rfl ?_
    refine xi_iload_n 1 dX12_takesRow_6 rfl ?_
    refine xi_callV (as := [.int (nI n1)]) (rest := [.int (nI j)]) dX12_takesRow_7 (FX12_points_ok G hP i_keptMany i_taped i_faultKind i_faultPlace i_spot i_begin i_token i_value i_bad i_full i_bandRows i_bandFirsts i_outs f_state f_was f_kept f_tape f_order f_rest f_ways f_costs f_bandBest f_found f_drawn f_joined f_out (by omega) (by omega) (by omega) (by omega) (by omega) (by omega) n1 (by omega) _ rfl (fun r => r = nI ((f_state (91 * n1)).toNatClampNeg)) ((hG n1 (by omega)).1.1)) mkX12_points w_1108 ws_36 w_1106 (xpg0 hP rfl) rfl rfl rfl rfl (Nat.le_of_ble_eq_true rfl) (Nat.le_of_ble_eq_true rfl) (Nat.le_of_ble_eq_true rfl) (Nat.le_of_ble_eq_true rfl) (Nat.le_of_ble_eq_true rfl) ?_
    intro v M2 hz
    obtain ⟨_, rfl, rfl, rfl⟩ := hz
    show xW _ _ _ _ 10 _ [.int (nI ((f_state (91 * n1)).toNatClampNeg)), .int (nI j)] (P ++ (MDL L i_keptMany i_taped i_faultKind i_faultPlace i_spot i_begin i_token i_value i_bad i_full i_bandRows i_bandFirsts i_outs f_state f_was f_kept f_tape f_order f_rest f_ways f_costs f_bandBest f_found f_drawn f_joined f_out ++ R)) _ _
    have o5 := (hG n1 (by omega)).1.2
    refine xi_icmp_ge_t (tgt := 42) dX12_takesRow_10 (by decide) (nI_le (a := (f_state (91 * n1)).toNatClampNeg) (b := j) (by omega) (by omega)) ?_
    refine xi_sub (lv' := [(0, .ref L), (1, .int (nI n1)), (2, .int v2)]) [0, 1, 2] rfl ?_
    exact HE v2 hq
  | succ k ih =>
    intro j v2 hj hj2 hq
    rw [LX12_takesRow_4] at hq
    refine xi_iload_n 3 dX12_takesRow_4 rfl ?_
    refine xi_aload_n 0 dX12_takesRow_5 rfl ?_
    refine xi_iload_n 1 dX12_takesRow_6 rfl ?_
    refine xi_callV (as := [.int (nI n1)]) (rest := [.int (nI j)]) dX12_takesRow_7 (FX12_points_ok G hP i_keptMany i_taped i_faultKind i_faultPlace i_spot i_begin i_token i_value i_bad i_full i_bandRows i_bandFirsts i_outs f_state f_was f_kept f_tape f_order f_rest f_ways f_costs f_bandBest f_found f_drawn f_joined f_out (by omega) (by omega) (by omega) (by omega) (by omega) (by omega) n1 (by omega) _ rfl (fun r => r = nI ((f_state (91 * n1)).toNatClampNeg)) ((hG n1 (by omega)).1.1)) mkX12_points w_1108 ws_36 w_1106 (xpg0 hP rfl) rfl rfl rfl rfl (Nat.le_of_ble_eq_true rfl) (Nat.le_of_ble_eq_true rfl) (Nat.le_of_ble_eq_true rfl) (Nat.le_of_ble_eq_true rfl) (Nat.le_of_ble_eq_true rfl) ?_
    intro v M2 hz
    obtain ⟨_, rfl, rfl, rfl⟩ := hz
    show xW _ _ _ _ 10 _ [.int (nI ((f_state (91 * n1)).toNatClampNeg)), .int (nI j)] (P ++ (MDL L i_keptMany i_taped i_faultKind i_faultPlace i_spot i_begin i_token i_value i_bad i_full i_bandRows i_bandFirsts i_outs f_state f_was f_kept f_tape f_order f_rest f_ways f_costs f_bandBest f_found f_drawn f_joined f_out ++ R)) _ _
    have o1 := (hG n1 (by omega)).1.2
    refine xi_icmp_ge_f (tgt := 42) dX12_takesRow_10 (by decide) (nI_ge (a := j) (b := (f_state (91 * n1)).toNatClampNeg) (by omega) (by omega)) ?_
    refine xi_iload_n 2 dX12_takesRow_13 rfl ?_
    refine xi_aload_n 0 dX12_takesRow_14 rfl ?_
    refine xi_iload_n 1 dX12_takesRow_15 rfl ?_
    refine xi_iload_n 3 dX12_takesRow_16 rfl ?_
    refine xi_callV (as := [.int (nI n1), .int (nI j)]) (rest := [.int v2]) dX12_takesRow_17 (FX12_at_ok G hP i_keptMany i_taped i_faultKind i_faultPlace i_spot i_begin i_token i_value i_bad i_full i_bandRows i_bandFirsts i_outs f_state f_was f_kept f_tape f_order f_rest f_ways f_costs f_bandBest f_found f_drawn f_joined f_out (by omega) (by omega) (by omega) (by omega) (by omega) (by omega) n1 (by omega) j (by omega) _ rfl (fun r => r = nI ((f_state (91 * n1 + 82 + j)).toNatClampNeg)) (((hG n1 (by omega)).2 j (by omega)).1)) mkX12_at w_1273 ws_64 w_1271 (xpg0 hP rfl) rfl rfl rfl rfl (Nat.le_of_ble_eq_true rfl) (Nat.le_of_ble_eq_true rfl) (Nat.le_of_ble_eq_true rfl) (Nat.le_of_ble_eq_true rfl) (Nat.le_of_ble_eq_true rfl) ?_
    intro v M2 hz
    obtain ⟨_, rfl, rfl, rfl⟩ := hz
    show xW _ _ _ _ 20 _ [.int (nI ((f_state (91 * n1 + 82 + j)).toNatClampNeg)), .int v2] (P ++ (MDL L i_keptMany i_taped i_faultKind i_faultPlace i_spot i_begin i_token i_value i_bad i_full i_bandRows i_bandFirsts i_outs f_state f_was f_kept f_tape f_order f_rest f_ways f_costs f_bandBest f_found f_drawn f_joined f_out ++ R)) _ _
    have o2 := ((hG n1 (by omega)).2 j (by omega)).2
    refine xi_aload_n 0 dX12_takesRow_20 rfl ?_
    refine xi_get (f := 13) dX12_takesRow_21 (xpg0 hP rfl) rfl ok_9 (by decide) w_1021 rfl ?_
    refine xi_iload_n 3 dX12_takesRow_24 rfl ?_
    have o3 := (hR j (by omega)).2
    refine xi_iaload (v := (nI ((f_order j).toNatClampNeg))) dX12_takesRow_25 (xpg hP rfl) (vp_in_nI (by omega) (by decide)) (by rw [nI_clamp (by omega)]; exact (hR j (by omega)).1) ?_
    refine xi_icmp_ne (tgt := 33) dX12_takesRow_26 (by decide) (fun c4 => ?_) (fun c4 => ?_)
    · rw [if_neg c4] at hq
      have c4n : ¬ ((f_state (91 * n1 + 82 + j)).toNatClampNeg) = ((f_order j).toNatClampNeg) := fun e => c4 (congrArg nI e)
      refine xi_iconst (v := 1) dX12_takesRow_33 (by decide) ?_
      refine xi_iadd (v := (v2 + (1 : Int32))) dX12_takesRow_34 rfl ?_
      refine xi_istore_n (lv' := [(2, .int (v2 + (1 : Int32))), (0, .ref L), (1, .int (nI n1)), (3, .int (nI j))]) dX12_takesRow_35 (by decide) rfl ?_
      refine xi_iinc (v := (nI (j + 1))) (lv' := [(3, .int (nI (j + 1))), (2, .int (v2 + (1 : Int32))), (0, .ref L), (1, .int (nI n1))]) 3 dX12_takesRow_36 rfl (nI_1 _) (by decide) rfl ?_
      refine xi_goto (tgt := 4) dX12_takesRow_39 (by decide) ?_
      refine xi_sub (lv' := [(0, .ref L), (1, .int (nI n1)), (2, .int (v2 + (1 : Int32))), (3, .int (nI (j + 1)))]) [2, 3, 1, 0] rfl ?_
      exact ih (j + 1) ((v2 + (1 : Int32))) (by omega) (by omega) hq
    · rw [if_pos c4] at hq
      have c4n : ((f_state (91 * n1 + 82 + j)).toNatClampNeg) = ((f_order j).toNatClampNeg) := (nI_eq (a := ((f_state (91 * n1 + 82 + j)).toNatClampNeg)) (b := ((f_order j).toNatClampNeg)) (by omega) (by omega)).mp c4
      refine xi_iconst (v := 0) dX12_takesRow_29 (by decide) ?_
      refine xi_goto (tgt := 34) dX12_takesRow_30 (by decide) ?_
      refine xi_iadd (v := (v2 + (0 : Int32))) dX12_takesRow_34 rfl ?_
      refine xi_istore_n (lv' := [(2, .int (v2 + (0 : Int32))), (0, .ref L), (1, .int (nI n1)), (3, .int (nI j))]) dX12_takesRow_35 (by decide) rfl ?_
      refine xi_iinc (v := (nI (j + 1))) (lv' := [(3, .int (nI (j + 1))), (2, .int (v2 + (0 : Int32))), (0, .ref L), (1, .int (nI n1))]) 3 dX12_takesRow_36 rfl (nI_1 _) (by decide) rfl ?_
      refine xi_goto (tgt := 4) dX12_takesRow_39 (by decide) ?_
      refine xi_sub (lv' := [(0, .ref L), (1, .int (nI n1)), (2, .int (v2 + (0 : Int32))), (3, .int (nI (j + 1)))]) [2, 3, 1, 0] rfl ?_
      exact ih (j + 1) ((v2 + (0 : Int32))) (by omega) (by omega) hq
set_option maxHeartbeats 4000000 in
set_option maxRecDepth 100000 in
theorem LX12_takesRow_48_s (G : xG) {P R : xMem} {L : Nat} (hP : P.length = L) (i_keptMany : Nat) (i_taped : Nat) (i_faultKind : Int32) (i_faultPlace : Int32) (i_spot : Nat) (i_begin : Nat) (i_token : Int32) (i_value : Int32) (i_bad : Int32) (i_full : Nat) (i_bandRows : Int32) (i_bandFirsts : Int32) (i_outs : Nat) (f_was : Nat → Int32) (f_kept : Nat → Int32) (f_tape : Nat → Int32) (f_order : Nat → Int32) (f_rest : Nat → Int32) (f_ways : Nat → Int32) (f_costs : Nat → Int32) (f_bandBest : Nat → Int32) (f_found : Nat → Int32) (f_drawn : Nat → Int32) (f_joined : Nat → Int32) (f_out : Nat → Int32) (bi_keptMany : i_keptMany ≤ 10) (bi_taped : i_taped ≤ 400) (bi_spot : i_spot ≤ 400) (bi_begin : i_begin ≤ 400) (bi_full : i_full ≤ 511) (bi_outs : i_outs ≤ 400) (hR : RO f_order) (hW : SO f_was) (hK : KO i_keptMany f_kept) (n1 : Nat) (bn1 : n1 < 3) (w2 : Int32) (Q : Int32 × (Nat → Int32) × (Nat → Int32) × Nat × (Nat → Int32) → Prop) (K : (Nat → Int32) → Int32 × (Nat → Int32) × (Nat → Int32) × Nat × (Nat → Int32)) (HE : ∀ (f_state : Nat → Int32) (hG : GO f_state) (hT : WB f_state) (hi : TR n1 ((f_state (91 * n1)).toNatClampNeg) f_state f_order), Q (K f_state) → xW G mX12_takesRow (xrm 2 0 0) (xQ G (fun v M2 => ∃ o : Int32 × (Nat → Int32) × (Nat → Int32) × Nat × (Nat → Int32), v = some (.int o.1) ∧ Q o ∧ GO o.2.1 ∧ PE o.2.1 ∧ WB o.2.1 ∧ SO o.2.2.1 ∧ KO o.2.2.2.1 o.2.2.2.2 ∧ o.2.2.2.1 ≤ 10 ∧ M2 = (P ++ (MDL L o.2.2.2.1 i_taped i_faultKind i_faultPlace i_spot i_begin i_token i_value i_bad i_full i_bandRows i_bandFirsts i_outs o.2.1 o.2.2.1 o.2.2.2.2 f_tape f_order f_rest f_ways f_costs f_bandBest f_found f_drawn f_joined f_out ++ R))) 0 0) 75 [(0, .ref L), (2, .int w2)] [] (P ++ (MDL L i_keptMany i_taped i_faultKind i_faultPlace i_spot i_begin i_token i_value i_bad i_full i_bandRows i_bandFirsts i_outs f_state f_was f_kept f_tape f_order f_rest f_ways f_costs f_bandBest f_found f_drawn f_joined f_out ++ R)) 0 0) :
    ∀ (k j : Nat) (f_state : Nat → Int32) (hG : GO f_state) (hT : WB f_state) (hi : TR n1 j f_state f_order), (f_state (91 * n1)).toNatClampNeg - j = k → j < 100000 → Q (LX12_takesRow_48 i_keptMany f_was f_kept f_order n1 w2 K k j f_state) → xW G mX12_takesRow (xrm 2 0 0) (xQ G (fun v M2 => ∃ o : Int32 × (Nat → Int32) × (Nat → Int32) × Nat × (Nat → Int32), v = some (.int o.1) ∧ Q o ∧ GO o.2.1 ∧ PE o.2.1 ∧ WB o.2.1 ∧ SO o.2.2.1 ∧ KO o.2.2.2.1 o.2.2.2.2 ∧ o.2.2.2.1 ≤ 10 ∧ M2 = (P ++ (MDL L o.2.2.2.1 i_taped i_faultKind i_faultPlace i_spot i_begin i_token i_value i_bad i_full i_bandRows i_bandFirsts i_outs o.2.1 o.2.2.1 o.2.2.2.2 f_tape f_order f_rest f_ways f_costs f_bandBest f_found f_drawn f_joined f_out ++ R))) 0 0) 48 [(0, .ref L), (1, .int (nI n1)), (2, .int w2), (3, .int (nI j))] [] (P ++ (MDL L i_keptMany i_taped i_faultKind i_faultPlace i_spot i_begin i_token i_value i_bad i_full i_bandRows i_bandFirsts i_outs f_state f_was f_kept f_tape f_order f_rest f_ways f_costs f_bandBest f_found f_drawn f_joined f_out ++ R)) 0 0 := by
  intro k
  induction k with
  | zero =>
    intro j f_state hG hT hi hj hj2 hq
    rw [LX12_takesRow_48] at hq
    refine xi_iload_n 3 dX12_takesRow_48 rfl ?_
    refine xi_aload_n 0 dX12_takesRow_49 rfl ?_
    refine xi_iload_n 1 dX12_takesRow_50 rfl ?_
    refine xi_callV (as := [.int (nI n1)]) (rest := [.int (nI j)]) dX12_takesRow_51 (FX12_points_ok G hP i_keptMany i_taped i_faultKind i_faultPlace i_spot i_begin i_token i_value i_bad i_full i_bandRows i_bandFirsts i_outs f_state f_was f_kept f_tape f_order f_rest f_ways f_costs f_bandBest f_found f_drawn f_joined f_out (by omega) (by omega) (by omega) (by omega) (by omega) (by omega) n1 (by omega) _ rfl (fun r => r = nI ((f_state (91 * n1)).toNatClampNeg)) ((hG n1 (by omega)).1.1)) mkX12_points w_1108 ws_36 w_1106 (xpg0 hP rfl) rfl rfl rfl rfl (Nat.le_of_ble_eq_true rfl) (Nat.le_of_ble_eq_true rfl) (Nat.le_of_ble_eq_true rfl) (Nat.le_of_ble_eq_true rfl) (Nat.le_of_ble_eq_true rfl) ?_
    intro v M2 hz
    obtain ⟨_, rfl, rfl, rfl⟩ := hz
    show xW _ _ _ _ 54 _ [.int (nI ((f_state (91 * n1)).toNatClampNeg)), .int (nI j)] (P ++ (MDL L i_keptMany i_taped i_faultKind i_faultPlace i_spot i_begin i_token i_value i_bad i_full i_bandRows i_bandFirsts i_outs f_state f_was f_kept f_tape f_order f_rest f_ways f_costs f_bandBest f_found f_drawn f_joined f_out ++ R)) _ _
    have o12 := (hG n1 (by omega)).1.2
    refine xi_icmp_ge_t (tgt := 75) dX12_takesRow_54 (by decide) (nI_le (a := (f_state (91 * n1)).toNatClampNeg) (b := j) (by omega) (by omega)) ?_
    refine xi_sub (lv' := [(0, .ref L), (2, .int w2)]) [0, 2] rfl ?_
    exact HE f_state hG hT (by first | exact TR_step hR (by omega) hi | exact ⟨hi.1, hi.2.1, fun i h_ => hi.2.2 i (by omega)⟩) hq
  | succ k ih =>
    intro j f_state hG hT hi hj hj2 hq
    rw [LX12_takesRow_48] at hq
    refine xi_iload_n 3 dX12_takesRow_48 rfl ?_
    refine xi_aload_n 0 dX12_takesRow_49 rfl ?_
    refine xi_iload_n 1 dX12_takesRow_50 rfl ?_
    refine xi_callV (as := [.int (nI n1)]) (rest := [.int (nI j)]) dX12_takesRow_51 (FX12_points_ok G hP i_keptMany i_taped i_faultKind i_faultPlace i_spot i_begin i_token i_value i_bad i_full i_bandRows i_bandFirsts i_outs f_state f_was f_kept f_tape f_order f_rest f_ways f_costs f_bandBest f_found f_drawn f_joined f_out (by omega) (by omega) (by omega) (by omega) (by omega) (by omega) n1 (by omega) _ rfl (fun r => r = nI ((f_state (91 * n1)).toNatClampNeg)) ((hG n1 (by omega)).1.1)) mkX12_points w_1108 ws_36 w_1106 (xpg0 hP rfl) rfl rfl rfl rfl (Nat.le_of_ble_eq_true rfl) (Nat.le_of_ble_eq_true rfl) (Nat.le_of_ble_eq_true rfl) (Nat.le_of_ble_eq_true rfl) (Nat.le_of_ble_eq_true rfl) ?_
    intro v M2 hz
    obtain ⟨_, rfl, rfl, rfl⟩ := hz
    show xW _ _ _ _ 54 _ [.int (nI ((f_state (91 * n1)).toNatClampNeg)), .int (nI j)] (P ++ (MDL L i_keptMany i_taped i_faultKind i_faultPlace i_spot i_begin i_token i_value i_bad i_full i_bandRows i_bandFirsts i_outs f_state f_was f_kept f_tape f_order f_rest f_ways f_costs f_bandBest f_found f_drawn f_joined f_out ++ R)) _ _
    have o8 := (hG n1 (by omega)).1.2
    refine xi_icmp_ge_f (tgt := 75) dX12_takesRow_54 (by decide) (nI_ge (a := j) (b := (f_state (91 * n1)).toNatClampNeg) (by omega) (by omega)) ?_
    refine xi_aload_n 0 dX12_takesRow_57 rfl ?_
    refine xi_iload_n 1 dX12_takesRow_58 rfl ?_
    refine xi_iload_n 3 dX12_takesRow_59 rfl ?_
    refine xi_aload_n 0 dX12_takesRow_60 rfl ?_
    refine xi_get (f := 13) dX12_takesRow_61 (xpg0 hP rfl) rfl ok_9 (by decide) w_1021 rfl ?_
    refine xi_iload_n 3 dX12_takesRow_64 rfl ?_
    have o9 := (hR j (by omega)).2
    refine xi_iaload (v := (nI ((f_order j).toNatClampNeg))) dX12_takesRow_65 (xpg hP rfl) (vp_in_nI (by omega) (by decide)) (by rw [nI_clamp (by omega)]; exact (hR j (by omega)).1) ?_
    refine xi_callV (as := [.int (nI n1), .int (nI j), .int (nI ((f_order j).toNatClampNeg))]) (rest := []) dX12_takesRow_66 (FX12k_puts_ok G hP i_keptMany i_taped i_faultKind i_faultPlace i_spot i_begin i_token i_value i_bad i_full i_bandRows i_bandFirsts i_outs f_state f_was f_kept f_tape f_order f_rest f_ways f_costs f_bandBest f_found f_drawn f_joined f_out (by omega) (by omega) (by omega) (by omega) (by omega) (by omega) hG hT n1 (by omega) j (by omega) ((f_order j).toNatClampNeg) (by omega) _ rfl (fun r => r = FX12k_puts f_state n1 j ((f_order j).toNatClampNeg)) rfl) mkX12_puts w_1172 ws_48 w_1170 (xpg0 hP rfl) rfl rfl rfl rfl (Nat.le_of_ble_eq_true rfl) (Nat.le_of_ble_eq_true rfl) (Nat.le_of_ble_eq_true rfl) (Nat.le_of_ble_eq_true rfl) (Nat.le_of_ble_eq_true rfl) ?_
    intro v M2 hz
    obtain ⟨_, rfl, rfl, hk10, hk11, rfl⟩ := hz
    show xW _ _ _ _ 69 _ [] (P ++ (MDL L i_keptMany i_taped i_faultKind i_faultPlace i_spot i_begin i_token i_value i_bad i_full i_bandRows i_bandFirsts i_outs ((FX12k_puts f_state n1 j ((f_order j).toNatClampNeg)).2) f_was f_kept f_tape f_order f_rest f_ways f_costs f_bandBest f_found f_drawn f_joined f_out ++ R)) _ _
    refine xi_iinc (v := (nI (j + 1))) (lv' := [(3, .int (nI (j + 1))), (0, .ref L), (1, .int (nI n1)), (2, .int w2)]) 3 dX12_takesRow_69 rfl (nI_1 _) (by decide) rfl ?_
    refine xi_goto (tgt := 48) dX12_takesRow_72 (by decide) ?_
    refine xi_sub (lv' := [(0, .ref L), (1, .int (nI n1)), (2, .int w2), (3, .int (nI (j + 1)))]) [1, 2, 3, 0] rfl ?_
    have hpt : (((FX12k_puts f_state n1 j ((f_order j).toNatClampNeg)).2) (91 * n1)).toNatClampNeg = (f_state (91 * n1)).toNatClampNeg := congrArg Int32.toNatClampNeg (upd_ne (by omega))
    exact ih (j + 1) ((FX12k_puts f_state n1 j ((f_order j).toNatClampNeg)).2) hk10 hk11 (by first | exact TR_step hR (by omega) hi | exact ⟨hi.1, hi.2.1, fun i h_ => hi.2.2 i (by omega)⟩) (by omega) (by omega) hq
def FX12_takesRow (i_keptMany : Nat) (f_state : Nat → Int32) (f_was : Nat → Int32) (f_kept : Nat → Int32) (f_order : Nat → Int32) (z : Nat) : Int32 × (Nat → Int32) × (Nat → Int32) × Nat × (Nat → Int32) := (LX12_takesRow_4 i_keptMany f_state f_was f_kept f_order z (fun u6 => (LX12_takesRow_48 i_keptMany ((FX12k_remembers f_state f_was).2) f_kept f_order z u6 (fun u13 => (((FX12k_done i_keptMany u13 ((FX12k_remembers f_state f_was).2) f_kept u6).1), u13, (FX12k_remembers f_state f_was).2, (FX12k_done i_keptMany u13 ((FX12k_remembers f_state f_was).2) f_kept u6).2.1, (FX12k_done i_keptMany u13 ((FX12k_remembers f_state f_was).2) f_kept u6).2.2)) ((f_state (91 * z)).toNatClampNeg - 0) 0 f_state)) ((f_state (91 * z)).toNatClampNeg - 0) 0 ((0 : Int32)))
set_option maxHeartbeats 4000000 in
set_option maxRecDepth 100000 in
theorem FX12_takesRow_ok (G : xG) {P R : xMem} {L : Nat} (hP : P.length = L) (i_keptMany : Nat) (i_taped : Nat) (i_faultKind : Int32) (i_faultPlace : Int32) (i_spot : Nat) (i_begin : Nat) (i_token : Int32) (i_value : Int32) (i_bad : Int32) (i_full : Nat) (i_bandRows : Int32) (i_bandFirsts : Int32) (i_outs : Nat) (f_state : Nat → Int32) (f_was : Nat → Int32) (f_kept : Nat → Int32) (f_tape : Nat → Int32) (f_order : Nat → Int32) (f_rest : Nat → Int32) (f_ways : Nat → Int32) (f_costs : Nat → Int32) (f_bandBest : Nat → Int32) (f_found : Nat → Int32) (f_drawn : Nat → Int32) (f_joined : Nat → Int32) (f_out : Nat → Int32) (bi_keptMany : i_keptMany ≤ 10) (bi_taped : i_taped ≤ 400) (bi_spot : i_spot ≤ 400) (bi_begin : i_begin ≤ 400) (bi_full : i_full ≤ 511) (bi_outs : i_outs ≤ 400) (hG : GO f_state) (hE : PE f_state) (hR : RO f_order) (hT : WB f_state) (hW : SO f_was) (hK : KO i_keptMany f_kept) (z : Nat) (bz : z < 3) (hpm : PM (f_state (91 * z)).toNatClampNeg f_order) (M : xMem) (hM : M = (P ++ (MDL L i_keptMany i_taped i_faultKind i_faultPlace i_spot i_begin i_token i_value i_bad i_full i_bandRows i_bandFirsts i_outs f_state f_was f_kept f_tape f_order f_rest f_ways f_costs f_bandBest f_found f_drawn f_joined f_out ++ R))) (Q : Int32 × (Nat → Int32) × (Nat → Int32) × Nat × (Nat → Int32) → Prop) (hq : Q (FX12_takesRow i_keptMany f_state f_was f_kept f_order z)) : xC G mX12_takesRow 2 0 0 [.ref L, .int (nI z)] M (fun v M2 => ∃ o : Int32 × (Nat → Int32) × (Nat → Int32) × Nat × (Nat → Int32), v = some (.int o.1) ∧ Q o ∧ GO o.2.1 ∧ PE o.2.1 ∧ WB o.2.1 ∧ SO o.2.2.1 ∧ KO o.2.2.2.1 o.2.2.2.2 ∧ o.2.2.2.1 ≤ 10 ∧ M2 = (P ++ (MDL L o.2.2.2.1 i_taped i_faultKind i_faultPlace i_spot i_begin i_token i_value i_bad i_full i_bandRows i_bandFirsts i_outs o.2.1 o.2.2.1 o.2.2.2.2 f_tape f_order f_rest f_ways f_costs f_bandBest f_found f_drawn f_joined f_out ++ R))) := by
  subst hM
  unfold FX12_takesRow at hq
  refine xC.of (by decide) (Nat.le_of_ble_eq_true rfl) ?_
  show xW _ _ _ _ 0 [(0, .ref L), (1, .int (nI z))] [] _ 0 0
  refine xi_iconst (v := 0) dX12_takesRow_0 (by decide) ?_
  refine xi_istore_n (lv' := [(2, .int 0), (0, .ref L), (1, .int (nI z))]) dX12_takesRow_1 (by decide) rfl ?_
  refine xi_iconst (v := 0) dX12_takesRow_2 (by decide) ?_
  refine xi_istore_n (lv' := [(3, .int 0), (2, .int 0), (0, .ref L), (1, .int (nI z))]) dX12_takesRow_3 (by decide) rfl ?_
  refine xi_sub (lv' := [(0, .ref L), (1, .int (nI z)), (2, .int 0), (3, .int 0)]) [2, 3, 1, 0] rfl ?_
  refine LX12_takesRow_4_s G hP i_keptMany i_taped i_faultKind i_faultPlace i_spot i_begin i_token i_value i_bad i_full i_bandRows i_bandFirsts i_outs f_state f_was f_kept f_tape f_order f_rest f_ways f_costs f_bandBest f_found f_drawn f_joined f_out (by omega) (by omega) (by omega) (by omega) (by omega) (by omega) hG hE hR hT hW hK z (by omega) Q _ (fun u6 hq => ?_) ((f_state (91 * z)).toNatClampNeg - 0) 0 ((0 : Int32)) rfl (by omega) hq
  refine xi_aload_n 0 dX12_takesRow_42 rfl ?_
  refine xi_callV (as := []) (rest := []) dX12_takesRow_43 (FX12k_remembers_ok G hP i_keptMany i_taped i_faultKind i_faultPlace i_spot i_begin i_token i_value i_bad i_full i_bandRows i_bandFirsts i_outs f_state f_was f_kept f_tape f_order f_rest f_ways f_costs f_bandBest f_found f_drawn f_joined f_out (by omega) (by omega) (by omega) (by omega) (by omega) (by omega) hG hE hT hW _ rfl (fun r => r = FX12k_remembers f_state f_was) rfl) mkX12_remembers w_1112 ws_37 w_1110 (xpg0 hP rfl) rfl rfl rfl rfl (Nat.le_of_ble_eq_true rfl) (Nat.le_of_ble_eq_true rfl) (Nat.le_of_ble_eq_true rfl) (Nat.le_of_ble_eq_true rfl) (Nat.le_of_ble_eq_true rfl) ?_
  intro v M2 hz
  obtain ⟨_, rfl, rfl, hk7, rfl⟩ := hz
  show xW _ _ _ _ 46 _ [] (P ++ (MDL L i_keptMany i_taped i_faultKind i_faultPlace i_spot i_begin i_token i_value i_bad i_full i_bandRows i_bandFirsts i_outs f_state ((FX12k_remembers f_state f_was).2) f_kept f_tape f_order f_rest f_ways f_costs f_bandBest f_found f_drawn f_joined f_out ++ R)) _ _
  refine xi_iconst (v := 0) dX12_takesRow_46 (by decide) ?_
  refine xi_istore_n (lv' := [(3, .int 0), (0, .ref L), (1, .int (nI z)), (2, .int u6)]) dX12_takesRow_47 (by decide) rfl ?_
  refine xi_sub (lv' := [(0, .ref L), (1, .int (nI z)), (2, .int u6), (3, .int 0)]) [1, 2, 3, 0] rfl ?_
  refine LX12_takesRow_48_s G hP i_keptMany i_taped i_faultKind i_faultPlace i_spot i_begin i_token i_value i_bad i_full i_bandRows i_bandFirsts i_outs ((FX12k_remembers f_state f_was).2) f_kept f_tape f_order f_rest f_ways f_costs f_bandBest f_found f_drawn f_joined f_out (by omega) (by omega) (by omega) (by omega) (by omega) (by omega) hR hk7 hK z (by omega) u6 Q _ (fun u13 hb14 hb15 hi48 hq => ?_) ((f_state (91 * z)).toNatClampNeg - 0) 0 f_state hG hT (by exact ⟨SX_of hG hE hT, hpm, fun i hi => absurd hi (Nat.not_lt_zero _)⟩) rfl (by omega) hq
  refine xi_aload_n 0 dX12_takesRow_75 rfl ?_
  refine xi_iload_n 1 dX12_takesRow_76 rfl ?_
  refine xi_callV (as := [.int u6]) (rest := []) dX12_takesRow_77 (FX12k_done_ok G hP i_keptMany i_taped i_faultKind i_faultPlace i_spot i_begin i_token i_value i_bad i_full i_bandRows i_bandFirsts i_outs u13 ((FX12k_remembers f_state f_was).2) f_kept f_tape f_order f_rest f_ways f_costs f_bandBest f_found f_drawn f_joined f_out (by omega) (by omega) (by omega) (by omega) (by omega) (by omega) hk7 hK u6 _ rfl (fun r => r = FX12k_done i_keptMany u13 ((FX12k_remembers f_state f_was).2) f_kept u6) rfl) mkX12_done w_1211 ws_56 w_1209 (xpg0 hP rfl) rfl rfl rfl rfl (Nat.le_of_ble_eq_true rfl) (Nat.le_of_ble_eq_true rfl) (Nat.le_of_ble_eq_true rfl) (Nat.le_of_ble_eq_true rfl) (Nat.le_of_ble_eq_true rfl) ?_
  intro v M2 hz
  obtain ⟨_, rfl, rfl, hk17, hn18, rfl⟩ := hz
  show xW _ _ _ _ 80 _ [.int ((FX12k_done i_keptMany u13 ((FX12k_remembers f_state f_was).2) f_kept u6).1)] (P ++ (MDL L ((FX12k_done i_keptMany u13 ((FX12k_remembers f_state f_was).2) f_kept u6).2.1) i_taped i_faultKind i_faultPlace i_spot i_begin i_token i_value i_bad i_full i_bandRows i_bandFirsts i_outs u13 ((FX12k_remembers f_state f_was).2) ((FX12k_done i_keptMany u13 ((FX12k_remembers f_state f_was).2) f_kept u6).2.2) f_tape f_order f_rest f_ways f_costs f_bandBest f_found f_drawn f_joined f_out ++ R)) _ _
  exact xi_iret dX12_takesRow_80 rfl rfl (Nat.le_of_ble_eq_true rfl) (Nat.le_of_ble_eq_true rfl) ⟨_, rfl, hq, hb14, (TR_PE hi48), hb15, hk7, hk17, (by show ((FX12k_done i_keptMany u13 ((FX12k_remembers f_state f_was).2) f_kept u6).2.1) ≤ 10; omega), rfl⟩
def FX12_swaps (i_keptMany : Nat) (f_state : Nat → Int32) (f_was : Nat → Int32) (f_kept : Nat → Int32) (f_order : Nat → Int32) (x : Int32) (y : Int32) (t : Int32) : Int32 × (Nat → Int32) × (Nat → Int32) × (Nat → Int32) × Nat × (Nat → Int32) := (if (FX12_isPoint f_state x y) = (0 : Int32) then ((-2 : Int32), f_order, f_state, f_was, i_keptMany, f_kept) else (if (FX12_isPoint f_state ((nI x.toNatClampNeg)) t) = (0 : Int32) then ((-2 : Int32), f_order, f_state, f_was, i_keptMany, f_kept) else ((nI ((f_state (91 * x.toNatClampNeg + 82 + y.toNatClampNeg)).toNatClampNeg)), (FX12k_exchanges ((FX12k_laysRow f_state f_order x.toNatClampNeg).2) y.toNatClampNeg t.toNatClampNeg).2, (FX12_takesRow i_keptMany f_state f_was f_kept ((FX12k_exchanges ((FX12k_laysRow f_state f_order x.toNatClampNeg).2) y.toNatClampNeg t.toNatClampNeg).2) x.toNatClampNeg).2.1, (FX12_takesRow i_keptMany f_state f_was f_kept ((FX12k_exchanges ((FX12k_laysRow f_state f_order x.toNatClampNeg).2) y.toNatClampNeg t.toNatClampNeg).2) x.toNatClampNeg).2.2.1, (FX12_takesRow i_keptMany f_state f_was f_kept ((FX12k_exchanges ((FX12k_laysRow f_state f_order x.toNatClampNeg).2) y.toNatClampNeg t.toNatClampNeg).2) x.toNatClampNeg).2.2.2.1, (FX12_takesRow i_keptMany f_state f_was f_kept ((FX12k_exchanges ((FX12k_laysRow f_state f_order x.toNatClampNeg).2) y.toNatClampNeg t.toNatClampNeg).2) x.toNatClampNeg).2.2.2.2)))
set_option maxHeartbeats 4000000 in
set_option maxRecDepth 100000 in
theorem FX12_swaps_ok (G : xG) {P R : xMem} {L : Nat} (hP : P.length = L) (i_keptMany : Nat) (i_taped : Nat) (i_faultKind : Int32) (i_faultPlace : Int32) (i_spot : Nat) (i_begin : Nat) (i_token : Int32) (i_value : Int32) (i_bad : Int32) (i_full : Nat) (i_bandRows : Int32) (i_bandFirsts : Int32) (i_outs : Nat) (f_state : Nat → Int32) (f_was : Nat → Int32) (f_kept : Nat → Int32) (f_tape : Nat → Int32) (f_order : Nat → Int32) (f_rest : Nat → Int32) (f_ways : Nat → Int32) (f_costs : Nat → Int32) (f_bandBest : Nat → Int32) (f_found : Nat → Int32) (f_drawn : Nat → Int32) (f_joined : Nat → Int32) (f_out : Nat → Int32) (bi_keptMany : i_keptMany ≤ 10) (bi_taped : i_taped ≤ 400) (bi_spot : i_spot ≤ 400) (bi_begin : i_begin ≤ 400) (bi_full : i_full ≤ 511) (bi_outs : i_outs ≤ 400) (hG : GO f_state) (hE : PE f_state) (hR : RO f_order) (hT : WB f_state) (hW : SO f_was) (hK : KO i_keptMany f_kept) (x : Int32) (y : Int32) (t : Int32) (M : xMem) (hM : M = (P ++ (MDL L i_keptMany i_taped i_faultKind i_faultPlace i_spot i_begin i_token i_value i_bad i_full i_bandRows i_bandFirsts i_outs f_state f_was f_kept f_tape f_order f_rest f_ways f_costs f_bandBest f_found f_drawn f_joined f_out ++ R))) (Q : Int32 × (Nat → Int32) × (Nat → Int32) × (Nat → Int32) × Nat × (Nat → Int32) → Prop) (hq : Q (FX12_swaps i_keptMany f_state f_was f_kept f_order x y t)) : xC G mX12_swaps 4 0 0 [.ref L, .int x, .int y, .int t] M (fun v M2 => ∃ o : Int32 × (Nat → Int32) × (Nat → Int32) × (Nat → Int32) × Nat × (Nat → Int32), v = some (.int o.1) ∧ Q o ∧ GO o.2.2.1 ∧ PE o.2.2.1 ∧ RO o.2.1 ∧ WB o.2.2.1 ∧ SO o.2.2.2.1 ∧ KO o.2.2.2.2.1 o.2.2.2.2.2 ∧ o.2.2.2.2.1 ≤ 10 ∧ M2 = (P ++ (MDL L o.2.2.2.2.1 i_taped i_faultKind i_faultPlace i_spot i_begin i_token i_value i_bad i_full i_bandRows i_bandFirsts i_outs o.2.2.1 o.2.2.2.1 o.2.2.2.2.2 f_tape o.2.1 f_rest f_ways f_costs f_bandBest f_found f_drawn f_joined f_out ++ R))) := by
  subst hM
  unfold FX12_swaps at hq
  refine xC.of (by decide) (Nat.le_of_ble_eq_true rfl) ?_
  show xW _ _ _ _ 0 [(0, .ref L), (1, .int x), (2, .int y), (3, .int t)] [] _ 0 0
  refine xi_aload_n 0 dX12_swaps_0 rfl ?_
  refine xi_iload_n 1 dX12_swaps_1 rfl ?_
  refine xi_iload_n 2 dX12_swaps_2 rfl ?_
  refine xi_callV (as := [.int x, .int y]) (rest := []) dX12_swaps_3 (FX12_isPoint_ok G hP i_keptMany i_taped i_faultKind i_faultPlace i_spot i_begin i_token i_value i_bad i_full i_bandRows i_bandFirsts i_outs f_state f_was f_kept f_tape f_order f_rest f_ways f_costs f_bandBest f_found f_drawn f_joined f_out (by omega) (by omega) (by omega) (by omega) (by omega) (by omega) hG x y _ rfl (fun r => r = FX12_isPoint f_state x y) rfl) mkX12_isPoint w_1257 ws_63 w_1255 (xpg0 hP rfl) rfl rfl rfl rfl (Nat.le_of_ble_eq_true rfl) (Nat.le_of_ble_eq_true rfl) (Nat.le_of_ble_eq_true rfl) (Nat.le_of_ble_eq_true rfl) (Nat.le_of_ble_eq_true rfl) ?_
  intro v M2 hz
  obtain ⟨_, rfl, rfl, rfl⟩ := hz
  show xW _ _ _ _ 6 _ [.int (FX12_isPoint f_state x y)] (P ++ (MDL L i_keptMany i_taped i_faultKind i_faultPlace i_spot i_begin i_token i_value i_bad i_full i_bandRows i_bandFirsts i_outs f_state f_was f_kept f_tape f_order f_rest f_ways f_costs f_bandBest f_found f_drawn f_joined f_out ++ R)) _ _
  refine xi_if_eq (tgt := 18) dX12_swaps_6 (by decide) (fun c1 => ?_) (fun c1 => ?_)
  · rw [if_pos c1] at hq
    refine xi_bipush (v := (-2)) dX12_swaps_18 (by decide) ?_
    exact xi_iret dX12_swaps_20 rfl rfl (Nat.le_of_ble_eq_true rfl) (Nat.le_of_ble_eq_true rfl) ⟨_, rfl, hq, hG, hE, hR, hT, hW, hK, (by show i_keptMany ≤ 10; omega), rfl⟩
  · rw [if_neg c1] at hq
    obtain ⟨e2, e2b, e2h⟩ := point_in c1
    have e2c : x.toNatClampNeg = e2 := by rw [e2h]; exact nI_clamp (by omega)
    try rw [e2c] at hq
    subst e2h
    have e2g := (hG e2 e2b).1.2
    obtain ⟨e3, e3b, e3h⟩ := point_in2 hG c1
    rw [nI_clamp (by omega)] at e3b
    have e3c : y.toNatClampNeg = e3 := by rw [e3h]; exact nI_clamp (by omega)
    try rw [e3c] at hq
    subst e3h
    refine xi_aload_n 0 dX12_swaps_9 rfl ?_
    refine xi_iload_n 1 dX12_swaps_10 rfl ?_
    refine xi_iload_n 3 dX12_swaps_11 rfl ?_
    refine xi_callV (as := [.int (nI e2), .int t]) (rest := []) dX12_swaps_12 (FX12_isPoint_ok G hP i_keptMany i_taped i_faultKind i_faultPlace i_spot i_begin i_token i_value i_bad i_full i_bandRows i_bandFirsts i_outs f_state f_was f_kept f_tape f_order f_rest f_ways f_costs f_bandBest f_found f_drawn f_joined f_out (by omega) (by omega) (by omega) (by omega) (by omega) (by omega) hG ((nI e2)) t _ rfl (fun r => r = FX12_isPoint f_state ((nI e2)) t) rfl) mkX12_isPoint w_1257 ws_63 w_1255 (xpg0 hP rfl) rfl rfl rfl rfl (Nat.le_of_ble_eq_true rfl) (Nat.le_of_ble_eq_true rfl) (Nat.le_of_ble_eq_true rfl) (Nat.le_of_ble_eq_true rfl) (Nat.le_of_ble_eq_true rfl) ?_
    intro v M2 hz
    obtain ⟨_, rfl, rfl, rfl⟩ := hz
    show xW _ _ _ _ 15 _ [.int (FX12_isPoint f_state ((nI e2)) t)] (P ++ (MDL L i_keptMany i_taped i_faultKind i_faultPlace i_spot i_begin i_token i_value i_bad i_full i_bandRows i_bandFirsts i_outs f_state f_was f_kept f_tape f_order f_rest f_ways f_costs f_bandBest f_found f_drawn f_joined f_out ++ R)) _ _
    refine xi_if_ne (tgt := 21) dX12_swaps_15 (by decide) (fun c4 => ?_) (fun c4 => ?_)
    · rw [if_neg c4] at hq
      obtain ⟨e5, e5b, e5h⟩ := point_in2 hG c4
      rw [nI_clamp (by omega)] at e5b
      have e5c : t.toNatClampNeg = e5 := by rw [e5h]; exact nI_clamp (by omega)
      try rw [e5c] at hq
      subst e5h
      refine xi_aload_n 0 dX12_swaps_21 rfl ?_
      refine xi_iload_n 1 dX12_swaps_22 rfl ?_
      refine xi_iload_n 2 dX12_swaps_23 rfl ?_
      refine xi_callV (as := [.int (nI e2), .int (nI e3)]) (rest := []) dX12_swaps_24 (FX12_at_ok G hP i_keptMany i_taped i_faultKind i_faultPlace i_spot i_begin i_token i_value i_bad i_full i_bandRows i_bandFirsts i_outs f_state f_was f_kept f_tape f_order f_rest f_ways f_costs f_bandBest f_found f_drawn f_joined f_out (by omega) (by omega) (by omega) (by omega) (by omega) (by omega) e2 (by omega) e3 (by omega) _ rfl (fun r => r = nI ((f_state (91 * e2 + 82 + e3)).toNatClampNeg)) (((hG e2 (by omega)).2 e3 (by omega)).1)) mkX12_at w_1273 ws_64 w_1271 (xpg0 hP rfl) rfl rfl rfl rfl (Nat.le_of_ble_eq_true rfl) (Nat.le_of_ble_eq_true rfl) (Nat.le_of_ble_eq_true rfl) (Nat.le_of_ble_eq_true rfl) (Nat.le_of_ble_eq_true rfl) ?_
      intro v M2 hz
      obtain ⟨_, rfl, rfl, rfl⟩ := hz
      show xW _ _ _ _ 27 _ [.int (nI ((f_state (91 * e2 + 82 + e3)).toNatClampNeg))] (P ++ (MDL L i_keptMany i_taped i_faultKind i_faultPlace i_spot i_begin i_token i_value i_bad i_full i_bandRows i_bandFirsts i_outs f_state f_was f_kept f_tape f_order f_rest f_ways f_costs f_bandBest f_found f_drawn f_joined f_out ++ R)) _ _
      have o6 := ((hG e2 (by omega)).2 e3 (by omega)).2
      refine xi_istore (lv' := [(4, .int (nI ((f_state (91 * e2 + 82 + e3)).toNatClampNeg))), (0, .ref L), (1, .int (nI e2)), (2, .int (nI e3)), (3, .int (nI e5))]) dX12_swaps_27 (by decide) rfl ?_
      refine xi_aload_n 1 dX12_swaps_29 rfl ?_
      refine xi_iload_n 2 dX12_swaps_30 rfl ?_
      refine xi_callV (as := [.int (nI e2)]) (rest := []) dX12_swaps_31 (FX12k_laysRow_ok G hP i_keptMany i_taped i_faultKind i_faultPlace i_spot i_begin i_token i_value i_bad i_full i_bandRows i_bandFirsts i_outs f_state f_was f_kept f_tape f_order f_rest f_ways f_costs f_bandBest f_found f_drawn f_joined f_out (by omega) (by omega) (by omega) (by omega) (by omega) (by omega) hG hE hR e2 (by omega) _ rfl (fun r => r = FX12k_laysRow f_state f_order e2) rfl) mkX12_laysRow w_1292 ws_66 w_1290 (xpg0 hP rfl) rfl rfl rfl rfl (Nat.le_of_ble_eq_true rfl) (Nat.le_of_ble_eq_true rfl) (Nat.le_of_ble_eq_true rfl) (Nat.le_of_ble_eq_true rfl) (Nat.le_of_ble_eq_true rfl) ?_
      intro v M2 hz
      obtain ⟨_, rfl, rfl, hk7, hp8, rfl⟩ := hz
      show xW _ _ _ _ 34 _ [] (P ++ (MDL L i_keptMany i_taped i_faultKind i_faultPlace i_spot i_begin i_token i_value i_bad i_full i_bandRows i_bandFirsts i_outs f_state f_was f_kept f_tape ((FX12k_laysRow f_state f_order e2).2) f_rest f_ways f_costs f_bandBest f_found f_drawn f_joined f_out ++ R)) _ _
      refine xi_aload_n 1 dX12_swaps_34 rfl ?_
      refine xi_iload_n 3 dX12_swaps_35 rfl ?_
      refine xi_iload_n 4 dX12_swaps_36 rfl ?_
      refine xi_callV (as := [.int (nI e3), .int (nI e5)]) (rest := []) dX12_swaps_37 (FX12k_exchanges_ok G hP i_keptMany i_taped i_faultKind i_faultPlace i_spot i_begin i_token i_value i_bad i_full i_bandRows i_bandFirsts i_outs f_state f_was f_kept f_tape ((FX12k_laysRow f_state f_order e2).2) f_rest f_ways f_costs f_bandBest f_found f_drawn f_joined f_out (by omega) (by omega) (by omega) (by omega) (by omega) (by omega) hk7 e3 (by omega) e5 (by omega) _ rfl (fun r => r = FX12k_exchanges ((FX12k_laysRow f_state f_order e2).2) e3 e5) rfl) mkX12_exchanges w_1452 ws_87 w_1450 (xpg0 hP rfl) rfl rfl rfl rfl (Nat.le_of_ble_eq_true rfl) (Nat.le_of_ble_eq_true rfl) (Nat.le_of_ble_eq_true rfl) (Nat.le_of_ble_eq_true rfl) (Nat.le_of_ble_eq_true rfl) ?_
      intro v M2 hz
      obtain ⟨_, rfl, rfl, hk9, rfl⟩ := hz
      show xW _ _ _ _ 40 _ [] (P ++ (MDL L i_keptMany i_taped i_faultKind i_faultPlace i_spot i_begin i_token i_value i_bad i_full i_bandRows i_bandFirsts i_outs f_state f_was f_kept f_tape ((FX12k_exchanges ((FX12k_laysRow f_state f_order e2).2) e3 e5).2) f_rest f_ways f_costs f_bandBest f_found f_drawn f_joined f_out ++ R)) _ _
      refine xi_aload_n 1 dX12_swaps_40 rfl ?_
      refine xi_iload_n 2 dX12_swaps_41 rfl ?_
      refine xi_callV (as := [.int (nI e2)]) (rest := []) dX12_swaps_42 (FX12_takesRow_ok G hP i_keptMany i_taped i_faultKind i_faultPlace i_spot i_begin i_token i_value i_bad i_full i_bandRows i_bandFirsts i_outs f_state f_was f_kept f_tape ((FX12k_exchanges ((FX12k_laysRow f_state f_order e2).2) e3 e5).2) f_rest f_ways f_costs f_bandBest f_found f_drawn f_joined f_out (by omega) (by omega) (by omega) (by omega) (by omega) (by omega) hG hE hk9 hT hW hK e2 (by omega) (by first | assumption | exact PM_ex (by assumption) (by omega) (by omega) (by omega) (by assumption)) _ rfl (fun r => r = FX12_takesRow i_keptMany f_state f_was f_kept ((FX12k_exchanges ((FX12k_laysRow f_state f_order e2).2) e3 e5).2) e2) rfl) mkX12_takesRow w_1460 ws_88 w_1458 (xpg0 hP rfl) rfl rfl rfl rfl (Nat.le_of_ble_eq_true rfl) (Nat.le_of_ble_eq_true rfl) (Nat.le_of_ble_eq_true rfl) (Nat.le_of_ble_eq_true rfl) (Nat.le_of_ble_eq_true rfl) ?_
      intro v M2 hz
      obtain ⟨_, rfl, rfl, hk10, hk11, hk12, hk13, hk14, hn15, rfl⟩ := hz
      show xW _ _ _ _ 45 _ [.int ((FX12_takesRow i_keptMany f_state f_was f_kept ((FX12k_exchanges ((FX12k_laysRow f_state f_order e2).2) e3 e5).2) e2).1)] (P ++ (MDL L ((FX12_takesRow i_keptMany f_state f_was f_kept ((FX12k_exchanges ((FX12k_laysRow f_state f_order e2).2) e3 e5).2) e2).2.2.2.1) i_taped i_faultKind i_faultPlace i_spot i_begin i_token i_value i_bad i_full i_bandRows i_bandFirsts i_outs ((FX12_takesRow i_keptMany f_state f_was f_kept ((FX12k_exchanges ((FX12k_laysRow f_state f_order e2).2) e3 e5).2) e2).2.1) ((FX12_takesRow i_keptMany f_state f_was f_kept ((FX12k_exchanges ((FX12k_laysRow f_state f_order e2).2) e3 e5).2) e2).2.2.1) ((FX12_takesRow i_keptMany f_state f_was f_kept ((FX12k_exchanges ((FX12k_laysRow f_state f_order e2).2) e3 e5).2) e2).2.2.2.2) f_tape ((FX12k_exchanges ((FX12k_laysRow f_state f_order e2).2) e3 e5).2) f_rest f_ways f_costs f_bandBest f_found f_drawn f_joined f_out ++ R)) _ _
      refine xi_istore (lv' := [(5, .int ((FX12_takesRow i_keptMany f_state f_was f_kept ((FX12k_exchanges ((FX12k_laysRow f_state f_order e2).2) e3 e5).2) e2).1)), (4, .int (nI ((f_state (91 * e2 + 82 + e3)).toNatClampNeg))), (0, .ref L), (1, .int (nI e2)), (2, .int (nI e3)), (3, .int (nI e5))]) dX12_swaps_45 (by decide) rfl ?_
      refine xi_iload 1 dX12_swaps_47 rfl ?_
      exact xi_iret dX12_swaps_49 rfl rfl (Nat.le_of_ble_eq_true rfl) (Nat.le_of_ble_eq_true rfl) ⟨_, rfl, hq, hk10, hk11, hk9, hk12, hk13, hk14, (by show ((FX12_takesRow i_keptMany f_state f_was f_kept ((FX12k_exchanges ((FX12k_laysRow f_state f_order e2).2) e3 e5).2) e2).2.2.2.1) ≤ 10; omega), rfl⟩
    · rw [if_pos c4] at hq
      refine xi_bipush (v := (-2)) dX12_swaps_18 (by decide) ?_
      exact xi_iret dX12_swaps_20 rfl rfl (Nat.le_of_ble_eq_true rfl) (Nat.le_of_ble_eq_true rfl) ⟨_, rfl, hq, hG, hE, hR, hT, hW, hK, (by show i_keptMany ≤ 10; omega), rfl⟩
