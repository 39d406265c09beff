/-! the reference: what it keeps to; rows changed (wip/ext/g33.py) -/
def PI (t : St) : Prop := PEs (t 150) ∧ PEs (t 151) ∧ ∀ m, m < 10 → PEs (fun i => t 152 (273 * m + i))
/-- the reference's places but tape and how long it is may change -/
def GM (σ t : St) : Prop := TY t ∧ (∀ b, (b < 149 ∨ b = 153) → t b = σ b) ∧ t 149 5 = σ 149 5 ∧ PI t
theorem GM.tt {σ t : St} (h : GM σ t) : TY t := h.1
theorem GM.pe {σ t : St} (h : GM σ t) : PEs (t 150) := h.2.2.2.1
theorem GM.wrX {σ t u : St} (h : GM σ t) {a i : Nat} {v : Int32} (e : u = wr t a i v) (ha : 154 ≤ a ∨ (a = 149 ∧ i ≠ 5)) (hT : TY u) : GM σ u := by
  subst e
  refine ⟨hT, fun b hb => ?_, ?_, ?_⟩
  · rw [wr_off b (by omega)]
    exact h.2.1 b hb
  · rw [← h.2.2.1]
    by_cases e : a = 149
    · subst e
      rw [wr_at]
      exact pk_un (by omega)
    · rw [wr_off 149 (by omega)]
  · unfold PI
    rw [wr_off 150 (by omega), wr_off 151 (by omega), wr_off 152 (by omega)]
    exact h.2.2.2
theorem GM.wrT {σ t u : St} (h : GM σ t) {a i m : Nat} {v : Int32} (e : u = wr t a i v) (ha : 154 ≤ a ∨ (a = 149 ∧ i ≠ 5)) (hm : ty a i = m) (hv : IsR m v) : GM σ u :=
  h.wrX e ha (by subst e; exact h.1.wr (Or.inr (by rw [hm]; exact hv)))
theorem GM.wrU {σ t u : St} (h : GM σ t) {a i : Nat} {v : Int32} (e : u = wr t a i v) (ha : 154 ≤ a ∨ (a = 149 ∧ i ≠ 5)) (hm : ty a i = 0) : GM σ u :=
  h.wrX e ha (by subst e; exact h.1.wr (Or.inl hm))
theorem PEs.congr {g f : Nat → Int32} (h : PEs g) (h1 : ∀ s, s < 3 → f (91 * s) = g (91 * s)) (h2 : ∀ s i, s < 3 → i < 9 → f (91 * s + 82 + i) = g (91 * s + 82 + i)) : PEs f := by
  intro s hs n en hn p hp
  rw [h1 s hs] at en
  obtain ⟨i, hi, e⟩ := h s hs n en hn p hp
  exact ⟨i, hi, by rw [h2 s i hs (by omega)]; exact e⟩
theorem PEs.eq {g f : Nat → Int32} (h : PEs g) (h1 : ∀ k, k < 273 → f k = g k) : PEs f := h.congr (fun s hs => h1 _ (by omega)) (fun s i hs hi => h1 _ (by omega))
/-- a slot's contents are written anew -/
theorem GM.st {σ t : St} (h : GM σ t) {f : Nat → Int32} (hT : ∀ i, i < 273 → IsR (if 82 ≤ i % 91 then 9 else 10) (f i)) (hp : PEs f) : GM σ (stp t 150 f) := by
  refine ⟨h.1.stp (fun i hi => ?_), fun b hb => ?_, ?_, ?_, ?_, ?_⟩
  · have h273 : i < 273 := by
      rcases Nat.lt_or_ge i 273 with q | q
      · exact q
      · have : ty 150 i = 0 := by
          show (if i < 273 then (if 82 ≤ i % 91 then 9 else 10) else 0) = 0
          rw [if_neg (by omega)]
        omega
    rw [ty_st h273]
    exact hT i h273
  · rw [stp_off (by omega)]; exact h.2.1 b hb
  · rw [stp_off (by decide)]; exact h.2.2.1
  · rw [stp_at]; exact hp
  · rw [stp_off (by decide)]; exact h.2.2.2.2.1
  · rw [stp_off (by decide)]; exact h.2.2.2.2.2
theorem GM.ts {σ t : St} (h : GM σ t) {i : Nat} (hi : i < 273) : IsR (if 82 ≤ i % 91 then 9 else 10) (t 150 i) := h.1.rd (ty_st hi) (by split <;> omega)
theorem GM.rem {σ t : St} (h : GM σ t) : GM σ (stp t 151 (fun k => if k < 273 then t 150 k else t 151 k)) := by
  refine ⟨h.1.stp (fun i hi => ?_), fun b hb => ?_, ?_, ?_, ?_, ?_⟩
  · by_cases q : i < 273
    · rw [if_pos q]
      exact h.1 150 i hi
    · rw [if_neg q]
      exact h.1 151 i hi
  · rw [stp_off (by omega)]; exact h.2.1 b hb
  · rw [stp_off (by decide)]; exact h.2.2.1
  · rw [stp_off (by decide)]; exact h.2.2.2.1
  · rw [stp_at]
    exact h.2.2.2.1.eq (fun k hk => by rw [if_pos hk])
  · rw [stp_off (by decide)]; exact h.2.2.2.2.2
theorem ty_kp {i : Nat} : ty 152 i = if i < 2730 then (if 82 ≤ i % 91 then 9 else 10) else 0 := rfl
theorem ty_was {i : Nat} : ty 151 i = if i < 273 then (if 82 ≤ i % 91 then 9 else 10) else 0 := rfl
theorem GM.kq {σ t : St} (h : GM σ t) {m : Nat} (hm : m < 10) : GM σ (kpt t m) := by
  show GM σ (stp (stp t 152 (fun k => if k < 273 * m then t 152 k else if k < 273 * m + 273 then t 151 (k - 273 * m) else t 152 k)) 149 (upd (t 149) 3 (nI (m + 1))))
  refine ⟨?_, fun b hb => ?_, ?_, ?_, ?_, ?_⟩
  · refine (h.1.stp (fun i hi => ?_)).stp (fun i hi => ?_)
    · by_cases q : i < 273 * m
      · rw [if_pos q]; exact h.1 152 i hi
      · rw [if_neg q]
        by_cases q2 : i < 273 * m + 273
        · rw [if_pos q2]
          have e : ty 152 i = ty 151 (i - 273 * m) := by
            have : i % 91 = (i - 273 * m) % 91 := by
              obtain ⟨d, rfl⟩ : ∃ d, i = 273 * m + d := ⟨i - 273 * m, by omega⟩
              rw [Nat.add_sub_cancel_left, show 273 * m + d = 91 * (3 * m) + d by omega, Nat.mul_add_mod]
            have a1 : ty 152 i = (if 82 ≤ i % 91 then 9 else 10) := by
              rw [ty_kp]
              exact if_pos (by omega)
            have a2 : ty 151 (i - 273 * m) = (if 82 ≤ (i - 273 * m) % 91 then 9 else 10) := by
              rw [ty_was]
              exact if_pos (by omega)
            rw [a1, a2, this]
          rw [e]
          exact h.1 151 _ (by rw [← e]; exact hi)
        · rw [if_neg q2]; exact h.1 152 i hi
    · by_cases q : i = 3
      · subst q
        rw [pk_us, ty_m3]
        exact ⟨m + 1, by omega, rfl⟩
      · rw [pk_un q]
        exact h.1 149 i hi
  · rw [stp_off (by omega), stp_off (by omega)]; exact h.2.1 b hb
  · rw [stp_at, pk_un (by decide)]; exact h.2.2.1
  · rw [stp_off (by decide), stp_off (by decide)]; exact h.2.2.2.1
  · rw [stp_off (by decide), stp_off (by decide)]; exact h.2.2.2.2.1
  · rw [stp_off (by decide), stp_at]
    intro q hq
    by_cases e : q = m
    · subst e
      refine h.2.2.2.2.1.eq (fun k hk => ?_)
      rw [if_neg (by omega), if_pos (by omega), Nat.add_sub_cancel_left]
    · refine (h.2.2.2.2.2 q hq).eq (fun k hk => ?_)
      by_cases q1 : 273 * q + k < 273 * m
      · rw [if_pos q1]
      · rw [if_neg q1, if_neg (by omega)]
theorem GM.fq {σ t : St} (h : GM σ t) : GM σ (fgt t) := by
  show GM σ (stp (stp t 152 (fun k => if k < 2457 then t 152 (k + 273) else t 152 k)) 149 (upd (t 149) 3 (nI 9)))
  refine ⟨?_, fun b hb => ?_, ?_, ?_, ?_, ?_⟩
  · refine (h.1.stp (fun i hi => ?_)).stp (fun i hi => ?_)
    · by_cases q : i < 2457
      · rw [if_pos q]
        have e : ty 152 i = ty 152 (i + 273) := by
          have a1 : ty 152 i = (if 82 ≤ i % 91 then 9 else 10) := by
            rw [ty_kp]
            exact if_pos (by omega)
          have a2 : ty 152 (i + 273) = (if 82 ≤ (i + 273) % 91 then 9 else 10) := by
            rw [ty_kp]
            exact if_pos (by omega)
          rw [a1, a2, show i + 273 = 91 * 3 + i by omega, Nat.mul_add_mod]
        rw [e]
        exact h.1 152 _ (by rw [← e]; exact hi)
      · rw [if_neg q]; exact h.1 152 i hi
    · by_cases q : i = 3
      · subst q
        rw [pk_us, ty_m3]
        exact ⟨9, by omega, rfl⟩
      · rw [pk_un q]
        exact h.1 149 i hi
  · rw [stp_off (by omega), stp_off (by omega)]; exact h.2.1 b hb
  · rw [stp_at, pk_un (by decide)]; exact h.2.2.1
  · rw [stp_off (by decide), stp_off (by decide)]; exact h.2.2.2.1
  · rw [stp_off (by decide), stp_off (by decide)]; exact h.2.2.2.2.1
  · rw [stp_off (by decide), stp_at]
    intro q hq
    by_cases e : q = 9
    · subst e
      refine (h.2.2.2.2.2 9 (by omega)).eq (fun k hk => ?_)
      rw [if_neg (by omega)]
    · refine (h.2.2.2.2.2 (q + 1) (by omega)).eq (fun k hk => ?_)
      rw [if_pos (by omega)]
      congr 1
      omega
theorem nX12_keeps {σ t : St} (hG : GM σ t) {a : Int32} : Ok (FX12_keeps a t) (fun r u => GM σ u ∧ True) := by
  obtain ⟨m, hm, em⟩ := hG.tt.rd ty_m3 (by omega)
  refine Ok.mono (xX12_keeps hm em) ?_
  rintro _ _ ⟨rfl, rfl⟩
  refine ⟨?_, True.intro⟩
  split
  · exact hG.fq.kq (by omega)
  · exact hG.kq (by omega)
theorem nX12_done {σ t : St} (hG : GM σ t) {a : Int32} : Ok (FX12_done a t) (fun r u => GM σ u ∧ True) := by
  obtain ⟨m, hm, em⟩ := hG.tt.rd ty_m3 (by omega)
  refine Ok.mono (xX12_done hm em) ?_
  rintro _ _ ⟨rfl, ⟨rfl, -⟩ | ⟨rfl, -⟩⟩
  · exact ⟨hG, True.intro⟩
  · refine ⟨?_, True.intro⟩
    split
    · exact hG.fq.kq (by omega)
    · exact hG.kq (by omega)
theorem nX12_undo {σ t : St} (hG : GM σ t) : Ok (FX12_undo t) (fun r u => GM σ u ∧ True) := by
  obtain ⟨m, hm, em⟩ := hG.tt.rd ty_m3 (by omega)
  refine Ok.mono (xX12_undo hm em) ?_
  intro r u h
  by_cases c : m = 0
  · rw [if_pos c] at h
    rw [h.2]
    exact ⟨hG, True.intro⟩
  · rw [if_neg c] at h
    rw [h.2]
    have h1 : GM σ (stp t 149 (upd (t 149) 3 (nI (m - 1)))) := hG.wrT (u := wr t 149 3 (nI (m - 1))) rfl (by omega) ty_m3 ⟨m - 1, by omega, rfl⟩
    refine ⟨h1.st (fun i hi => ?_) ((hG.2.2.2.2.2 (m - 1) (by omega)).eq (fun k hk => by rw [if_pos hk])), True.intro⟩
    rw [if_pos hi]
    have := hG.1 152 (273 * (m - 1) + i) (by rw [ty_kp, if_pos (by omega)]; split <;> omega)
    rw [ty_kp, if_pos (by omega), show (273 * (m - 1) + i) = 91 * (3 * (m - 1)) + i by omega, Nat.mul_add_mod] at this
    rw [show (273 * (m - 1) + i) = 91 * (3 * (m - 1)) + i by omega]
    exact this
theorem GM.emp {σ t : St} (h : GM σ t) {s : Nat} (hs : s < 3) : GM σ (stp t 150 (fun k => if 91 * s ≤ k ∧ k < 91 * s + 91 then 0 else t 150 k)) := by
  refine h.st (fun i hi => ?_) (fun s' hs' n en hn p hp => ?_)
  · by_cases q : 91 * s ≤ i ∧ i < 91 * s + 91
    · rw [if_pos q]
      refine ⟨0, ?_, rfl⟩
      split <;> omega
    · rw [if_neg q]
      exact h.ts hi
  · by_cases e : s' = s
    · subst e
      rw [if_pos (by omega)] at en
      have := nI_inj (a := 0) en (by omega) (by omega)
      omega
    · have hne : ¬ (91 * s ≤ 91 * s' ∧ 91 * s' < 91 * s + 91) := by omega
      rw [if_neg hne] at en
      obtain ⟨i, hi, ei⟩ := h.pe s' hs' n en hn p hp
      refine ⟨i, hi, ?_⟩
      show (if 91 * s ≤ 91 * s' + 82 + i ∧ 91 * s' + 82 + i < 91 * s + 91 then 0 else t 150 (91 * s' + 82 + i)) = nI p
      rw [if_neg (by omega)]
      exact ei
theorem nX12_drops {σ t : St} (hG : GM σ t) {a : Int32} : Ok (FX12_drops a t) (fun r u => GM σ u ∧ True) := by
  unfold FX12_drops
  refine Ok.bd _ (rX12_isSlot hG.tt) ?_
  rintro v _ ⟨rfl, -, hv⟩
  refine Ok.ite (fun _ => Ok.ret ⟨hG, True.intro⟩) (fun c => ?_)
  obtain ⟨s, hs, rfl⟩ := hv.resolve_left c
  refine Ok.bd _ (rX12_isNet hG.tt) ?_
  rintro v _ ⟨rfl, -, -⟩
  refine Ok.ite (fun _ => Ok.ret ⟨hG, True.intro⟩) (fun _ => ?_)
  refine Ok.bd _ xX12_remembers ?_
  rintro _ _ rfl
  have h1 := hG.rem
  refine Ok.bd _ (xX12_empties hs) ?_
  rintro _ _ rfl
  have h2 := h1.emp hs
  refine Ok.bd _ (nX12_keeps h2) ?_
  rintro r u ⟨hu, -⟩
  exact Ok.ret ⟨hu, True.intro⟩
/-- a row that has every point below n -/
def PM (n : Nat) (f : Nat → Int32) : Prop := ∀ p, p < n → ∃ i, i < n ∧ f i = nI p
/-- only the row that is looked at has changed, and it has every point -/
def OD (t : St) (n : Nat) (u : St) : Prop := TY u ∧ (∀ b, b ≠ 154 → u b = t b) ∧ PM n (u 154)
theorem OD.gm {σ t u : St} {n : Nat} (h : OD t n u) (hG : GM σ t) : GM σ u := by
  refine ⟨h.1, fun b hb => ?_, ?_, ?_⟩
  · rw [h.2.1 b (by omega)]; exact hG.2.1 b hb
  · rw [h.2.1 149 (by decide)]; exact hG.2.2.1
  · unfold PI
    rw [h.2.1 150 (by decide), h.2.1 151 (by decide), h.2.1 152 (by decide)]
    exact hG.2.2.2
theorem xX12_laysRow {t : St} (hT : TY t) (hpe : PEs (t 150)) {s n : Nat} (hs : s < 3) (en : t 150 (91 * s) = nI n) (hn : n < 10) : Ok (FX12_laysRow (nI s) t) (fun _ u => OD t n u ∧ ∀ i, i < n → u 154 i = t 150 (91 * s + 82 + i)) := by
  unfold FX12_laysRow
  refine Ok.bd (fun _ u => (TY u ∧ (∀ b, b ≠ 154 → u b = t b)) ∧ ∀ i, i < n → u 154 i = t 150 (91 * s + 82 + i)) ?_ ?_
  · refine Ok.loop (fun k c u => ∃ j, c = nI j ∧ j ≤ n ∧ k = n - j ∧ (TY u ∧ (∀ b, b ≠ 154 → u b = t b)) ∧ ∀ i, i < j → u 154 i = t 150 (91 * s + 82 + i)) ?_ n _ _ ⟨0, rfl, by omega, rfl, ⟨hT, fun _ _ => rfl⟩, fun i hi => absurd hi (by omega)⟩
    intro k c u hI
    obtain ⟨j, rfl, hj, rfl, ⟨hT, hF⟩, hall⟩ := hI
    unfold SX12_laysRow_2
    refine Ok.bd _ (xX12_points hT hs) ?_
    rintro _ _ ⟨rfl, rfl⟩
    rw [hF 150 (by decide), en]
    refine Ok.ite (fun c1 => Ok.ret ?_) (fun c1 => ?_)
    · rw [nI_leP (by omega) (by omega)] at c1
      exact ⟨⟨hT, hF⟩, fun i hi => hall i (by omega)⟩
    · rw [nI_leP (by omega) (by omega)] at c1
      refine Ok.bd _ (xX12_at hT hs (i := j) (by omega)) ?_
      rintro _ _ ⟨rfl, rfl⟩
      refine Ok.ck (inb_n (by omega) (by omega)) (fun g => Ok.wr (fun w ew => ?_))
      rw [nI_cl (by omega), hF 150 (by decide)] at ew
      refine Ok.ret ⟨n - (j + 1), by omega, j + 1, nI_1 j, by omega, rfl, ⟨?_, fun b hb => ?_⟩, fun i hi => ?_⟩
      · subst ew
        exact hT.wr (Or.inr (by rw [ty_a154 (by omega)]; have := hT.rd (ty_o hs (i := j) (by omega)) (by omega); rw [hF 150 (by decide)] at this; exact this))
      · subst ew
        rw [wr_off b hb]
        exact hF b hb
      · subst ew
        rw [wr_at]
        by_cases e : i = j
        · subst e; exact pk_us
        · rw [pk_un e]; exact hall i (by omega)
  · rintro _ u ⟨⟨hT, hF⟩, hall⟩
    refine Ok.ret ⟨⟨hT, hF, fun p hp => ?_⟩, hall⟩
    obtain ⟨i, hi, ei⟩ := hpe s hs n en hn p hp
    exact ⟨i, hi, by rw [hall i hi]; exact ei⟩
theorem xX12_exchanges {t u : St} {n i j : Nat} (h : OD t n u) (hn : n < 10) (hi : i < n) (hj : j < n) : Ok (FX12_exchanges (nI i) (nI j) u) (fun _ w => OD t n w) := by
  obtain ⟨hT, hF, hP⟩ := h
  unfold FX12_exchanges
  refine Ok.ck (inb_n (by omega) (by omega)) (fun g => Ok.rd (fun v hv => Ok.ck (inb_n (by omega) (by omega)) (fun g => Ok.rd (fun v2 hv2 => Ok.ck (inb_n (by omega) (by omega)) (fun g => Ok.wr (fun w ew => Ok.ck (inb_n (by omega) (by omega)) (fun g => Ok.wr (fun z ez => ?_))))))))
  rw [nI_cl (by omega)] at hv hv2 ew ez
  have r1 : IsR 9 v := by rw [hv]; exact hT.rd (ty_a154 (by omega)) (by omega)
  have r2 : IsR 9 v2 := by rw [hv2]; exact hT.rd (ty_a154 (by omega)) (by omega)
  refine Ok.ret ⟨?_, fun b hb => ?_, fun p hp => ?_⟩
  · subst ez ew
    exact (hT.wr (Or.inr (by rw [ty_a154 (by omega)]; exact r2))).wr (Or.inr (by rw [ty_a154 (by omega)]; exact r1))
  · subst ez ew
    rw [wr_off b hb, wr_off b hb]
    exact hF b hb
  · obtain ⟨q, hq, eq⟩ := hP p hp
    subst ez ew
    rw [wr_at, wr_at]
    by_cases e1 : q = i
    · subst e1
      exact ⟨j, hj, by rw [pk_us, hv]; exact eq⟩
    · by_cases e2 : q = j
      · subst e2
        exact ⟨i, hi, by rw [pk_un (fun e => e1 e.symm), pk_us, hv2]; exact eq⟩
      · exact ⟨q, hq, by rw [pk_un e2, pk_un e1]; exact eq⟩
