/-! the class is fed, ended, told (wip/ext/g45.py) -/
theorem xX1_hasRoom {t : St} {k j : Nat} (ek : t 1 1 = nI k) (hk : k < 401) (hj : j < 100) : Ok (FX1_hasRoom_1 (nI j) t) (fun r u => t = u ∧ ((r = 0 ∧ 400 < k + j) ∨ (r = 1 ∧ k + j ≤ 400))) := by
  unfold FX1_hasRoom_1
  refine Ok.rd (fun v1 h1 => ?_)
  rw [ek] at h1
  subst h1
  have e4 : Int32.ofNat 400 = nI 400 := rfl
  rw [nI_add, e4]
  refine Ok.ite (fun c => Ok.ret ⟨rfl, Or.inl ⟨rfl, ?_⟩⟩) (fun c => Ok.ret ⟨rfl, Or.inr ⟨rfl, ?_⟩⟩)
  · rw [nI_ltP (by omega) (by omega)] at c
    exact c
  · rw [nI_ltP (by omega) (by omega)] at c
    omega
/-- only the tape has changed, and so much is taped -/
def TP (t : St) (k : Nat) (u : St) : Prop := TY u ∧ (∀ b, b ≠ 1 → b ≠ 2 → u b = t b) ∧ u 1 1 = nI k
theorem xX1_put {t u : St} {k : Nat} (h : TP t k u) (hk : k < 400) {a : Int32} : Ok (FX1_put_1 a u) (fun _ w => TP t (k + 1) w) := by
  unfold FX1_put_1
  obtain ⟨hT, ho, e1⟩ := h
  refine Ok.bd _ (xX1_hasRoom (j := 1) e1 (by omega) (by omega)) ?_
  rintro v _ ⟨rfl, hv⟩
  refine Ok.ite (fun c => ?_) (fun _ => ?_)
  · rcases hv with ⟨-, h⟩ | ⟨h, -⟩
    · omega
    · exact absurd (h.symm.trans c) (by decide)
  refine Ok.rd (fun v6 h6 => ?_)
  rw [e1] at h6
  subst h6
  refine Ok.ck (inb_n (by omega) (by omega)) (fun _ => Ok.wr (fun w ew => Ok.rd (fun v11 h11 => Ok.wr (fun x ex => ?_))))
  rw [wo ew (by decide), e1] at h11
  subst h11
  rw [nI_1] at ex
  refine Ok.ret ⟨?_, fun b h1 h2 => by rw [wo ex h1, wo ew h2]; exact ho b h1 h2, by rw [ex, wr_at, pk_us]⟩
  rw [ex]
  refine TY.wr ?_ (Or.inr (by rw [ty_11]; exact ⟨k + 1, by omega, rfl⟩))
  rw [ew]
  exact hT.wr (Or.inl rfl)
theorem xX1_putFour {t u : St} {k : Nat} (h : TP t k u) (hk : k + 4 ≤ 400) {a : Int32} : Ok (FX1_putFour_1 a u) (fun _ w => TP t (k + 4) w) := by
  unfold FX1_putFour_1
  refine Ok.bd _ (xX1_put h (by omega)) ?_
  rintro _ w1 h1
  refine Ok.bd _ (xX1_put h1 (by omega)) ?_
  rintro _ w2 h2
  refine Ok.bd _ (xX1_put h2 (by omega)) ?_
  rintro _ w3 h3
  refine Ok.bd _ (xX1_put h3 (by omega)) ?_
  rintro _ w4 h4
  exact Ok.ret h4
theorem gX11_feed {t : St} (hT : TY t) {k : Nat} (ek : t 1 1 = nI k) (hk : k < 401) {a b c d e : Int32} : Ok (FX11_feed a b c d e t) (fun r u => (380 < k ∧ r = -1 ∧ t = u) ∨ (k ≤ 380 ∧ r = nI (k + 20) ∧ TP t (k + 20) u)) := by
  unfold FX11_feed
  refine Ok.bd _ (xX1_hasRoom (j := 20) ek hk (by omega)) ?_
  rintro v _ ⟨rfl, hv⟩
  refine Ok.ite (fun c => Ok.ret (Or.inl ⟨?_, rfl, rfl⟩)) (fun c => ?_)
  · rcases hv with ⟨-, h⟩ | ⟨h, -⟩
    · omega
    · exact absurd (h.symm.trans c) (by decide)
  have h20 := (hv.resolve_left (fun h => c h.1)).2
  have h0 : TP t k t := ⟨hT, fun _ _ _ => rfl, ek⟩
  refine Ok.bd _ (xX1_putFour h0 (by omega)) ?_
  rintro _ w1 h1
  refine Ok.bd _ (xX1_putFour h1 (by omega)) ?_
  rintro _ w2 h2
  refine Ok.bd _ (xX1_putFour h2 (by omega)) ?_
  rintro _ w3 h3
  refine Ok.bd _ (xX1_putFour h3 (by omega)) ?_
  rintro _ w4 h4
  refine Ok.bd _ (xX1_putFour h4 (by omega)) ?_
  rintro _ w5 h5
  exact Ok.rd (fun v20 h20 => Ok.ret (Or.inr ⟨by omega, h20.trans h5.2.2, h5⟩))
theorem gX11_end {t : St} (hT : TY t) {k : Nat} (ek : t 1 1 = nI k) (hk : k < 401) {a : Int32} : Ok (FX11_end a t) (fun r u => (r = -1 ∧ t = u ∧ ¬ (0 ≤ a.toInt ∧ a.toInt ≤ k)) ∨ (r = a ∧ ∃ j, j ≤ k ∧ a = nI j ∧ TP t j u)) := by
  unfold FX11_end
  have z : (0 : Int32).toInt = 0 := by decide
  refine Ok.ite (fun c => Ok.ret (Or.inl ⟨rfl, rfl, ?_⟩)) (fun c => ?_)
  · rw [Int32.lt_iff_toInt_lt, z] at c
    omega
  obtain ⟨j, hj, rfl⟩ := nI_of c
  refine Ok.rd (fun v3 h3 => ?_)
  rw [ek] at h3
  subst h3
  refine Ok.ite (fun c2 => ?_) (fun c2 => Ok.ret (Or.inl ⟨rfl, rfl, ?_⟩))
  · rw [nI_leP hj (by omega)] at c2
    refine Ok.wr (fun w ew => Ok.ret (Or.inr ⟨rfl, j, c2, rfl, ?_, fun b h1 _ => by rw [wo ew h1], by rw [ew, wr_at, pk_us]⟩))
    rw [ew]
    exact hT.wr (Or.inr (by rw [ty_11]; exact ⟨j, by omega, rfl⟩))
  · rw [nI_leP hj (by omega)] at c2
    rw [nI_toInt hj]
    omega
theorem GC.tap {σ t u : St} {v : Int32} (h : GC σ t) (e : u = wr t 1 1 v) (hv : IsR 401 v) : GC (wr σ 1 1 v) u := by
  refine ⟨by rw [e]; exact h.1.wr (Or.inr (by rw [ty_11]; exact hv)), fun b hb => ?_⟩
  by_cases q : b = 1
  · subst q
    rw [e, wr_at, wr_at, h.2 1 (by omega)]
  · rw [e, wr_off b q, wr_off b q]
    exact h.2 b hb
theorem gX11_told {σ t : St} (hG : GC σ t) {a : Int32} : Ok (FX11_told a t) (fun r u => (¬ IsR 3 a ∧ t = u) ∨ (IsR 3 a ∧ GC (wr σ 1 1 0) u)) := by
  unfold FX11_told
  refine Ok.bd (fun v u => t = u ∧ ((v = 0 ∧ ¬ IsR 3 a) ∨ (v = 1 ∧ IsR 3 a))) ?_ ?_
  · unfold FX11_isSlot
    refine Ok.ite (fun c => Ok.ret ⟨rfl, Or.inl ⟨rfl, ?_⟩⟩) (fun c => ?_)
    · rintro ⟨k, hk, rfl⟩
      rw [li_0, nI_ltP (by omega) (by omega)] at c
      omega
    obtain ⟨j, hj, rfl⟩ := nI_of c
    refine Ok.ite (fun c2 => Ok.ret ⟨rfl, Or.inl ⟨rfl, ?_⟩⟩) (fun c2 => Ok.ret ⟨rfl, Or.inr ⟨rfl, j, ?_, rfl⟩⟩)
    · rintro ⟨k, hk, e⟩
      have := nI_inj e (by omega) (by omega)
      rw [li_3, nI_leP (by omega) (by omega)] at c2
      omega
    · rw [li_3, nI_leP (by omega) (by omega)] at c2
      omega
  rintro v _ ⟨rfl, hv⟩
  refine Ok.ite (fun c => Ok.ret (Or.inl ⟨(hv.resolve_right (fun h => absurd (h.1.symm.trans c) (by decide))).2, rfl⟩)) (fun c => ?_)
  have ha := (hv.resolve_left (fun h => c h.1)).2
  refine Ok.bd _ (gX7_readAll hG) ?_
  rintro v5 t6 ⟨g6, -, -⟩
  refine Ok.wr (fun t8 e8 => ?_)
  have g8 := g6.tap e8 ⟨0, by omega, rfl⟩
  refine Ok.ite (fun _ => Ok.ret (Or.inr ⟨ha, g8⟩)) (fun _ => ?_)
  have hel := el_10 ha
  refine Ok.ck (ha.ib (by decide)) (fun _ => Ok.ck hel (fun _ => ?_))
  refine Ok.bd _ (gX5_copyFrom g8 (by decide +kernel) hel) ?_
  rintro _ t14 ⟨g14, -⟩
  refine Ok.bd _ (gX5_copyFrom g14 hel (by decide +kernel)) ?_
  rintro _ t17 ⟨g17, -⟩
  refine Ok.bd _ (gX11_noteAct g17 ha) ?_
  rintro _ t20 ⟨g20, -⟩
  exact Ok.rd (fun v _ => Ok.ret (Or.inr ⟨ha, g20⟩))
