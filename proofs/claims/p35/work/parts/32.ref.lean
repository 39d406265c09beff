section
/-! the reference: slots remembered, kept, undone (wip/ext/g32.py) -/
theorem mix_0 {f g : Nat → Int32} : (fun k => if k < 0 then f k else g k) = g := by
  funext k
  rw [if_neg (by omega)]
theorem mix_1 {f g : Nat → Int32} {j : Nat} : upd (fun k => if k < j then f k else g k) j (f j) = (fun k => if k < j + 1 then f k else g k) := by
  funext k
  by_cases e : k = j
  · subst e
    rw [pk_us, if_pos (by omega)]
  · rw [pk_un e]
    by_cases h : k < j
    · rw [if_pos h, if_pos (by omega)]
    · rw [if_neg h, if_neg (by omega)]
/-- one place's contents written anew -/
def stp (t : St) (a : Nat) (f : Nat → Int32) : St := fun b => if b = a then f else t b
theorem stp_at {t : St} {a : Nat} {f : Nat → Int32} : stp t a f a = f := if_pos rfl
theorem stp_off {t : St} {a b : Nat} {f : Nat → Int32} (h : b ≠ a) : stp t a f b = t b := if_neg h
theorem stp_self {t : St} {a : Nat} : stp t a (t a) = t := by
  funext b
  unfold stp
  split
  · rename_i h; rw [h]
  · rfl
theorem wr_stp {t : St} {a i : Nat} {f : Nat → Int32} {v : Int32} : wr (stp t a f) a i v = stp t a (upd f i v) := by
  funext b
  unfold wr stp
  by_cases h : b = a
  · rw [if_pos h, if_pos h, if_pos rfl]
  · rw [if_neg h, if_neg h, if_neg h]
theorem TY.stp {t : St} (h : TY t) {a : Nat} {f : Nat → Int32} (hf : ∀ i, 0 < ty a i → IsR (ty a i) (f i)) : TY (stp t a f) := by
  intro b i hb
  by_cases e : b = a
  · subst e
    rw [stp_at]
    exact hf i hb
  · rw [stp_off e]
    exact h b i hb
theorem xX12_remembers {t : St} : Ok (FX12_remembers t) (fun _ u => u = stp t 151 (fun k => if k < 273 then t 150 k else t 151 k)) := by
  unfold FX12_remembers
  refine Ok.bd (fun _ u => u = stp t 151 (fun k => if k < 273 then t 150 k else t 151 k)) ?_ (fun _ u h => Ok.ret h)
  refine Ok.loop (fun k c s => ∃ j, c = nI j ∧ j ≤ 273 ∧ k = 273 - j ∧ s = stp t 151 (fun k => if k < j then t 150 k else t 151 k)) ?_ 273 _ _ ⟨0, rfl, by omega, rfl, by rw [mix_0, stp_self]⟩
  intro k c s hI
  obtain ⟨j, rfl, hj, rfl, rfl⟩ := hI
  unfold SX12_remembers_2
  refine Ok.ite (fun c1 => Ok.ret ?_) (fun c1 => ?_)
  · rw [li_273, nI_leP (by omega) (by omega)] at c1
    rw [show j = 273 by omega]
    rfl
  · rw [li_273, nI_leP (by omega) (by omega)] at c1
    refine Ok.ck (inb_n (by omega) (by omega)) (fun _ => Ok.rd (fun v hv => Ok.ck (inb_n (by omega) (by omega)) (fun _ => Ok.wr (fun w ew => ?_))))
    rw [nI_cl (by omega), stp_off (by decide)] at hv
    rw [nI_cl (by omega), hv, wr_stp, mix_1] at ew
    exact Ok.ret ⟨273 - (j + 1), by omega, j + 1, nI_1 j, by omega, rfl, ew⟩
/-- what is kept, one put behind m others -/
def kpt (t : St) (m : Nat) : St := stp (stp t 152 (fun k => if k < 273 * m then t 152 k else if k < 273 * m + 273 then t 151 (k - 273 * m) else t 152 k)) 149 (upd (t 149) 3 (nI (m + 1)))
/-- the first of ten is forgotten -/
def fgt (t : St) : St := stp (stp t 152 (fun k => if k < 2457 then t 152 (k + 273) else t 152 k)) 149 (upd (t 149) 3 (nI 9))
theorem xSX12_keeps_52 {t : St} {m : Nat} {w : Int32} (hm : m < 10) (e3 : t 149 3 = nI m) : Ok (bnd (wh (SX12_keeps_52 w) (0 : Int32) t) (fun _ t18 => rdb t18 149 3 (fun v21 => wrb t18 149 3 (v21 + (1 : Int32)) (fun t23 => some (w, t23))))) (fun r u => r = w ∧ u = kpt t m) := by
  refine Ok.bd (fun _ u => u = stp t 152 (fun k => if k < 273 * m then t 152 k else if k < 273 * m + 273 then t 151 (k - 273 * m) else t 152 k)) ?_ ?_
  · refine Ok.loop (fun k c s => ∃ j, c = nI j ∧ j ≤ 273 ∧ k = 273 - j ∧ s = stp t 152 (fun k => if k < 273 * m then t 152 k else if k < 273 * m + j then t 151 (k - 273 * m) else t 152 k)) ?_ 273 _ _ ⟨0, rfl, by omega, rfl, ?_⟩
    · intro k c s hI
      obtain ⟨j, rfl, hj, rfl, rfl⟩ := hI
      unfold SX12_keeps_52
      refine Ok.ite (fun c1 => Ok.ret ?_) (fun c1 => ?_)
      · rw [li_273, nI_leP (by omega) (by omega)] at c1
        rw [show j = 273 by omega]
        rfl
      · rw [li_273, nI_leP (by omega) (by omega)] at c1
        refine Ok.rd (fun v9 h9 => ?_)
        rw [stp_off (by decide), e3] at h9
        subst h9
        refine Ok.ck (inb_n (by omega) (by omega)) (fun _ => Ok.rd (fun v hv => ?_))
        rw [nI_cl (by omega), stp_off (by decide)] at hv
        have e : (273 : Int32) * nI m + nI j = nI (273 * m + j) := by rw [li_273, nI_mul, nI_add]
        rw [e]
        refine Ok.ck (inb_n (by omega) (by omega)) (fun _ => Ok.wr (fun w ew => ?_))
        rw [nI_cl (by omega), wr_stp] at ew
        refine Ok.ret ⟨273 - (j + 1), by omega, j + 1, nI_1 j, by omega, rfl, ?_⟩
        rw [ew]
        congr 1
        funext q
        by_cases eq : q = 273 * m + j
        · subst eq
          rw [pk_us, if_neg (by omega), if_pos (by omega), hv]
          congr 1
          omega
        · rw [pk_un eq]
          by_cases h1 : q < 273 * m
          · rw [if_pos h1, if_pos h1]
          · rw [if_neg h1, if_neg h1]
            by_cases h2 : q < 273 * m + j
            · rw [if_pos h2, if_pos (by omega)]
            · rw [if_neg h2, if_neg (by omega)]
    · rw [show (fun k => if k < 273 * m then t 152 k else if k < 273 * m + 0 then t 151 (k - 273 * m) else t 152 k) = t 152 by
        funext k
        by_cases h1 : k < 273 * m
        · rw [if_pos h1]
        · rw [if_neg h1, if_neg (by omega)], stp_self]
  · rintro _ _ rfl
    refine Ok.rd (fun v hv => Ok.wr (fun u eu => Ok.ret ⟨rfl, ?_⟩))
    rw [stp_off (by decide), e3] at hv
    subst hv
    rw [eu, nI_1]
    unfold kpt
    funext b
    by_cases hb : b = 149
    · subst hb
      rw [wr_at, stp_at, stp_off (by decide)]
    · rw [wr_off b hb, stp_off hb]
theorem xX12_keeps {t : St} {m : Nat} {a : Int32} (hm : m < 11) (e3 : t 149 3 = nI m) : Ok (FX12_keeps a t) (fun r u => r = a ∧ u = if m = 10 then kpt (fgt t) 9 else kpt t m) := by
  unfold FX12_keeps
  refine Ok.rd (fun v1 h1 => ?_)
  rw [e3] at h1
  subst h1
  refine Ok.bd (fun _ u => u = if m = 10 then fgt t else t) ?_ ?_
  · refine Ok.ite (fun c => ?_) (fun c => ?_)
    · rw [li_10, nI_eqP (by omega) (by omega)] at c
      rw [if_pos c]
      refine Ok.bd (fun _ u => u = stp t 152 (fun k => if k < 2457 then t 152 (k + 273) else t 152 k)) ?_ ?_
      · refine Ok.loop (fun k c s => ∃ j, c = nI j ∧ j ≤ 2457 ∧ k = 2457 - j ∧ s = stp t 152 (fun k => if k < j then t 152 (k + 273) else t 152 k)) ?_ 2457 _ _ ⟨0, rfl, by omega, rfl, by rw [mix_0, stp_self]⟩
        intro k c s hI
        obtain ⟨j, rfl, hj, rfl, rfl⟩ := hI
        unfold SX12_keeps_11
        refine Ok.ite (fun c1 => Ok.ret ?_) (fun c1 => ?_)
        · rw [li_2457, nI_leP (by omega) (by omega)] at c1
          rw [show j = 2457 by omega]
          rfl
        · rw [li_2457, nI_leP (by omega) (by omega)] at c1
          rw [show nI j + (273 : Int32) = nI (j + 273) by rw [li_273, nI_add]]
          refine Ok.ck (inb_n (by omega) (by omega)) (fun _ => Ok.rd (fun v hv => Ok.ck (inb_n (by omega) (by omega)) (fun _ => Ok.wr (fun w ew => ?_))))
          rw [nI_cl (by omega), stp_at, if_neg (by omega)] at hv
          rw [nI_cl (by omega), hv, wr_stp] at ew
          refine Ok.ret ⟨2457 - (j + 1), by omega, j + 1, nI_1 j, by omega, rfl, ?_⟩
          rw [ew]
          congr 1
          exact mix_1 (f := fun k => t 152 (k + 273))
      · rintro _ _ rfl
        refine Ok.rd (fun v hv => Ok.wr (fun u eu => Ok.ret ?_))
        rw [stp_off (by decide), e3, c] at hv
        subst hv
        rw [eu]
        unfold fgt
        funext b
        by_cases hb : b = 149
        · subst hb
          rw [wr_at, stp_at, stp_off (by decide)]
          rfl
        · rw [wr_off b hb, stp_off hb]
    · rw [li_10, nI_eqP (by omega) (by omega)] at c
      rw [if_neg c]
      exact Ok.ret rfl
  · rintro _ _ rfl
    by_cases c : m = 10
    · rw [if_pos c, if_pos c]
      refine xSX12_keeps_52 (m := 9) (by omega) ?_
      unfold fgt
      rw [stp_at, pk_us]
    · rw [if_neg c, if_neg c]
      exact xSX12_keeps_52 (by omega) e3
theorem xX12_done {t : St} {m : Nat} {a : Int32} (hm : m < 11) (e3 : t 149 3 = nI m) : Ok (FX12_done a t) (fun r u => r = a ∧ ((u = t ∧ ∀ k, k < 273 → t 151 k = t 150 k) ∨ (u = (if m = 10 then kpt (fgt t) 9 else kpt t m) ∧ ∃ k, k < 273 ∧ t 151 k ≠ t 150 k))) := by
  unfold FX12_done
  refine Ok.bd (fun x u => Sum.elim (fun v => v = a ∧ u = (if m = 10 then kpt (fgt t) 9 else kpt t m) ∧ ∃ k, k < 273 ∧ t 151 k ≠ t 150 k) (fun _ => u = t ∧ ∀ k, k < 273 → t 151 k = t 150 k) x) ?_ ?_
  · refine Ok.loop (fun k c s => t = s ∧ ∃ j, c = nI j ∧ j ≤ 273 ∧ k = 273 - j ∧ ∀ k, k < j → t 151 k = t 150 k) ?_ 273 _ _ ⟨rfl, 0, rfl, by omega, rfl, fun k hk => absurd hk (by omega)⟩
    intro k c s hI
    obtain ⟨rfl, j, rfl, hj, rfl, hall⟩ := hI
    unfold SX12_done_2
    refine Ok.ite (fun c1 => Ok.ret ?_) (fun c1 => ?_)
    · rw [li_273, nI_leP (by omega) (by omega)] at c1
      exact ⟨rfl, fun k hk => hall k (by omega)⟩
    · rw [li_273, nI_leP (by omega) (by omega)] at c1
      refine Ok.ck (inb_n (by omega) (by omega)) (fun _ => Ok.rd (fun v3 h3 => Ok.ck (inb_n (by omega) (by omega)) (fun _ => Ok.rd (fun v6 h6 => ?_))))
      rw [nI_cl (by omega)] at h3 h6
      refine Ok.ite (fun c2 => ?_) (fun c2 => ?_)
      · refine Ok.ret ⟨273 - (j + 1), by omega, rfl, j + 1, nI_1 j, by omega, rfl, fun k hk => ?_⟩
        by_cases e : k = j
        · rw [e, ← h3, ← h6]; exact c2
        · exact hall k (by omega)
      · refine Ok.bd _ (xX12_keeps hm e3) ?_
        rintro _ u ⟨rfl, hu⟩
        exact Ok.ret ⟨rfl, hu, j, by omega, by rw [← h3, ← h6]; exact c2⟩
  · rintro (x | x) u h
    · exact Ok.ret ⟨h.1, Or.inr h.2⟩
    · exact Ok.ret ⟨rfl, Or.inl h⟩
theorem xX12_undo {t : St} {m : Nat} (hm : m < 11) (e3 : t 149 3 = nI m) : Ok (FX12_undo t) (fun r u => if m = 0 then r = -1 ∧ u = t else r = nI (m - 1) ∧ u = stp (stp t 149 (upd (t 149) 3 (nI (m - 1)))) 150 (fun k => if k < 273 then t 152 (273 * (m - 1) + k) else t 150 k)) := by
  unfold FX12_undo
  refine Ok.rd (fun v1 h1 => ?_)
  rw [e3] at h1
  subst h1
  refine Ok.ite (fun c => Ok.ret ?_) (fun c => ?_)
  · rw [li_0, nI_eqP (by omega) (by omega)] at c
    rw [if_pos c]
    exact ⟨rfl, rfl⟩
  · rw [li_0, nI_eqP (by omega) (by omega)] at c
    simp only [if_neg c]
    refine Ok.rd (fun v4 h4 => Ok.wr (fun t6 e6 => ?_))
    rw [e3] at h4
    subst h4
    rw [show (nI m - 1 : Int32) = nI (m - 1) from nI_sub (a := m) (b := 1) (by omega)] at e6
    have e6' : t6 = stp t 149 (upd (t 149) 3 (nI (m - 1))) := e6
    subst e6'
    generalize hd : stp t 149 (upd (t 149) 3 (nI (m - 1))) = d
    have d3 : d 149 3 = nI (m - 1) := by rw [← hd, stp_at, pk_us]
    have d150 : d 150 = t 150 := by rw [← hd, stp_off (by decide)]
    have d152 : d 152 = t 152 := by rw [← hd, stp_off (by decide)]
    refine Ok.bd (fun _ u => u = stp d 150 (fun k => if k < 273 then t 152 (273 * (m - 1) + k) else t 150 k)) ?_ ?_
    · refine Ok.loop (fun k c s => ∃ j, c = nI j ∧ j ≤ 273 ∧ k = 273 - j ∧ s = stp d 150 (fun k => if k < j then t 152 (273 * (m - 1) + k) else t 150 k)) ?_ 273 _ _ ⟨0, rfl, by omega, rfl, by rw [mix_0 (f := fun k => t 152 (273 * (m - 1) + k)), ← d150, stp_self]⟩
      intro k c s hI
      obtain ⟨j, rfl, hj, rfl, rfl⟩ := hI
      unfold SX12_undo_21
      refine Ok.ite (fun c1 => Ok.ret ?_) (fun c1 => ?_)
      · rw [li_273, nI_leP (by omega) (by omega)] at c1
        rw [show j = 273 by omega]
        rfl
      · rw [li_273, nI_leP (by omega) (by omega)] at c1
        refine Ok.rd (fun v9 h9 => ?_)
        rw [stp_off (by decide), d3] at h9
        subst h9
        have e : (273 : Int32) * nI (m - 1) + nI j = nI (273 * (m - 1) + j) := by rw [li_273, nI_mul, nI_add]
        rw [e]
        refine Ok.ck (inb_n (by omega) (by omega)) (fun _ => Ok.rd (fun v hv => Ok.ck (inb_n (by omega) (by omega)) (fun _ => Ok.wr (fun w ew => ?_))))
        rw [nI_cl (by omega), stp_off (by decide), d152] at hv
        rw [nI_cl (by omega), hv, wr_stp, mix_1 (f := fun k => t 152 (273 * (m - 1) + k))] at ew
        exact Ok.ret ⟨273 - (j + 1), by omega, j + 1, nI_1 j, by omega, rfl, ew⟩
    · rintro _ _ rfl
      refine Ok.rd (fun v hv => Ok.ret ⟨?_, rfl⟩)
      rw [hv, stp_off (by decide), d3]
theorem xX12_empties {t : St} {s : Nat} (hs : s < 3) : Ok (FX12_empties (nI s) t) (fun _ u => u = stp t 150 (fun k => if 91 * s ≤ k ∧ k < 91 * s + 91 then 0 else t 150 k)) := by
  unfold FX12_empties
  refine Ok.bd (fun _ u => u = stp t 150 (fun k => if 91 * s ≤ k ∧ k < 91 * s + 91 then 0 else t 150 k)) ?_ (fun _ u h => Ok.ret h)
  refine Ok.loop (fun k c u => ∃ j, c = nI j ∧ j ≤ 91 ∧ k = 91 - j ∧ u = stp t 150 (fun k => if 91 * s ≤ k ∧ k < 91 * s + j then 0 else t 150 k)) ?_ 91 _ _ ⟨0, rfl, by omega, rfl, ?_⟩
  · intro k c u hI
    obtain ⟨j, rfl, hj, rfl, rfl⟩ := hI
    unfold SX12_empties_2
    refine Ok.ite (fun c1 => Ok.ret ?_) (fun c1 => ?_)
    · rw [li_91, nI_leP (by omega) (by omega)] at c1
      rw [show j = 91 by omega]
      rfl
    · rw [li_91, nI_leP (by omega) (by omega)] at c1
      have e : (91 : Int32) * nI s + nI j = nI (91 * s + j) := by rw [li_91, nI_mul, nI_add]
      rw [e]
      refine Ok.ck (inb_n (by omega) (by omega)) (fun _ => Ok.wr (fun w ew => ?_))
      rw [nI_cl (by omega), wr_stp] at ew
      refine Ok.ret ⟨91 - (j + 1), by omega, j + 1, nI_1 j, by omega, rfl, ?_⟩
      rw [ew]
      congr 1
      funext q
      by_cases eq : q = 91 * s + j
      · subst eq
        rw [pk_us, if_pos (by omega)]
      · rw [pk_un eq]
        by_cases h1 : 91 * s ≤ q ∧ q < 91 * s + j
        · rw [if_pos h1, if_pos (by omega)]
        · rw [if_neg h1, if_neg (by omega)]
  · rw [show (fun k => if 91 * s ≤ k ∧ k < 91 * s + 0 then 0 else t 150 k) = t 150 by
      funext k
      rw [if_neg (by omega)], stp_self]
theorem xX12_puts {t : St} {s i : Nat} {v : Int32} (hs : s < 3) (hi : i < 9) : Ok (FX12_puts (nI s) (nI i) v t) (fun _ u => u = wr t 150 (91 * s + 82 + i) v) := by
  unfold FX12_puts
  have e : (91 : Int32) * nI s + 82 + nI i = nI (91 * s + 82 + i) := by rw [li_91, li_82, nI_mul, nI_add, nI_add]
  rw [e]
  refine Ok.ck (inb_n (by omega) (by omega)) (fun g => Ok.wr (fun u eu => ?_))
  rw [nI_cl (by omega)] at eu
  exact Ok.ret eu
theorem xX12_weighs {t : St} {s p q : Nat} {v : Int32} (hs : s < 3) (hp : p < 9) (hq : q < 9) : Ok (FX12_weighs (nI s) (nI p) (nI q) v t) (fun _ u => u = wr (wr t 150 (91 * s + 1 + 9 * p + q) v) 150 (91 * s + 1 + 9 * q + p) v) := by
  unfold FX12_weighs
  have e : (91 : Int32) * nI s + 1 + 9 * nI p + nI q = nI (91 * s + 1 + 9 * p + q) := by rw [li_91, li_1, li_9, nI_mul, nI_mul, nI_add, nI_add, nI_add]
  have e2 : (91 : Int32) * nI s + 1 + 9 * nI q + nI p = nI (91 * s + 1 + 9 * q + p) := by rw [li_91, li_1, li_9, nI_mul, nI_mul, nI_add, nI_add, nI_add]
  rw [e, e2]
  refine Ok.ck (inb_n (by omega) (by omega)) (fun g => Ok.wr (fun u eu => Ok.ck (inb_n (by omega) (by omega)) (fun g2 => Ok.wr (fun w ew => ?_))))
  rw [nI_cl (by omega)] at eu ew
  subst eu
  exact Ok.ret ew
end
section
/-! the reference: what it keeps to; rows changed (wip/ext/g33.py) -/
def PI (t : St) : Prop := PEs (t 150) ∧ PEs (t 151) ∧ ∀ m, m < 10 → PEs (fun i => t 152 (273 * m + i))
/-- the reference's places but tape and how long it is may change -/
def GM (σ t : St) : Prop := TY t ∧ (∀ b, (b < 149 ∨ b = 153) → t b = σ b) ∧ t 149 5 = σ 149 5 ∧ PI t
theorem GM.tt {σ t : St} (h : GM σ t) : TY t := h.1
theorem GM.pe {σ t : St} (h : GM σ t) : PEs (t 150) := h.2.2.2.1
theorem GM.wrX {σ t u : St} (h : GM σ t) {a i : Nat} {v : Int32} (e : u = wr t a i v) (ha : 154 ≤ a ∨ (a = 149 ∧ i ≠ 5)) (hT : TY u) : GM σ u := by
  subst e
  refine ⟨hT, fun b hb => ?_, ?_, ?_⟩
  · rw [wr_off b (by omega)]
    exact h.2.1 b hb
  · rw [← h.2.2.1]
    by_cases e : a = 149
    · subst e
      rw [wr_at]
      exact pk_un (by omega)
    · rw [wr_off 149 (by omega)]
  · unfold PI
    rw [wr_off 150 (by omega), wr_off 151 (by omega), wr_off 152 (by omega)]
    exact h.2.2.2
theorem GM.wrT {σ t u : St} (h : GM σ t) {a i m : Nat} {v : Int32} (e : u = wr t a i v) (ha : 154 ≤ a ∨ (a = 149 ∧ i ≠ 5)) (hm : ty a i = m) (hv : IsR m v) : GM σ u :=
  h.wrX e ha (by subst e; exact h.1.wr (Or.inr (by rw [hm]; exact hv)))
theorem GM.wrU {σ t u : St} (h : GM σ t) {a i : Nat} {v : Int32} (e : u = wr t a i v) (ha : 154 ≤ a ∨ (a = 149 ∧ i ≠ 5)) (hm : ty a i = 0) : GM σ u :=
  h.wrX e ha (by subst e; exact h.1.wr (Or.inl hm))
theorem PEs.congr {g f : Nat → Int32} (h : PEs g) (h1 : ∀ s, s < 3 → f (91 * s) = g (91 * s)) (h2 : ∀ s i, s < 3 → i < 9 → f (91 * s + 82 + i) = g (91 * s + 82 + i)) : PEs f := by
  intro s hs n en hn p hp
  rw [h1 s hs] at en
  obtain ⟨i, hi, e⟩ := h s hs n en hn p hp
  exact ⟨i, hi, by rw [h2 s i hs (by omega)]; exact e⟩
theorem PEs.eq {g f : Nat → Int32} (h : PEs g) (h1 : ∀ k, k < 273 → f k = g k) : PEs f := h.congr (fun s hs => h1 _ (by omega)) (fun s i hs hi => h1 _ (by omega))
/-- a slot's contents are written anew -/
theorem GM.st {σ t : St} (h : GM σ t) {f : Nat → Int32} (hT : ∀ i, i < 273 → IsR (if 82 ≤ i % 91 then 9 else 10) (f i)) (hp : PEs f) : GM σ (stp t 150 f) := by
  refine ⟨h.1.stp (fun i hi => ?_), fun b hb => ?_, ?_, ?_, ?_, ?_⟩
  · have h273 : i < 273 := by
      rcases Nat.lt_or_ge i 273 with q | q
      · exact q
      · have : ty 150 i = 0 := by
          show (if i < 273 then (if 82 ≤ i % 91 then 9 else 10) else 0) = 0
          rw [if_neg (by omega)]
        omega
    rw [ty_st h273]
    exact hT i h273
  · rw [stp_off (by omega)]; exact h.2.1 b hb
  · rw [stp_off (by decide)]; exact h.2.2.1
  · rw [stp_at]; exact hp
  · rw [stp_off (by decide)]; exact h.2.2.2.2.1
  · rw [stp_off (by decide)]; exact h.2.2.2.2.2
theorem GM.ts {σ t : St} (h : GM σ t) {i : Nat} (hi : i < 273) : IsR (if 82 ≤ i % 91 then 9 else 10) (t 150 i) := h.1.rd (ty_st hi) (by split <;> omega)
theorem GM.rem {σ t : St} (h : GM σ t) : GM σ (stp t 151 (fun k => if k < 273 then t 150 k else t 151 k)) := by
  refine ⟨h.1.stp (fun i hi => ?_), fun b hb => ?_, ?_, ?_, ?_, ?_⟩
  · by_cases q : i < 273
    · rw [if_pos q]
      exact h.1 150 i hi
    · rw [if_neg q]
      exact h.1 151 i hi
  · rw [stp_off (by omega)]; exact h.2.1 b hb
  · rw [stp_off (by decide)]; exact h.2.2.1
  · rw [stp_off (by decide)]; exact h.2.2.2.1
  · rw [stp_at]
    exact h.2.2.2.1.eq (fun k hk => by rw [if_pos hk])
  · rw [stp_off (by decide)]; exact h.2.2.2.2.2
theorem ty_kp {i : Nat} : ty 152 i = if i < 2730 then (if 82 ≤ i % 91 then 9 else 10) else 0 := rfl
theorem ty_was {i : Nat} : ty 151 i = if i < 273 then (if 82 ≤ i % 91 then 9 else 10) else 0 := rfl
theorem GM.kq {σ t : St} (h : GM σ t) {m : Nat} (hm : m < 10) : GM σ (kpt t m) := by
  show GM σ (stp (stp t 152 (fun k => if k < 273 * m then t 152 k else if k < 273 * m + 273 then t 151 (k - 273 * m) else t 152 k)) 149 (upd (t 149) 3 (nI (m + 1))))
  refine ⟨?_, fun b hb => ?_, ?_, ?_, ?_, ?_⟩
  · refine (h.1.stp (fun i hi => ?_)).stp (fun i hi => ?_)
    · by_cases q : i < 273 * m
      · rw [if_pos q]; exact h.1 152 i hi
      · rw [if_neg q]
        by_cases q2 : i < 273 * m + 273
        · rw [if_pos q2]
          have e : ty 152 i = ty 151 (i - 273 * m) := by
            have : i % 91 = (i - 273 * m) % 91 := by
              obtain ⟨d, rfl⟩ : ∃ d, i = 273 * m + d := ⟨i - 273 * m, by omega⟩
              rw [Nat.add_sub_cancel_left, show 273 * m + d = 91 * (3 * m) + d by omega, Nat.mul_add_mod]
            have a1 : ty 152 i = (if 82 ≤ i % 91 then 9 else 10) := by
              rw [ty_kp]
              exact if_pos (by omega)
            have a2 : ty 151 (i - 273 * m) = (if 82 ≤ (i - 273 * m) % 91 then 9 else 10) := by
              rw [ty_was]
              exact if_pos (by omega)
            rw [a1, a2, this]
          rw [e]
          exact h.1 151 _ (by rw [← e]; exact hi)
        · rw [if_neg q2]; exact h.1 152 i hi
    · by_cases q : i = 3
      · subst q
        rw [pk_us, ty_m3]
        exact ⟨m + 1, by omega, rfl⟩
      · rw [pk_un q]
        exact h.1 149 i hi
  · rw [stp_off (by omega), stp_off (by omega)]; exact h.2.1 b hb
  · rw [stp_at, pk_un (by decide)]; exact h.2.2.1
  · rw [stp_off (by decide), stp_off (by decide)]; exact h.2.2.2.1
  · rw [stp_off (by decide), stp_off (by decide)]; exact h.2.2.2.2.1
  · rw [stp_off (by decide), stp_at]
    intro q hq
    by_cases e : q = m
    · subst e
      refine h.2.2.2.2.1.eq (fun k hk => ?_)
      rw [if_neg (by omega), if_pos (by omega), Nat.add_sub_cancel_left]
    · refine (h.2.2.2.2.2 q hq).eq (fun k hk => ?_)
      by_cases q1 : 273 * q + k < 273 * m
      · rw [if_pos q1]
      · rw [if_neg q1, if_neg (by omega)]
theorem GM.fq {σ t : St} (h : GM σ t) : GM σ (fgt t) := by
  show GM σ (stp (stp t 152 (fun k => if k < 2457 then t 152 (k + 273) else t 152 k)) 149 (upd (t 149) 3 (nI 9)))
  refine ⟨?_, fun b hb => ?_, ?_, ?_, ?_, ?_⟩
  · refine (h.1.stp (fun i hi => ?_)).stp (fun i hi => ?_)
    · by_cases q : i < 2457
      · rw [if_pos q]
        have e : ty 152 i = ty 152 (i + 273) := by
          have a1 : ty 152 i = (if 82 ≤ i % 91 then 9 else 10) := by
            rw [ty_kp]
            exact if_pos (by omega)
          have a2 : ty 152 (i + 273) = (if 82 ≤ (i + 273) % 91 then 9 else 10) := by
            rw [ty_kp]
            exact if_pos (by omega)
          rw [a1, a2, show i + 273 = 91 * 3 + i by omega, Nat.mul_add_mod]
        rw [e]
        exact h.1 152 _ (by rw [← e]; exact hi)
      · rw [if_neg q]; exact h.1 152 i hi
    · by_cases q : i = 3
      · subst q
        rw [pk_us, ty_m3]
        exact ⟨9, by omega, rfl⟩
      · rw [pk_un q]
        exact h.1 149 i hi
  · rw [stp_off (by omega), stp_off (by omega)]; exact h.2.1 b hb
  · rw [stp_at, pk_un (by decide)]; exact h.2.2.1
  · rw [stp_off (by decide), stp_off (by decide)]; exact h.2.2.2.1
  · rw [stp_off (by decide), stp_off (by decide)]; exact h.2.2.2.2.1
  · rw [stp_off (by decide), stp_at]
    intro q hq
    by_cases e : q = 9
    · subst e
      refine (h.2.2.2.2.2 9 (by omega)).eq (fun k hk => ?_)
      rw [if_neg (by omega)]
    · refine (h.2.2.2.2.2 (q + 1) (by omega)).eq (fun k hk => ?_)
      rw [if_pos (by omega)]
      congr 1
      omega
theorem nX12_keeps {σ t : St} (hG : GM σ t) {a : Int32} : Ok (FX12_keeps a t) (fun r u => GM σ u ∧ True) := by
  obtain ⟨m, hm, em⟩ := hG.tt.rd ty_m3 (by omega)
  refine Ok.mono (xX12_keeps hm em) ?_
  rintro _ _ ⟨rfl, rfl⟩
  refine ⟨?_, True.intro⟩
  split
  · exact hG.fq.kq (by omega)
  · exact hG.kq (by omega)
theorem nX12_done {σ t : St} (hG : GM σ t) {a : Int32} : Ok (FX12_done a t) (fun r u => GM σ u ∧ True) := by
  obtain ⟨m, hm, em⟩ := hG.tt.rd ty_m3 (by omega)
  refine Ok.mono (xX12_done hm em) ?_
  rintro _ _ ⟨rfl, ⟨rfl, -⟩ | ⟨rfl, -⟩⟩
  · exact ⟨hG, True.intro⟩
  · refine ⟨?_, True.intro⟩
    split
    · exact hG.fq.kq (by omega)
    · exact hG.kq (by omega)
theorem nX12_undo {σ t : St} (hG : GM σ t) : Ok (FX12_undo t) (fun r u => GM σ u ∧ True) := by
  obtain ⟨m, hm, em⟩ := hG.tt.rd ty_m3 (by omega)
  refine Ok.mono (xX12_undo hm em) ?_
  intro r u h
  by_cases c : m = 0
  · rw [if_pos c] at h
    rw [h.2]
    exact ⟨hG, True.intro⟩
  · rw [if_neg c] at h
    rw [h.2]
    have h1 : GM σ (stp t 149 (upd (t 149) 3 (nI (m - 1)))) := hG.wrT (u := wr t 149 3 (nI (m - 1))) rfl (by omega) ty_m3 ⟨m - 1, by omega, rfl⟩
    refine ⟨h1.st (fun i hi => ?_) ((hG.2.2.2.2.2 (m - 1) (by omega)).eq (fun k hk => by rw [if_pos hk])), True.intro⟩
    rw [if_pos hi]
    have := hG.1 152 (273 * (m - 1) + i) (by rw [ty_kp, if_pos (by omega)]; split <;> omega)
    rw [ty_kp, if_pos (by omega), show (273 * (m - 1) + i) = 91 * (3 * (m - 1)) + i by omega, Nat.mul_add_mod] at this
    rw [show (273 * (m - 1) + i) = 91 * (3 * (m - 1)) + i by omega]
    exact this
theorem GM.emp {σ t : St} (h : GM σ t) {s : Nat} (hs : s < 3) : GM σ (stp t 150 (fun k => if 91 * s ≤ k ∧ k < 91 * s + 91 then 0 else t 150 k)) := by
  refine h.st (fun i hi => ?_) (fun s' hs' n en hn p hp => ?_)
  · by_cases q : 91 * s ≤ i ∧ i < 91 * s + 91
    · rw [if_pos q]
      refine ⟨0, ?_, rfl⟩
      split <;> omega
    · rw [if_neg q]
      exact h.ts hi
  · by_cases e : s' = s
    · subst e
      rw [if_pos (by omega)] at en
      have := nI_inj (a := 0) en (by omega) (by omega)
      omega
    · have hne : ¬ (91 * s ≤ 91 * s' ∧ 91 * s' < 91 * s + 91) := by omega
      rw [if_neg hne] at en
      obtain ⟨i, hi, ei⟩ := h.pe s' hs' n en hn p hp
      refine ⟨i, hi, ?_⟩
      show (if 91 * s ≤ 91 * s' + 82 + i ∧ 91 * s' + 82 + i < 91 * s + 91 then 0 else t 150 (91 * s' + 82 + i)) = nI p
      rw [if_neg (by omega)]
      exact ei
theorem nX12_drops {σ t : St} (hG : GM σ t) {a : Int32} : Ok (FX12_drops a t) (fun r u => GM σ u ∧ True) := by
  unfold FX12_drops
  refine Ok.bd _ (rX12_isSlot hG.tt) ?_
  rintro v _ ⟨rfl, -, hv⟩
  refine Ok.ite (fun _ => Ok.ret ⟨hG, True.intro⟩) (fun c => ?_)
  obtain ⟨s, hs, rfl⟩ := hv.resolve_left c
  refine Ok.bd _ (rX12_isNet hG.tt) ?_
  rintro v _ ⟨rfl, -, -⟩
  refine Ok.ite (fun _ => Ok.ret ⟨hG, True.intro⟩) (fun _ => ?_)
  refine Ok.bd _ xX12_remembers ?_
  rintro _ _ rfl
  have h1 := hG.rem
  refine Ok.bd _ (xX12_empties hs) ?_
  rintro _ _ rfl
  have h2 := h1.emp hs
  refine Ok.bd _ (nX12_keeps h2) ?_
  rintro r u ⟨hu, -⟩
  exact Ok.ret ⟨hu, True.intro⟩
/-- a row that has every point below n -/
def PM (n : Nat) (f : Nat → Int32) : Prop := ∀ p, p < n → ∃ i, i < n ∧ f i = nI p
/-- only the row that is looked at has changed, and it has every point -/
def OD (t : St) (n : Nat) (u : St) : Prop := TY u ∧ (∀ b, b ≠ 154 → u b = t b) ∧ PM n (u 154)
theorem OD.gm {σ t u : St} {n : Nat} (h : OD t n u) (hG : GM σ t) : GM σ u := by
  refine ⟨h.1, fun b hb => ?_, ?_, ?_⟩
  · rw [h.2.1 b (by omega)]; exact hG.2.1 b hb
  · rw [h.2.1 149 (by decide)]; exact hG.2.2.1
  · unfold PI
    rw [h.2.1 150 (by decide), h.2.1 151 (by decide), h.2.1 152 (by decide)]
    exact hG.2.2.2
theorem xX12_laysRow {t : St} (hT : TY t) (hpe : PEs (t 150)) {s n : Nat} (hs : s < 3) (en : t 150 (91 * s) = nI n) (hn : n < 10) : Ok (FX12_laysRow (nI s) t) (fun _ u => OD t n u ∧ ∀ i, i < n → u 154 i = t 150 (91 * s + 82 + i)) := by
  unfold FX12_laysRow
  refine Ok.bd (fun _ u => (TY u ∧ (∀ b, b ≠ 154 → u b = t b)) ∧ ∀ i, i < n → u 154 i = t 150 (91 * s + 82 + i)) ?_ ?_
  · refine Ok.loop (fun k c u => ∃ j, c = nI j ∧ j ≤ n ∧ k = n - j ∧ (TY u ∧ (∀ b, b ≠ 154 → u b = t b)) ∧ ∀ i, i < j → u 154 i = t 150 (91 * s + 82 + i)) ?_ n _ _ ⟨0, rfl, by omega, rfl, ⟨hT, fun _ _ => rfl⟩, fun i hi => absurd hi (by omega)⟩
    intro k c u hI
    obtain ⟨j, rfl, hj, rfl, ⟨hT, hF⟩, hall⟩ := hI
    unfold SX12_laysRow_2
    refine Ok.bd _ (xX12_points hT hs) ?_
    rintro _ _ ⟨rfl, rfl⟩
    rw [hF 150 (by decide), en]
    refine Ok.ite (fun c1 => Ok.ret ?_) (fun c1 => ?_)
    · rw [nI_leP (by omega) (by omega)] at c1
      exact ⟨⟨hT, hF⟩, fun i hi => hall i (by omega)⟩
    · rw [nI_leP (by omega) (by omega)] at c1
      refine Ok.bd _ (xX12_at hT hs (i := j) (by omega)) ?_
      rintro _ _ ⟨rfl, rfl⟩
      refine Ok.ck (inb_n (by omega) (by omega)) (fun g => Ok.wr (fun w ew => ?_))
      rw [nI_cl (by omega), hF 150 (by decide)] at ew
      refine Ok.ret ⟨n - (j + 1), by omega, j + 1, nI_1 j, by omega, rfl, ⟨?_, fun b hb => ?_⟩, fun i hi => ?_⟩
      · subst ew
        exact hT.wr (Or.inr (by rw [ty_a154 (by omega)]; have := hT.rd (ty_o hs (i := j) (by omega)) (by omega); rw [hF 150 (by decide)] at this; exact this))
      · subst ew
        rw [wr_off b hb]
        exact hF b hb
      · subst ew
        rw [wr_at]
        by_cases e : i = j
        · subst e; exact pk_us
        · rw [pk_un e]; exact hall i (by omega)
  · rintro _ u ⟨⟨hT, hF⟩, hall⟩
    refine Ok.ret ⟨⟨hT, hF, fun p hp => ?_⟩, hall⟩
    obtain ⟨i, hi, ei⟩ := hpe s hs n en hn p hp
    exact ⟨i, hi, by rw [hall i hi]; exact ei⟩
theorem xX12_exchanges {t u : St} {n i j : Nat} (h : OD t n u) (hn : n < 10) (hi : i < n) (hj : j < n) : Ok (FX12_exchanges (nI i) (nI j) u) (fun _ w => OD t n w) := by
  obtain ⟨hT, hF, hP⟩ := h
  unfold FX12_exchanges
  refine Ok.ck (inb_n (by omega) (by omega)) (fun g => Ok.rd (fun v hv => Ok.ck (inb_n (by omega) (by omega)) (fun g => Ok.rd (fun v2 hv2 => Ok.ck (inb_n (by omega) (by omega)) (fun g => Ok.wr (fun w ew => Ok.ck (inb_n (by omega) (by omega)) (fun g => Ok.wr (fun z ez => ?_))))))))
  rw [nI_cl (by omega)] at hv hv2 ew ez
  have r1 : IsR 9 v := by rw [hv]; exact hT.rd (ty_a154 (by omega)) (by omega)
  have r2 : IsR 9 v2 := by rw [hv2]; exact hT.rd (ty_a154 (by omega)) (by omega)
  refine Ok.ret ⟨?_, fun b hb => ?_, fun p hp => ?_⟩
  · subst ez ew
    exact (hT.wr (Or.inr (by rw [ty_a154 (by omega)]; exact r2))).wr (Or.inr (by rw [ty_a154 (by omega)]; exact r1))
  · subst ez ew
    rw [wr_off b hb, wr_off b hb]
    exact hF b hb
  · obtain ⟨q, hq, eq⟩ := hP p hp
    subst ez ew
    rw [wr_at, wr_at]
    by_cases e1 : q = i
    · subst e1
      exact ⟨j, hj, by rw [pk_us, hv]; exact eq⟩
    · by_cases e2 : q = j
      · subst e2
        exact ⟨i, hi, by rw [pk_un (fun e => e1 e.symm), pk_us, hv2]; exact eq⟩
      · exact ⟨q, hq, by rw [pk_un e2, pk_un e1]; exact eq⟩
end
section
/-! the reference: rows taken, changed over, moved, polished; lines (wip/ext/g34.py) -/
/-- a slot's row written anew -/
def rwst (g : Nat → Int32) (s n : Nat) (f : Nat → Int32) : Nat → Int32 := fun k => if 91 * s + 82 ≤ k ∧ k < 91 * s + 82 + n then f (k - (91 * s + 82)) else g k
theorem PEs.row {g f : Nat → Int32} (h : PEs g) {s n : Nat} (hs : s < 3) (en : g (91 * s) = nI n) (hn : n < 10) (hP : PM n f) : PEs (rwst g s n f) := by
  intro s' hs' m em hm p hp
  unfold rwst at em
  rw [if_neg (by omega)] at em
  by_cases e : s' = s
  · subst e
    have : m = n := nI_inj (em.symm.trans en) (by omega) (by omega)
    subst this
    obtain ⟨i, hi, ei⟩ := hP p hp
    refine ⟨i, hi, ?_⟩
    unfold rwst
    rw [if_pos (by omega), Nat.add_sub_cancel_left]
    exact ei
  · obtain ⟨i, hi, ei⟩ := h s' hs' m em hm p hp
    refine ⟨i, hi, ?_⟩
    unfold rwst
    rw [if_neg (by omega)]
    exact ei
theorem GM.row {σ t : St} (h : GM σ t) {s n : Nat} {f : Nat → Int32} (hs : s < 3) (en : t 150 (91 * s) = nI n) (hn : n < 10) (hf : ∀ i, i < n → IsR 9 (f i)) (hP : PM n f) : GM σ (stp t 150 (rwst (t 150) s n f)) := by
  refine h.st (fun i hi => ?_) (h.pe.row hs en hn hP)
  unfold rwst
  by_cases q : 91 * s + 82 ≤ i ∧ i < 91 * s + 82 + n
  · rw [if_pos q]
    have e : i % 91 = i - 91 * s := by
      obtain ⟨d, rfl⟩ : ∃ d, i = 91 * s + d := ⟨i - 91 * s, by omega⟩
      rw [Nat.mul_add_mod, Nat.add_sub_cancel_left, Nat.mod_eq_of_lt (by omega)]
    rw [e, if_pos (by omega)]
    exact hf _ (by omega)
  · rw [if_neg q]
    exact h.ts hi
theorem nX12_takesRow {σ t : St} (hG : GM σ t) {s n : Nat} (hs : s < 3) (en : t 150 (91 * s) = nI n) (hn : n < 10) (hP : PM n (t 154)) : Ok (FX12_takesRow (nI s) t) (fun r u => GM σ u ∧ u 150 (91 * s) = nI n) := by
  unfold FX12_takesRow
  refine Ok.bd (fun _ u => t = u) ?_ ?_
  · refine Ok.loop (fun k c u => t = u ∧ ∃ j, c.2 = nI j ∧ j ≤ 9 ∧ k = 9 - j) ?_ 9 _ _ ⟨rfl, 0, rfl, by omega, rfl⟩
    intro k c u hI
    obtain ⟨rfl, j, ej, hj, rfl⟩ := hI
    obtain ⟨c0, c1⟩ := c
    dsimp only at ej
    subst ej
    unfold SX12_takesRow_4
    dsimp only
    refine Ok.bd _ (xX12_points hG.tt hs) ?_
    rintro _ _ ⟨rfl, rfl⟩
    rw [en]
    refine Ok.ite (fun _ => Ok.ret rfl) (fun c1 => ?_)
    rw [nI_leP (by omega) (by omega)] at c1
    refine Ok.bd _ (xX12_at hG.tt hs (i := j) (by omega)) ?_
    rintro _ _ ⟨rfl, rfl⟩
    refine Ok.ck (inb_n (by omega) (by omega)) (fun g => Ok.rd (fun v hv => ?_))
    refine Ok.bd (fun _ u => t = u) (Ok.ite (fun _ => Ok.ret rfl) (fun _ => Ok.ret rfl)) ?_
    rintro v _ rfl
    exact Ok.ret ⟨9 - (j + 1), by omega, rfl, j + 1, nI_1 j, by omega, rfl⟩
  · rintro e16 _ rfl
    refine Ok.bd _ xX12_remembers ?_
    rintro _ _ rfl
    have h1 := hG.rem
    generalize hd : stp t 151 (fun k => if k < 273 then t 150 k else t 151 k) = d at h1
    have d150 : d 150 = t 150 := by rw [← hd, stp_off (by decide)]
    have d154 : d 154 = t 154 := by rw [← hd, stp_off (by decide)]
    refine Ok.bd (fun _ u => u = stp d 150 (rwst (t 150) s n (t 154))) ?_ ?_
    · refine Ok.loop (fun k c u => ∃ j, c = nI j ∧ j ≤ n ∧ k = n - j ∧ u = stp d 150 (rwst (t 150) s j (t 154))) ?_ n _ _ ⟨0, rfl, by omega, rfl, ?_⟩
      · intro k c u hI
        obtain ⟨j, rfl, hj, rfl, rfl⟩ := hI
        have hTu : TY (stp d 150 (rwst (t 150) s j (t 154))) := by
          refine h1.1.stp (fun i hi => ?_)
          unfold rwst
          by_cases q : 91 * s + 82 ≤ i ∧ i < 91 * s + 82 + j
          · rw [if_pos q, ty_st (by omega)]
            have e : i % 91 = i - 91 * s := by
              obtain ⟨d, rfl⟩ : ∃ d, i = 91 * s + d := ⟨i - 91 * s, by omega⟩
              rw [Nat.mul_add_mod, Nat.add_sub_cancel_left, Nat.mod_eq_of_lt (by omega)]
            rw [e, if_pos (by omega)]
            exact hG.tt.rd (ty_a154 (by omega)) (by omega)
          · rw [if_neg q]
            exact hG.tt 150 i hi
        have ep : stp d 150 (rwst (t 150) s j (t 154)) 150 (91 * s) = nI n := by
          rw [stp_at]
          unfold rwst
          rw [if_neg (by omega)]
          exact en
        unfold SX12_takesRow_48
        refine Ok.bd _ (xX12_points hTu hs) ?_
        rintro _ _ ⟨rfl, rfl⟩
        rw [ep]
        refine Ok.ite (fun c1 => Ok.ret ?_) (fun c1 => ?_)
        · rw [nI_leP (by omega) (by omega)] at c1
          rw [show j = n by omega]
          rfl
        · rw [nI_leP (by omega) (by omega)] at c1
          refine Ok.ck (inb_n (by omega) (by omega)) (fun g => Ok.rd (fun v hv => ?_))
          rw [nI_cl (by omega), stp_off (by decide), d154] at hv
          refine Ok.bd _ (xX12_puts hs (i := j) (by omega)) ?_
          rintro _ _ rfl
          refine Ok.ret ⟨n - (j + 1), by omega, j + 1, nI_1 j, by omega, rfl, ?_⟩
          rw [wr_stp]
          congr 1
          funext q
          unfold rwst
          by_cases e : q = 91 * s + 82 + j
          · subst e
            rw [pk_us, if_pos (by omega), Nat.add_sub_cancel_left]
            exact hv
          · rw [pk_un e]
            by_cases q1 : 91 * s + 82 ≤ q ∧ q < 91 * s + 82 + j
            · rw [if_pos q1, if_pos (by omega)]
            · rw [if_neg q1, if_neg (by omega)]
      · rw [show rwst (t 150) s 0 (t 154) = d 150 by
          rw [d150]
          funext q
          unfold rwst
          rw [if_neg (by omega)], stp_self]
    · rintro _ _ rfl
      have h2 : GM σ (stp d 150 (rwst (t 150) s n (t 154))) := by
        have := h1.row (f := t 154) hs (by rw [d150]; exact en) hn (fun i hi => hG.tt.rd (ty_a154 (by omega)) (by omega)) hP
        rw [d150] at this
        exact this
      obtain ⟨m, hm, em⟩ := h2.tt.rd ty_m3 (by omega)
      have ep : stp d 150 (rwst (t 150) s n (t 154)) 150 (91 * s) = nI n := by
        rw [stp_at]
        unfold rwst
        rw [if_neg (by omega)]
        exact en
      refine Ok.bd (fun _ u => GM σ u ∧ u 150 = stp d 150 (rwst (t 150) s n (t 154)) 150) (Ok.mono (xX12_done hm em) ?_) ?_
      · rintro _ _ ⟨rfl, ⟨rfl, -⟩ | ⟨rfl, -⟩⟩
        · exact ⟨h2, rfl⟩
        · split
          · refine ⟨h2.fq.kq (by omega), ?_⟩
            unfold kpt fgt
            rw [stp_off (by decide), stp_off (by decide), stp_off (by decide), stp_off (by decide)]
          · refine ⟨h2.kq (by omega), ?_⟩
            unfold kpt
            rw [stp_off (by decide), stp_off (by decide)]
      · rintro r u ⟨hu, eu⟩
        exact Ok.ret ⟨hu, by rw [eu]; exact ep⟩
theorem nX12_value {σ t : St} (hG : GM σ t) {a b : Int32} : Ok (FX12_value a b t) (fun r u => GM σ u ∧ True) := by
  unfold FX12_value
  refine Ok.bd _ (rX12_isNet hG.tt) ?_
  rintro v _ ⟨rfl, -, hv⟩
  refine Ok.ite (fun _ => Ok.ret ⟨hG, True.intro⟩) (fun c => ?_)
  obtain ⟨⟨s, hs, rfl⟩, n, en, hn, -⟩ := hv.resolve_left c
  rw [nI_cl (by omega)] at en
  refine Ok.bd _ (rX12_isMeasure hG.tt) ?_
  rintro v _ ⟨rfl, -, -⟩
  refine Ok.ite (fun _ => Ok.ret ⟨hG, True.intro⟩) (fun _ => ?_)
  refine Ok.bd _ (xX12_laysRow hG.tt hG.pe hs en hn) ?_
  rintro _ u ⟨ho, -⟩
  refine Ok.bd _ (rX12_valueOf ho.1 ⟨s, hs, rfl⟩) ?_
  rintro v _ ⟨rfl, -⟩
  exact Ok.ret ⟨ho.gm hG, True.intro⟩
/-- two points of a slot: their numbers -/
theorem two_pt {t : St} (hT : TY t) {a b c : Int32} {s n : Nat} (ha : a = nI s) (hs : s < 3) (en : t 150 (91 * s) = nI n) (hn : n < 10) (h : PtIn t a b) (hb : IsR 9 b) : ∃ k, k < n ∧ b = nI k := by
  obtain ⟨m, em, hm, hk⟩ := h
  obtain ⟨k, hk9, rfl⟩ := hb
  rw [ha, nI_cl (by omega)] at em
  rw [nI_cl (by omega)] at hk
  have : m = n := nI_inj (em.symm.trans en) (by omega) (by omega)
  exact ⟨k, by omega, rfl⟩
/-- isPoint answers: a slot with n points, one of them -/
theorem ptx {t : St} (hT : TY t) {a b : Int32} (h : IsR 3 a ∧ IsR 9 b ∧ PtIn t a b) : ∃ s n k, s < 3 ∧ a = nI s ∧ t 150 (91 * s) = nI n ∧ n < 10 ∧ k < n ∧ b = nI k := by
  obtain ⟨⟨s, hs, rfl⟩, ⟨k, hk, rfl⟩, n, en, hn, hkn⟩ := h
  rw [nI_cl (by omega)] at en hkn
  exact ⟨s, n, k, hs, rfl, en, hn, hkn, rfl⟩
theorem nX12_gain {σ t : St} (hG : GM σ t) {a b c d : Int32} : Ok (FX12_gain a b c d t) (fun r u => GM σ u ∧ True) := by
  unfold FX12_gain
  refine Ok.bd _ (rX12_isPoint hG.tt) ?_
  rintro v _ ⟨rfl, -, hv⟩
  refine Ok.ite (fun _ => Ok.ret ⟨hG, True.intro⟩) (fun c1 => ?_)
  obtain ⟨s, n, i, hs, rfl, en, hn, hi, rfl⟩ := ptx hG.tt (hv.resolve_left c1)
  refine Ok.bd _ (rX12_isPoint hG.tt) ?_
  rintro v _ ⟨rfl, -, hv⟩
  refine Ok.ite (fun _ => Ok.ret ⟨hG, True.intro⟩) (fun c2 => ?_)
  have h2 := hv.resolve_left c2
  obtain ⟨j, hj, rfl⟩ := two_pt (c := 0) hG.tt rfl hs en hn h2.2.2 h2.2.1
  refine Ok.bd _ (rX12_isMeasure hG.tt) ?_
  rintro v _ ⟨rfl, -, -⟩
  refine Ok.ite (fun _ => Ok.ret ⟨hG, True.intro⟩) (fun _ => ?_)
  refine Ok.bd _ (xX12_laysRow hG.tt hG.pe hs en hn) ?_
  rintro _ u ⟨ho, -⟩
  refine Ok.bd _ (rX12_valueOf ho.1 ⟨s, hs, rfl⟩) ?_
  rintro v _ ⟨rfl, -⟩
  refine Ok.bd _ (xX12_exchanges ho hn hi hj) ?_
  rintro _ u ho2
  refine Ok.bd _ (rX12_valueOf ho2.1 ⟨s, hs, rfl⟩) ?_
  rintro v _ ⟨rfl, -⟩
  exact Ok.ret ⟨ho2.gm hG, True.intro⟩
theorem OD.pts {t u : St} {n : Nat} (h : OD t n u) {s : Nat} {x : Int32} (e : t 150 (91 * s) = x) : u 150 (91 * s) = x := by rw [h.2.1 150 (by decide)]; exact e
theorem nX12_swaps {σ t : St} (hG : GM σ t) {a b c : Int32} : Ok (FX12_swaps a b c t) (fun r u => GM σ u ∧ True) := by
  unfold FX12_swaps
  refine Ok.bd _ (rX12_isPoint hG.tt) ?_
  rintro v _ ⟨rfl, -, hv⟩
  refine Ok.ite (fun _ => Ok.ret ⟨hG, True.intro⟩) (fun c1 => ?_)
  obtain ⟨s, n, i, hs, rfl, en, hn, hi, rfl⟩ := ptx hG.tt (hv.resolve_left c1)
  refine Ok.bd _ (rX12_isPoint hG.tt) ?_
  rintro v _ ⟨rfl, -, hv⟩
  refine Ok.ite (fun _ => Ok.ret ⟨hG, True.intro⟩) (fun c2 => ?_)
  have h2 := hv.resolve_left c2
  obtain ⟨j, hj, rfl⟩ := two_pt (c := 0) hG.tt rfl hs en hn h2.2.2 h2.2.1
  refine Ok.bd _ (xX12_at hG.tt hs (i := i) (by omega)) ?_
  rintro v _ ⟨rfl, -⟩
  refine Ok.bd _ (xX12_laysRow hG.tt hG.pe hs en hn) ?_
  rintro _ u ⟨ho, -⟩
  refine Ok.bd _ (xX12_exchanges ho hn hi hj) ?_
  rintro _ u ho2
  refine Ok.bd _ (nX12_takesRow (ho2.gm hG) hs (ho2.pts en) hn ho2.2.2) ?_
  rintro r u ⟨hu, -⟩
  exact Ok.ret ⟨hu, True.intro⟩
theorem nX12_moves {σ t : St} (hG : GM σ t) {a b c : Int32} : Ok (FX12_moves a b c t) (fun r u => GM σ u ∧ True) := by
  unfold FX12_moves
  refine Ok.bd _ (rX12_isPoint hG.tt) ?_
  rintro v _ ⟨rfl, -, hv⟩
  refine Ok.ite (fun _ => Ok.ret ⟨hG, True.intro⟩) (fun c1 => ?_)
  obtain ⟨s, n, i, hs, rfl, en, hn, hi, rfl⟩ := ptx hG.tt (hv.resolve_left c1)
  refine Ok.bd _ (rX12_isPoint hG.tt) ?_
  rintro v _ ⟨rfl, -, hv⟩
  refine Ok.ite (fun _ => Ok.ret ⟨hG, True.intro⟩) (fun c2 => ?_)
  have h2 := hv.resolve_left c2
  obtain ⟨j, hj, rfl⟩ := two_pt (c := 0) hG.tt rfl hs en hn h2.2.2 h2.2.1
  refine Ok.bd _ (xX12_laysRow hG.tt hG.pe hs en hn) ?_
  rintro _ u ⟨ho, -⟩
  refine Ok.bd (fun v w => u = w ∧ ((v = -1 ∧ j ≤ i) ∨ (v = 1 ∧ i < j))) ?_ ?_
  · refine Ok.ite (fun c3 => Ok.ret ⟨rfl, Or.inl ⟨rfl, ?_⟩⟩) (fun c3 => Ok.ret ⟨rfl, Or.inr ⟨rfl, ?_⟩⟩)
    · rw [nI_leP (by omega) (by omega)] at c3
      exact c3
    · rw [nI_leP (by omega) (by omega)] at c3
      omega
  · rintro v _ ⟨rfl, hv⟩
    refine Ok.bd (fun _ w => OD t n w) ?_ ?_
    · rcases hv with ⟨rfl, hle⟩ | ⟨rfl, hlt⟩
      · refine Ok.loop (fun k c w => OD t n w ∧ ∃ q, c = nI q ∧ j ≤ q ∧ q ≤ i ∧ k = q - j) ?_ (i - j) _ _ ⟨ho, i, rfl, hle, by omega, rfl⟩
        intro k c w hI
        obtain ⟨hw, q, rfl, hq, hqi, rfl⟩ := hI
        unfold SX12_moves_41
        refine Ok.ite (fun _ => Ok.ret hw) (fun c4 => ?_)
        rw [nI_eqP (by omega) (by omega)] at c4
        obtain ⟨q, rfl⟩ : ∃ r, q = r + 1 := ⟨q - 1, by omega⟩
        rw [pk_m1]
        refine Ok.bd _ (xX12_exchanges hw hn (by omega) (by omega)) ?_
        rintro _ z hz
        exact Ok.ret ⟨q - j, by omega, hz, q, rfl, by omega, by omega, rfl⟩
      · refine Ok.loop (fun k c w => OD t n w ∧ ∃ q, c = nI q ∧ q ≤ j ∧ k = j - q) ?_ (j - i) _ _ ⟨ho, i, rfl, by omega, rfl⟩
        intro k c w hI
        obtain ⟨hw, q, rfl, hq, rfl⟩ := hI
        unfold SX12_moves_41
        refine Ok.ite (fun _ => Ok.ret hw) (fun c4 => ?_)
        rw [nI_eqP (by omega) (by omega)] at c4
        rw [nI_1]
        refine Ok.bd _ (xX12_exchanges hw hn (by omega) (by omega)) ?_
        rintro _ z hz
        exact Ok.ret ⟨j - (q + 1), by omega, hz, q + 1, rfl, by omega, rfl⟩
    · rintro _ w ho2
      refine Ok.bd _ (nX12_takesRow (ho2.gm hG) hs (ho2.pts en) hn ho2.2.2) ?_
      rintro r z ⟨hz, -⟩
      refine Ok.bd _ (xX12_at hz.tt hs (i := j) (by omega)) ?_
      rintro v _ ⟨rfl, -⟩
      exact Ok.ret ⟨hz, True.intro⟩
theorem nX12_reverse {σ t : St} (hG : GM σ t) {a : Int32} : Ok (FX12_reverse a t) (fun r u => GM σ u ∧ True) := by
  unfold FX12_reverse
  refine Ok.bd _ (rX12_isNet hG.tt) ?_
  rintro v _ ⟨rfl, -, hv⟩
  refine Ok.ite (fun _ => Ok.ret ⟨hG, True.intro⟩) (fun c => ?_)
  obtain ⟨⟨s, hs, rfl⟩, n, en, hn, -⟩ := hv.resolve_left c
  rw [nI_cl (by omega)] at en
  refine Ok.bd _ (xX12_laysRow hG.tt hG.pe hs en hn) ?_
  rintro _ u ⟨ho, -⟩
  refine Ok.bd (fun _ w => OD t n w) ?_ ?_
  · refine Ok.loop (fun k c w => OD t n w ∧ ∃ q, c = nI q ∧ q ≤ 20 ∧ k = 20 - q) ?_ 20 _ _ ⟨ho, 0, rfl, by omega, rfl⟩
    intro k c w hI
    obtain ⟨hw, q, rfl, hq, rfl⟩ := hI
    unfold SX12_reverse_18
    refine Ok.bd _ (xX12_points hw.1 hs) ?_
    rintro _ _ ⟨rfl, rfl⟩
    rw [hw.pts en]
    have e0 : nI n - 1 - nI q = nI n - nI (1 + q) := by
      show nI n - nI 1 - nI q = _
      rw [Int32.sub_sub, nI_add]
    rw [e0]
    refine Ok.ite (fun _ => Ok.ret hw) (fun c1 => ?_)
    rw [Int32.le_iff_toInt_le, pk_sub_toInt (by omega) (by omega), nI_toInt (by omega)] at c1
    refine Ok.bd _ (xX12_points hw.1 hs) ?_
    rintro _ _ ⟨rfl, rfl⟩
    rw [hw.pts en, e0, nI_sub (by omega)]
    refine Ok.bd _ (xX12_exchanges hw hn (i := q) (j := n - (1 + q)) (by omega) (by omega)) ?_
    rintro _ z hz
    exact Ok.ret ⟨20 - (q + 1), by omega, hz, q + 1, nI_1 q, by omega, rfl⟩
  · rintro _ w ho2
    refine Ok.bd _ (nX12_takesRow (ho2.gm hG) hs (ho2.pts en) hn ho2.2.2) ?_
    rintro r z ⟨hz, -⟩
    refine Ok.bd _ (xX12_at hz.tt hs (i := 0) (by omega)) ?_
    rintro v _ ⟨rfl, -⟩
    exact Ok.ret ⟨hz, True.intro⟩
theorem xX12_polishes {t : St} (hT : TY t) (hpe : PEs (t 150)) {s n : Nat} {b : Int32} (hs : s < 3) (en : t 150 (91 * s) = nI n) (hn : n < 10) : Ok (FX12_polishes (nI s) b t) (fun _ u => OD t n u) := by
  unfold FX12_polishes
  refine Ok.bd _ (xX12_laysRow hT hpe hs en hn) ?_
  rintro _ u ⟨ho, -⟩
  refine Ok.bd _ (rX12_valueOf ho.1 ⟨s, hs, rfl⟩) ?_
  rintro v4 _ ⟨rfl, -⟩
  refine Ok.bd (fun _ w => OD t n w) ?_ (fun _ w h => Ok.ret h)
  refine Ok.loop (fun k c w => OD t n w ∧ k = (if c.2.2 = 0 then 0 else 1 + (c.2.1.toInt + 2147483648).toNat)) ?_ _ _ _ ⟨ho, rfl⟩
  clear ho
  intro k c w hI
  obtain ⟨hw, rfl⟩ := hI
  obtain ⟨c0, now, goes⟩ := c
  unfold SX12_polishes_18
  dsimp only
  refine Ok.ite (fun _ => Ok.ret hw) (fun cg => ?_)
  rw [if_neg cg]
  refine Ok.bd (fun e z => OD t n z ∧ (e.1 = -1 ∨ ((∃ a, a < n ∧ e.1 = nI a) ∧ (∃ b, b < n ∧ e.2.1 = nI b) ∧ e.2.2 < now))) ?_ ?_
  · refine Ok.loop (fun k c z => OD t n z ∧ (∃ j, c.2.2.2 = nI j ∧ j ≤ 9 ∧ k = 9 - j) ∧ ¬ now < c.2.2.1 ∧ (c.1 = -1 ∨ ((∃ a, a < n ∧ c.1 = nI a) ∧ (∃ b, b < n ∧ c.2.1 = nI b) ∧ c.2.2.1 < now))) ?_ 9 _ _ ⟨hw, ⟨0, rfl, by omega, rfl⟩, Int32.lt_irrefl, Or.inl rfl⟩
    clear hw
    intro k c z hI
    obtain ⟨hz, ⟨j, ej, hj, rfl⟩, hl, hd⟩ := hI
    obtain ⟨d0, d1, d2, d3⟩ := c
    dsimp only at ej hl hd
    subst ej
    unfold SX12_polishes_36
    dsimp only
    refine Ok.bd _ (xX12_points hz.1 hs) ?_
    rintro _ _ ⟨rfl, rfl⟩
    rw [hz.pts en]
    refine Ok.ite (fun _ => Ok.ret ⟨hz, hd⟩) (fun c1 => ?_)
    rw [nI_leP (by omega) (by omega)] at c1
    refine Ok.bd (fun e z => OD t n z ∧ ¬ now < e.2.2 ∧ (e.1 = -1 ∨ ((∃ a, a < n ∧ e.1 = nI a) ∧ (∃ b, b < n ∧ e.2.1 = nI b) ∧ e.2.2 < now))) ?_ (fun e z h => Ok.ret ⟨9 - (j + 1), by omega, h.1, ⟨j + 1, nI_1 j, by omega, rfl⟩, h.2.1, h.2.2⟩)
    rw [nI_1]
    refine Ok.loop (fun k c z => OD t n z ∧ (∃ j, c.2.2.2 = nI j ∧ j ≤ 9 ∧ k = 9 - j) ∧ ¬ now < c.2.2.1 ∧ (c.1 = -1 ∨ ((∃ a, a < n ∧ c.1 = nI a) ∧ (∃ b, b < n ∧ c.2.1 = nI b) ∧ c.2.2.1 < now))) ?_ (9 - (j + 1)) _ _ ⟨hz, ⟨j + 1, rfl, by omega, rfl⟩, hl, hd⟩
    clear hz hl hd
    intro k c z hI
    obtain ⟨hz, ⟨i, ei, hi, rfl⟩, hl, hd⟩ := hI
    obtain ⟨f0, f1, f2, f3⟩ := c
    dsimp only at ei hl hd
    subst ei
    unfold SX12_polishes_52
    dsimp only
    refine Ok.bd _ (xX12_points hz.1 hs) ?_
    rintro _ _ ⟨rfl, rfl⟩
    rw [hz.pts en]
    refine Ok.ite (fun _ => Ok.ret ⟨hz, hl, hd⟩) (fun c2 => ?_)
    rw [nI_leP (by omega) (by omega)] at c2
    refine Ok.bd _ (xX12_exchanges hz hn (i := j) (j := i) (by omega) (by omega)) ?_
    rintro _ z1 hz1
    refine Ok.bd _ (rX12_valueOf hz1.1 ⟨s, hs, rfl⟩) ?_
    rintro v19 _ ⟨rfl, -⟩
    refine Ok.bd _ (xX12_exchanges hz1 hn (i := j) (j := i) (by omega) (by omega)) ?_
    rintro _ z2 hz2
    refine Ok.bd (fun e z => OD t n z ∧ ¬ now < e.2.2 ∧ (e.1 = -1 ∨ ((∃ a, a < n ∧ e.1 = nI a) ∧ (∃ b, b < n ∧ e.2.1 = nI b) ∧ e.2.2 < now))) ?_ (fun e z h => Ok.ret ⟨9 - (i + 1), by omega, h.1, ⟨i + 1, nI_1 i, by omega, rfl⟩, h.2.1, h.2.2⟩)
    refine Ok.ite (fun _ => Ok.ret ⟨hz2, hl, hd⟩) (fun c3 => ?_)
    have hlt : v19 < now := by
      rw [Int32.le_iff_toInt_le] at c3
      rw [Int32.lt_iff_toInt_lt] at hl ⊢
      omega
    refine Ok.ret ⟨hz2, ?_, Or.inr ⟨⟨j, by omega, rfl⟩, ⟨i, by omega, rfl⟩, hlt⟩⟩
    show ¬ now < v19
    rw [Int32.lt_iff_toInt_lt] at hlt ⊢
    omega
  · rintro ⟨e0, e1, e2⟩ z ⟨hz, hd⟩
    dsimp only at hd ⊢
    refine Ok.bd (fun v z' => z = z' ∧ ((v = 0 ∧ e0 = -1) ∨ (v = 1 ∧ ¬ e0 = -1))) (Ok.ite (fun q => Ok.ret ⟨rfl, Or.inl ⟨rfl, q⟩⟩) (fun q => Ok.ret ⟨rfl, Or.inr ⟨rfl, q⟩⟩)) ?_
    rintro v39 _ ⟨rfl, h39⟩
    refine Ok.bd (fun v z' => OD t n z' ∧ (v39 = 0 ∨ v.2.toInt < now.toInt)) ?_ ?_
    · refine Ok.ite (fun q => Ok.ret ⟨hz, Or.inl q⟩) (fun q => ?_)
      rcases h39 with ⟨h, -⟩ | ⟨-, h⟩
      · exact absurd h q
      · obtain ⟨⟨a, ha, rfl⟩, ⟨b', hb', rfl⟩, hlt⟩ := hd.resolve_left h
        refine Ok.bd _ (xX12_exchanges hz hn ha hb') ?_
        rintro _ z1 hz1
        exact Ok.ret ⟨hz1, Or.inr (Int32.lt_iff_toInt_lt.mp hlt)⟩
    · rintro ⟨v0, v1⟩ z1 ⟨hz1, hv⟩
      refine Ok.ret ⟨_, ?_, hz1, rfl⟩
      dsimp only at hv ⊢
      by_cases q : v39 = 0
      · rw [if_pos q]
        omega
      · rw [if_neg q]
        have := hv.resolve_left q
        have := Int32.le_toInt v1
        omega
theorem nX12_polish {σ t : St} (hG : GM σ t) {a b : Int32} : Ok (FX12_polish a b t) (fun r u => GM σ u ∧ True) := by
  unfold FX12_polish
  refine Ok.bd _ (rX12_isNet hG.tt) ?_
  rintro v _ ⟨rfl, -, hv⟩
  refine Ok.ite (fun _ => Ok.ret ⟨hG, True.intro⟩) (fun c => ?_)
  obtain ⟨⟨s, hs, rfl⟩, n, en, hn, -⟩ := hv.resolve_left c
  rw [nI_cl (by omega)] at en
  refine Ok.bd _ (rX12_isMeasure hG.tt) ?_
  rintro v _ ⟨rfl, -, -⟩
  refine Ok.ite (fun _ => Ok.ret ⟨hG, True.intro⟩) (fun _ => ?_)
  refine Ok.bd _ (xX12_polishes hG.tt hG.pe hs en hn) ?_
  rintro r u ho
  refine Ok.bd _ (nX12_takesRow (ho.gm hG) hs (ho.pts en) hn ho.2.2) ?_
  rintro r z ⟨hz, -⟩
  exact Ok.ret ⟨hz, True.intro⟩
theorem nX12_polished {σ t : St} (hG : GM σ t) {a b : Int32} : Ok (FX12_polished a b t) (fun r u => GM σ u ∧ True) := by
  unfold FX12_polished
  refine Ok.bd _ (rX12_isNet hG.tt) ?_
  rintro v _ ⟨rfl, -, hv⟩
  refine Ok.ite (fun _ => Ok.ret ⟨hG, True.intro⟩) (fun c => ?_)
  obtain ⟨⟨s, hs, rfl⟩, n, en, hn, -⟩ := hv.resolve_left c
  rw [nI_cl (by omega)] at en
  refine Ok.bd _ (rX12_isMeasure hG.tt) ?_
  rintro v _ ⟨rfl, -, -⟩
  refine Ok.ite (fun _ => Ok.ret ⟨hG, True.intro⟩) (fun _ => ?_)
  refine Ok.bd _ (xX12_polishes hG.tt hG.pe hs en hn) ?_
  rintro r u ho
  refine Ok.bd _ (rX12_valueOf ho.1 ⟨s, hs, rfl⟩) ?_
  rintro v _ ⟨rfl, -⟩
  exact Ok.ret ⟨ho.gm hG, True.intro⟩
theorem GM.wt {σ t : St} (h : GM σ t) {s p q : Nat} {v : Int32} (hs : s < 3) (hp : p < 9) (hq : q < 9) (hv : IsR 10 v) : GM σ (wr t 150 (91 * s + 1 + 9 * p + q) v) := by
  have e : wr t 150 (91 * s + 1 + 9 * p + q) v = stp t 150 (upd (t 150) (91 * s + 1 + 9 * p + q) v) := rfl
  have em : (91 * s + 1 + 9 * p + q) % 91 = 1 + 9 * p + q := by
    rw [show 91 * s + 1 + 9 * p + q = 91 * s + (1 + 9 * p + q) by omega, Nat.mul_add_mod, Nat.mod_eq_of_lt (by omega)]
  rw [e]
  refine h.st (fun i hi => ?_) (h.pe.congr (fun s' hs' => pk_un (by omega)) (fun s' i hs' hi => pk_un (by omega)))
  by_cases q' : i = 91 * s + 1 + 9 * p + q
  · subst q'
    rw [pk_us, em, if_neg (by omega)]
    exact hv
  · rw [pk_un q']
    exact h.ts hi
theorem nX12_adds {σ t : St} (hG : GM σ t) {a b c d : Int32} : Ok (FX12_adds a b c d t) (fun r u => GM σ u ∧ True) := by
  unfold FX12_adds FX12_areTwo
  refine Ok.bd (fun v u => t = u ∧ (v = 0 ∨ ((IsR 3 a ∧ IsR 9 b ∧ PtIn t a b) ∧ (IsR 3 a ∧ IsR 9 c ∧ PtIn t a c)))) ?_ ?_
  · refine Ok.bd _ (rX12_isPoint hG.tt) ?_
    rintro v _ ⟨rfl, -, hv⟩
    refine Ok.ite (fun _ => Ok.ret ⟨rfl, Or.inl rfl⟩) (fun c1 => ?_)
    refine Ok.bd _ (rX12_isPoint hG.tt) ?_
    rintro w _ ⟨rfl, -, hw⟩
    refine Ok.ite (fun _ => Ok.ret ⟨rfl, Or.inl rfl⟩) (fun c2 => ?_)
    exact Ok.ite (fun _ => Ok.ret ⟨rfl, Or.inl rfl⟩) (fun _ => Ok.ret ⟨rfl, Or.inr ⟨hv.resolve_left c1, hw.resolve_left c2⟩⟩)
  · rintro v _ ⟨rfl, hv⟩
    refine Ok.ite (fun _ => Ok.ret ⟨hG, True.intro⟩) (fun c1 => ?_)
    obtain ⟨⟨⟨s, hs, rfl⟩, ⟨p, hp, rfl⟩, -⟩, -, ⟨q, hq, rfl⟩, -⟩ := hv.resolve_left c1
    refine Ok.bd _ (rX12_in hG.tt) ?_
    rintro v6 _ ⟨rfl, -, h6⟩
    refine Ok.ite (fun _ => Ok.ret ⟨hG, True.intro⟩) (fun c2 => ?_)
    have hd : IsR 10 d := in_R (h6.resolve_left c2) (by decide) (by decide)
    refine Ok.bd _ (rX12_weight hG.tt ⟨s, hs, rfl⟩ ⟨p, hp, rfl⟩ ⟨q, hq, rfl⟩) ?_
    rintro v10 _ ⟨rfl, -⟩
    have fin : Ok (bnd (FX12_remembers t) (fun _ t1 => bnd (FX12_weighs (nI s) (nI p) (nI q) d t1) (fun _ t2 => bnd (FX12_done v10 t2) (fun v t3 => some (v, t3))))) (fun r u => GM σ u ∧ True) := by
      refine Ok.bd _ xX12_remembers ?_
      rintro _ _ rfl
      refine Ok.bd _ (xX12_weighs hs hp hq) ?_
      rintro _ _ rfl
      refine Ok.bd _ (nX12_done ((hG.rem.wt hs hp hq hd).wt hs hq hp hd)) ?_
      rintro r u ⟨hu, -⟩
      exact Ok.ret ⟨hu, True.intro⟩
    refine Ok.ite (fun _ => ?_) (fun _ => fin)
    refine Ok.bd _ (rX12_lines hG.tt ⟨s, hs, rfl⟩) ?_
    rintro v24 _ ⟨rfl, -⟩
    exact Ok.ite (fun _ => Ok.ret ⟨hG, True.intro⟩) (fun _ => fin)
theorem nX12_cuts {σ t : St} (hG : GM σ t) {a b c : Int32} : Ok (FX12_cuts a b c t) (fun r u => GM σ u ∧ True) := by
  unfold FX12_cuts FX12_areTwo
  refine Ok.bd (fun v u => t = u ∧ (v = 0 ∨ ((IsR 3 a ∧ IsR 9 b ∧ PtIn t a b) ∧ (IsR 3 a ∧ IsR 9 c ∧ PtIn t a c)))) ?_ ?_
  · refine Ok.bd _ (rX12_isPoint hG.tt) ?_
    rintro v _ ⟨rfl, -, hv⟩
    refine Ok.ite (fun _ => Ok.ret ⟨rfl, Or.inl rfl⟩) (fun c1 => ?_)
    refine Ok.bd _ (rX12_isPoint hG.tt) ?_
    rintro w _ ⟨rfl, -, hw⟩
    refine Ok.ite (fun _ => Ok.ret ⟨rfl, Or.inl rfl⟩) (fun c2 => ?_)
    exact Ok.ite (fun _ => Ok.ret ⟨rfl, Or.inl rfl⟩) (fun _ => Ok.ret ⟨rfl, Or.inr ⟨hv.resolve_left c1, hw.resolve_left c2⟩⟩)
  · rintro v _ ⟨rfl, hv⟩
    refine Ok.ite (fun _ => Ok.ret ⟨hG, True.intro⟩) (fun c1 => ?_)
    obtain ⟨⟨⟨s, hs, rfl⟩, ⟨p, hp, rfl⟩, -⟩, -, ⟨q, hq, rfl⟩, -⟩ := hv.resolve_left c1
    refine Ok.bd _ (rX12_weight hG.tt ⟨s, hs, rfl⟩ ⟨p, hp, rfl⟩ ⟨q, hq, rfl⟩) ?_
    rintro v5 _ ⟨rfl, -⟩
    refine Ok.ite (fun _ => Ok.ret ⟨hG, True.intro⟩) (fun _ => ?_)
    refine Ok.bd _ xX12_remembers ?_
    rintro _ _ rfl
    refine Ok.bd _ (xX12_weighs hs hp hq) ?_
    rintro _ _ rfl
    refine Ok.bd _ (nX12_keeps ((hG.rem.wt hs hp hq ⟨0, by omega, rfl⟩).wt hs hq hp ⟨0, by omega, rfl⟩)) ?_
    rintro r u ⟨hu, -⟩
    exact Ok.ret ⟨hu, True.intro⟩
end
section
/-! the reference: small ones, greedy rows, minors (wip/ext/g35.py) -/
theorem rX12_octet {t : St} (hT : TY t) {a : Int32} : Ok (FX12_octet a t) (fun r u => t = u ∧ True) := by
  unfold FX12_octet
  obtain ⟨n, hn, en⟩ := hT.rd ty_m25 (by omega)
  refine Ok.rd (fun v1 h1 => ?_)
  rw [en] at h1
  subst h1
  refine Ok.bd _ (rX12_in hT) ?_
  rintro v _ ⟨rfl, -, hv⟩
  refine Ok.ite (fun _ => Ok.ret ⟨rfl, True.intro⟩) (fun c => ?_)
  have h2 : (nI n - 1).toInt64.toInt = (n : Int) - 1 := by
    rw [Int32.toInt_toInt64, li_1, Int32.toInt_sub, nI_toInt (by omega), nI_toInt (by omega)]
    simp only [Int.bmod]
    omega
  have h3 := hv.resolve_left c
  rw [h2] at h3
  obtain ⟨k, hk, rfl⟩ := in_R (m := 400) ⟨h3.1, Int.le_refl _⟩ (by decide) (by omega)
  refine Ok.ck (inb_n (by omega) (by omega)) (fun g => Ok.rd (fun v hv => ?_))
  exact Ok.ret ⟨rfl, True.intro⟩
theorem rX12_isAt {t : St} (hT : TY t) {a b : Int32} : Ok (FX12_isAt a b t) (fun r u => t = u ∧ (isb r = true ∧ (r = 0 ∨ ∃ i n, t 149 8 = nI i ∧ t 149 5 = nI n ∧ i < n ∧ n < 401 ∧ a.toInt ≤ (t 153 i).toInt ∧ (t 153 i).toInt ≤ b.toInt))) := by
  unfold FX12_isAt
  obtain ⟨i, hi, ei⟩ := hT.rd ty_m8 (by omega)
  obtain ⟨n, hn, en⟩ := hT.rd ty_m5 (by omega)
  refine Ok.rd (fun v1 h1 => Ok.rd (fun v3 h3 => ?_))
  rw [ei] at h1
  rw [en] at h3
  subst h1 h3
  refine Ok.ite (fun _ => Ok.ret ⟨rfl, rfl, Or.inl rfl⟩) (fun c => ?_)
  rw [nI_leP (by omega) (by omega)] at c
  refine Ok.rd (fun v7 h7 => ?_)
  rw [ei] at h7
  subst h7
  refine Ok.ck (inb_n (by omega) (by omega)) (fun g => Ok.rd (fun v10 h10 => ?_))
  rw [nI_cl (by omega)] at h10
  subst h10
  refine Ok.bd _ (rX12_in hT) ?_
  rintro v _ ⟨rfl, -, hv⟩
  refine Ok.ite (fun _ => Ok.ret ⟨rfl, rfl, Or.inl rfl⟩) (fun c2 => ?_)
  have h := hv.resolve_left c2
  simp only [Int32.toInt_toInt64] at h
  exact Ok.ret ⟨rfl, rfl, Or.inr ⟨i, n, ei, en, by omega, hn, h⟩⟩
theorem xX12_has {t : St} {S j : Nat} (hS : S < 2147483648) (hj : j < 32) : Ok (FX12_has (nI S) (nI j) t) (fun r u => t = u ∧ r = nI (S.testBit j).toNat) := by
  unfold FX12_has
  rw [bit_n hS hj]
  refine Ok.ite (fun c => ?_) (fun c => ?_)
  · rw [c]
    exact Ok.ret ⟨rfl, rfl⟩
  · refine Ok.ret ⟨rfl, ?_⟩
    cases h : S.testBit j
    · rfl
    · rw [h] at c
      exact absurd rfl c
theorem cnt_le {S : Nat} : ∀ {n : Nat}, cnt S n ≤ n
  | 0 => Nat.le_refl _
  | n + 1 => by
    rw [cnt]
    have := cnt_le (S := S) (n := n)
    cases S.testBit n <;> simp <;> omega
theorem cnt_full {S : Nat} : ∀ {n : Nat}, cnt S n = n → ∀ p, p < n → S.testBit p = true
  | 0, _, p, hp => absurd hp (by omega)
  | n + 1, h, p, hp => by
    rw [cnt] at h
    have := cnt_le (S := S) (n := n)
    cases hb : S.testBit n
    · rw [hb] at h
      simp at h
      omega
    · rw [hb] at h
      by_cases e : p = n
      · rw [e]; exact hb
      · exact cnt_full (by simp at h; omega) p (by omega)
theorem cnt_0 (m : Nat) : cnt 0 m = 0 := by
  induction m with
  | zero => rfl
  | succ m ih => rw [cnt, ih]; simp
/-- only the row that is looked at has changed -/
def OX (t u : St) : Prop := TY u ∧ ∀ b, b ≠ 154 → u b = t b
theorem nX12_greedy {σ t : St} (hG : GM σ t) {a b : Int32} : Ok (FX12_greedy a b t) (fun r u => GM σ u ∧ True) := by
  unfold FX12_greedy
  refine Ok.bd _ (rX12_isNet hG.tt) ?_
  rintro v _ ⟨rfl, -, hv⟩
  refine Ok.ite (fun _ => Ok.ret ⟨hG, True.intro⟩) (fun c => ?_)
  obtain ⟨⟨s, hs, rfl⟩, n, en, hn, -⟩ := hv.resolve_left c
  rw [nI_cl (by omega)] at en
  clear hv c
  refine Ok.bd _ (rX12_isMeasure hG.tt) ?_
  rintro v _ ⟨rfl, -, -⟩
  refine Ok.ite (fun _ => Ok.ret ⟨hG, True.intro⟩) (fun _ => ?_)
  refine Ok.ite (fun _ => Ok.ret ⟨hG, True.intro⟩) (fun _ => ?_)
  refine Ok.bd (fun _ u => OD t n u) ?_ ?_
  · refine Ok.loop (fun k c u => OX t u ∧ ∃ S i, c = (nI S, nI i) ∧ S < 512 ∧ cnt S n = i ∧ i ≤ n ∧ k = 9 - i ∧ ∀ p, S.testBit p = true → ∃ k, k < i ∧ u 154 k = nI p) ?_ 9 _ _ ⟨⟨hG.tt, fun _ _ => rfl⟩, 0, 0, rfl, by omega, cnt_0 n, by omega, rfl, fun p hp => by simp at hp⟩
    intro k c u hI
    obtain ⟨⟨hT, hu⟩, S, i, rfl, hS, hc, hi, rfl, hrow⟩ := hI
    have en' : u 150 (91 * s) = nI n := by rw [hu 150 (by decide)]; exact en
    unfold SX12_greedy_28
    dsimp only
    refine Ok.bd _ (xX12_points hT hs) ?_
    rintro _ _ ⟨rfl, rfl⟩
    rw [en']
    refine Ok.ite (fun c1 => ?_) (fun c1 => ?_)
    · rw [nI_leP (by omega) (by omega)] at c1
      have hin : i = n := by omega
      refine Ok.ret ⟨hT, hu, fun p hp => ?_⟩
      obtain ⟨k, hk, e⟩ := hrow p (cnt_full (hc.trans hin) p hp)
      exact ⟨k, by omega, e⟩
    rw [nI_leP (by omega) (by omega)] at c1
    refine Ok.bd (fun v w => u = w ∧ ∃ q, q < n ∧ v = nI q ∧ S.testBit q = false) ?_ ?_
    · refine Ok.loop (fun k c w => u = w ∧ ∃ j, c.2 = nI j ∧ j ≤ n ∧ k = 9 - j ∧ ((c.1 = -1 ∧ ∀ p, p < j → S.testBit p = true) ∨ ∃ q, q < n ∧ c.1 = nI q ∧ S.testBit q = false)) ?_ 9 _ _ ⟨rfl, 0, rfl, by omega, rfl, Or.inl ⟨rfl, fun p hp => absurd hp (by omega)⟩⟩
      intro k c w hI
      obtain ⟨rfl, j, ej, hj, rfl, hd⟩ := hI
      obtain ⟨c0, c2⟩ := c
      dsimp only at ej hd
      subst ej
      unfold SX12_greedy_44
      dsimp only
      refine Ok.bd _ (xX12_points hT hs) ?_
      rintro _ _ ⟨rfl, rfl⟩
      rw [en']
      refine Ok.ite (fun c3 => ?_) (fun c3 => ?_)
      · rw [nI_leP (by omega) (by omega)] at c3
        refine Ok.ret ⟨rfl, ?_⟩
        rcases hd with ⟨-, hall⟩ | h
        · have := cnt_all (S := S) (n := n) (fun p hp => hall p (by omega))
          omega
        · exact h
      · rw [nI_leP (by omega) (by omega)] at c3
        refine Ok.bd _ (xX12_has (by omega) (by omega)) ?_
        rintro _ _ ⟨rfl, rfl⟩
        refine Ok.bd (fun v w => u = w ∧ ((v = -1 ∧ ∀ p, p < j + 1 → S.testBit p = true) ∨ ∃ q, q < n ∧ v = nI q ∧ S.testBit q = false)) ?_ ?_
        · cases hb : S.testBit j
          · refine Ok.ite (fun _ => ?_) (fun c4 => absurd rfl c4)
            refine Ok.ite (fun _ => Ok.ret ⟨rfl, Or.inr ⟨j, by omega, rfl, hb⟩⟩) (fun c5 => ?_)
            obtain ⟨q, hq, rfl, hqb⟩ := hd.resolve_left (fun h => c5 h.1)
            refine Ok.bd _ (rX12_cost hT ⟨s, hs, rfl⟩ ⟨j, by omega, rfl⟩) ?_
            rintro v29 _ ⟨rfl, -⟩
            refine Ok.bd _ (rX12_cost hT ⟨s, hs, rfl⟩ ⟨q, by omega, rfl⟩) ?_
            rintro v32 _ ⟨rfl, -⟩
            exact Ok.ite (fun _ => Ok.ret ⟨rfl, Or.inr ⟨q, hq, rfl, hqb⟩⟩) (fun _ => Ok.ret ⟨rfl, Or.inr ⟨j, by omega, rfl, hb⟩⟩)
          · refine Ok.ite (fun c4 => absurd c4 (by decide)) (fun _ => ?_)
            refine Ok.ret ⟨rfl, ?_⟩
            rcases hd with ⟨h1, hall⟩ | h
            · refine Or.inl ⟨h1, fun p hp => ?_⟩
              by_cases e : p = j
              · rw [e]; exact hb
              · exact hall p (by omega)
            · exact Or.inr h
        · rintro v _ ⟨rfl, hv⟩
          exact Ok.ret ⟨9 - (j + 1), by omega, rfl, j + 1, nI_1 j, by omega, rfl, hv⟩
    · rintro _ _ ⟨rfl, q, hq, rfl, hb⟩
      refine Ok.ck (inb_n (by omega) (by omega)) (fun g2 => ?_)
      refine Ok.wr (fun w ew => ?_)
      rw [nI_cl (by omega)] at ew
      refine Ok.ret ⟨9 - (i + 1), by omega, ⟨?_, fun b hb => ?_⟩, S ||| 2 ^ q, i + 1, ?_, or9 hS (pw9 (by omega)), ?_, by omega, rfl, fun p hp => ?_⟩
      · rw [ew]
        exact hT.wr (Or.inr (by rw [ty_a154 (by omega)]; exact ⟨q, by omega, rfl⟩))
      · rw [ew, wr_off b hb]
        exact hu b hb
      · rw [shl_1 (by omega), nI_or, nI_1]
      · rw [cnt_or hb, if_pos hq, hc]
      · rw [Nat.testBit_or, Nat.testBit_two_pow] at hp
        rw [ew, wr_at]
        by_cases e : q = p
        · exact ⟨i, by omega, by rw [pk_us, e]⟩
        · have hp' : S.testBit p = true := by simpa [e] using hp
          obtain ⟨k, hk, h⟩ := hrow p hp'
          exact ⟨k, by omega, by rw [pk_un (by omega)]; exact h⟩
  · rintro _ u hu
    have hGu := hu.gm hG
    refine Ok.bd _ (nX12_takesRow hGu hs (hu.pts en) hn hu.2.2) ?_
    rintro _ w ⟨hw, -⟩
    refine Ok.bd _ (rX12_valueOf hw.tt ⟨s, hs, rfl⟩) ?_
    rintro v50 _ ⟨rfl, -⟩
    exact Ok.ret ⟨hw, True.intro⟩
theorem xX12_ones {t : St} {a : Int32} : Ok (FX12_ones a t) (fun _ u => t = u) := by
  unfold FX12_ones
  refine Ok.bd (fun _ u => t = u) ?_ (fun _ _ h => Ok.ret h)
  refine Ok.loop (fun k c s => t = s ∧ k = c.2.toBitVec.toNat) ?_ _ _ _ ⟨rfl, rfl⟩
  intro k c s hI
  obtain ⟨rfl, rfl⟩ := hI
  unfold SX12_ones_4
  refine Ok.ite (fun _ => Ok.ret rfl) (fun c1 => Ok.ret ⟨_, nd_dec c1, rfl, rfl⟩)
/-- of a set the one with the fewest: none only where the set has no bit -/
theorem xX12_fewestOf {t : St} {a : Int32} : Ok (FX12_fewestOf a t) (fun r u => t = u ∧ ((r = -1 ∧ ∀ p, p < 9 → ¬ shr a (nI p) &&& 1 = 1) ∨ ∃ q, q < 9 ∧ r = nI q ∧ shr a (nI q) &&& 1 = 1)) := by
  unfold FX12_fewestOf
  refine Ok.bd (fun r u => t = u ∧ ((r = -1 ∧ ∀ p, p < 9 → ¬ shr a (nI p) &&& 1 = 1) ∨ ∃ q, q < 9 ∧ r = nI q ∧ shr a (nI q) &&& 1 = 1)) ?_ (fun _ _ h => Ok.ret h)
  refine Ok.loop (fun k c u => t = u ∧ ∃ j, c.2 = nI j ∧ j ≤ 9 ∧ k = 9 - j ∧ ((c.1 = -1 ∧ ∀ p, p < j → ¬ shr a (nI p) &&& 1 = 1) ∨ ∃ q, q < 9 ∧ c.1 = nI q ∧ shr a (nI q) &&& 1 = 1)) ?_ 9 _ _ ⟨rfl, 0, rfl, by omega, rfl, Or.inl ⟨rfl, fun p hp => absurd hp (by omega)⟩⟩
  intro k c u hI
  obtain ⟨rfl, j, ej, hj, rfl, hd⟩ := hI
  obtain ⟨c0, c2⟩ := c
  dsimp only at ej hd
  subst ej
  unfold SX12_fewestOf_4
  dsimp only
  refine Ok.ite (fun c3 => ?_) (fun c3 => ?_)
  · rw [li_9, nI_leP (by omega) (by omega)] at c3
    refine Ok.ret ⟨rfl, ?_⟩
    rcases hd with ⟨h1, hall⟩ | h
    · exact Or.inl ⟨h1, fun p hp => hall p (by omega)⟩
    · exact Or.inr h
  rw [li_9, nI_leP (by omega) (by omega)] at c3
  refine Ok.bd (fun v u => t = u ∧ ((v = 1 ∧ shr a (nI j) &&& 1 = 1) ∨ (v = 0 ∧ ¬ shr a (nI j) &&& 1 = 1))) ?_ ?_
  · unfold FX12_has
    exact Ok.ite (fun c => Ok.ret ⟨rfl, Or.inl ⟨rfl, c⟩⟩) (fun c => Ok.ret ⟨rfl, Or.inr ⟨rfl, c⟩⟩)
  rintro v _ ⟨rfl, hv⟩
  refine Ok.bd (fun v u => t = u ∧ ((v = -1 ∧ ∀ p, p < j + 1 → ¬ shr a (nI p) &&& 1 = 1) ∨ ∃ q, q < 9 ∧ v = nI q ∧ shr a (nI q) &&& 1 = 1)) ?_ ?_
  · refine Ok.ite (fun c4 => ?_) (fun c4 => ?_)
    · have hn := (hv.resolve_left (fun h => absurd (h.1.symm.trans c4) (by decide))).2
      refine Ok.ret ⟨rfl, ?_⟩
      rcases hd with ⟨h1, hall⟩ | h
      · refine Or.inl ⟨h1, fun p hp => ?_⟩
        by_cases e : p = j
        · rw [e]; exact hn
        · exact hall p (by omega)
      · exact Or.inr h
    · have hy := (hv.resolve_right (fun h => c4 h.1)).2
      refine Ok.ite (fun _ => Ok.ret ⟨rfl, Or.inr ⟨j, by omega, rfl, hy⟩⟩) (fun c5 => ?_)
      obtain ⟨q, hq, rfl, hqb⟩ := hd.resolve_left (fun h => c5 h.1)
      refine Ok.ck (inb_n (by omega) (by omega)) (fun _ => Ok.rd (fun v12 _ => ?_))
      refine Ok.bd (fun _ u => t = u) ?_ ?_
      · exact xX12_ones
      rintro v14 _ rfl
      refine Ok.ck (inb_n (by omega) (by omega)) (fun _ => Ok.rd (fun v18 _ => ?_))
      refine Ok.bd (fun _ u => t = u) ?_ ?_
      · exact xX12_ones
      rintro v20 _ rfl
      exact Ok.ite (fun _ => Ok.ret ⟨rfl, Or.inr ⟨q, hq, rfl, hqb⟩⟩) (fun _ => Ok.ret ⟨rfl, Or.inr ⟨j, by omega, rfl, hy⟩⟩)
  · rintro v _ ⟨rfl, hv⟩
    exact Ok.ret ⟨9 - (j + 1), by omega, rfl, j + 1, nI_1 j, by omega, rfl, hv⟩
theorem bit_g {x : Int32} {k : Nat} (hk : k < 32) : (shr x (nI k) &&& 1 = 1) ↔ x.toBitVec.getLsbD k = true := by
  have e : (shr x (nI k)).toBitVec = x.toBitVec.sshiftRight k := by
    show (x >>> (nI k &&& 31)).toBitVec = _
    rw [Int32.toBitVec_shiftRight, shl_31 hk]
    show x.toBitVec.sshiftRight (BitVec.ofNat 32 k).toNat = _
    congr 1
    show k % 4294967296 = k
    omega
  rw [← Int32.toBitVec_inj, Int32.toBitVec_and, e]
  have e1 : (1 : Int32).toBitVec = 1#32 := rfl
  rw [e1]
  have hb : (x.toBitVec.sshiftRight k).getLsbD 0 = x.toBitVec.getLsbD k := by
    rw [BitVec.getLsbD_sshiftRight]
    simp [hk]
  constructor
  · intro h
    have := congrArg (fun b => b.getLsbD 0) h
    simp only [BitVec.getLsbD_and, hb] at this
    simpa using this
  · intro h
    apply BitVec.eq_of_getLsbD_eq
    intro i hi
    rw [BitVec.getLsbD_and]
    by_cases q : i = 0
    · subst q
      rw [hb, h]
      rfl
    · have : (1#32).getLsbD i = false := by
        rw [BitVec.getLsbD_one]
        simp [q]
      rw [this, Bool.and_false]
theorem bit_and {x y : Int32} {k : Nat} (hk : k < 32) (h : shr (x &&& y) (nI k) &&& 1 = 1) : shr x (nI k) &&& 1 = 1 := by
  rw [bit_g hk, Int32.toBitVec_and, BitVec.getLsbD_and] at h
  rw [bit_g hk]
  simp at h
  exact h.1
theorem bit_clr {S p : Nat} (hS : S < 512) (hp : p < 9) (hb : S.testBit p = true) : ∃ T, T < S ∧ nI S &&& (shl 1 (nI p) ^^^ -1) = nI T := by
  have e : (-1 : Int32) = nI 4294967295 := rfl
  rw [shl_1 (by omega), e, nI_xor, nI_and]
  refine ⟨_, ?_, rfl⟩
  have h1 := Nat.and_le_left (n := S) (m := 2 ^ p ^^^ 4294967295)
  have h2 : S &&& (2 ^ p ^^^ 4294967295) ≠ S := fun q => by
    have := congrArg (fun b => b.testBit p) q
    simp only [Nat.testBit_and, Nat.testBit_xor, hb] at this
    have e2 : (4294967295 : Nat).testBit p = true := by
      rcases (show p = 0 ∨ p = 1 ∨ p = 2 ∨ p = 3 ∨ p = 4 ∨ p = 5 ∨ p = 6 ∨ p = 7 ∨ p = 8 by omega) with rfl | rfl | rfl | rfl | rfl | rfl | rfl | rfl | rfl <;> decide
    rw [e2, Nat.testBit_two_pow] at this
    simp at this
  omega
theorem nX12_minor {σ t : St} (hG : GM σ t) {a : Int32} : Ok (FX12_minor a t) (fun r u => GM σ u ∧ True) := by
  unfold FX12_minor
  refine Ok.bd _ (rX12_isNet hG.tt) ?_
  rintro v _ ⟨rfl, -, hv⟩
  refine Ok.ite (fun _ => Ok.ret ⟨hG, True.intro⟩) (fun c => ?_)
  obtain ⟨⟨s, hs, rfl⟩, -⟩ := hv.resolve_left c
  clear hv c
  refine Ok.bd (fun _ u => GM σ u) ?_ ?_
  · refine Ok.loop (fun k c u => GM σ u ∧ ∃ j, c = nI j ∧ j ≤ 9 ∧ k = 9 - j) ?_ 9 _ _ ⟨hG, 0, rfl, by omega, rfl⟩
    clear hG
    intro k c u hI
    obtain ⟨hG, j, rfl, hj, rfl⟩ := hI
    unfold SX12_minor_13
    refine Ok.bd _ (rX12_points hG.tt ⟨s, hs, rfl⟩) ?_
    rintro _ _ ⟨rfl, n, hn, rfl⟩
    refine Ok.ite (fun _ => Ok.ret hG) (fun c1 => ?_)
    rw [nI_leP (by omega) (by omega)] at c1
    refine Ok.bd _ (rX12_nearOf hG.tt ⟨s, hs, rfl⟩ ⟨j, by omega, rfl⟩) ?_
    rintro v9 _ ⟨rfl, -⟩
    refine Ok.ck (inb_n (by omega) (by omega)) (fun _ => Ok.wr (fun w ew => ?_))
    exact Ok.ret ⟨9 - (j + 1), by omega, hG.wrU ew (by omega) ty_u160, j + 1, nI_1 j, by omega, rfl⟩
  clear hG
  rintro _ t hG
  refine Ok.bd _ (rX12_points hG.tt ⟨s, hs, rfl⟩) ?_
  rintro _ _ ⟨rfl, n, hn, rfl⟩
  refine Ok.bd (fun _ u => GM σ u) ?_ (fun _ _ h => Ok.ret ⟨h, True.intro⟩)
  refine Ok.loop (fun k c u => GM σ u ∧ ∃ S, c.2 = nI S ∧ S < 512 ∧ k = S) ?_ (2 ^ n - 1) _ _ ⟨hG, 2 ^ n - 1, ?_, ?_, rfl⟩
  rotate_left
  · have := Nat.two_pow_pos n
    rw [shl_1 (by omega), li_1, nI_sub (by omega)]
  · have := pow9 (k := n) (by omega)
    have := Nat.two_pow_pos n
    omega
  clear hG
  intro k c u hI
  obtain ⟨hG, S, eS, hS, rfl⟩ := hI
  obtain ⟨c0, c1⟩ := c
  dsimp only at eS
  subst eS
  unfold SX12_minor_52
  dsimp only
  refine Ok.ite (fun _ => Ok.ret hG) (fun c2 => ?_)
  refine Ok.bd _ xX12_fewestOf ?_
  rintro v23 _ ⟨rfl, h23⟩
  obtain ⟨p, hp, rfl, hb⟩ := h23.resolve_left (fun h => by
    apply c2
    rw [li_0]
    congr 1
    apply Nat.eq_of_testBit_eq
    intro i
    rw [Nat.zero_testBit]
    by_cases q : i < 9
    · have h9 := h.2 i q
      rw [bit_n (by omega) (by omega)] at h9
      cases hb : k.testBit i
      · rfl
      · rw [hb] at h9
        exact absurd rfl h9
    · exact Nat.testBit_lt_two_pow (Nat.lt_of_lt_of_le hS (Nat.pow_le_pow_right (n := 2) (by omega) (show 9 ≤ i by omega))))
  have hbS : k.testBit p = true := by
    rw [bit_n (by omega) (by omega)] at hb
    cases h : k.testBit p
    · rw [h] at hb
      exact absurd hb (by decide)
    · rfl
  obtain ⟨T, hTS, eT⟩ := bit_clr hS hp hbS
  rw [eT]
  refine Ok.ck (inb_n (by omega) (by omega)) (fun _ => Ok.rd (fun v27 h27 => ?_))
  rw [nI_cl (by omega)] at h27
  refine Ok.bd _ xX12_fewestOf ?_
  rintro q _ ⟨rfl, hq⟩
  refine Ok.ck (inb_n (by omega) (by omega)) (fun _ => Ok.rd (fun v33 h33 => ?_))
  refine Ok.bd _ xX12_ones ?_
  rintro v35 _ rfl
  refine Ok.bd (fun _ u => GM σ u) ?_ (fun _ w h => Ok.ret ⟨T, hTS, h, T, rfl, by omega, rfl⟩)
  refine Ok.loop (fun k c w => GM σ w ∧ (IsR 9 q ∨ ∀ i, i < 9 → ¬ shr (w 160 p) (nI i) &&& 1 = 1) ∧ ∃ j, c = nI j ∧ j ≤ 9 ∧ k = 9 - j) ?_ 9 _ _ ⟨hG, ?_, 0, rfl, by omega, rfl⟩
  rotate_left
  · rcases hq with ⟨-, h⟩ | ⟨k, hk, e, -⟩
    · rw [h27] at h
      exact Or.inr h
    · exact Or.inl ⟨k, hk, e⟩
  clear hG hq h27 h33
  intro k c w hI
  obtain ⟨hG, hq, j, rfl, hj, rfl⟩ := hI
  unfold SX12_minor_103
  refine Ok.bd _ (rX12_points hG.tt ⟨s, hs, rfl⟩) ?_
  rintro _ _ ⟨rfl, n, hn, rfl⟩
  refine Ok.ite (fun _ => Ok.ret hG) (fun c1 => ?_)
  rw [nI_leP (by omega) (by omega)] at c1
  refine Ok.ck (inb_n (by omega) (by omega)) (fun _ => Ok.rd (fun v43 h43 => ?_))
  rw [nI_cl (by omega)] at h43
  refine Ok.bd (fun v u => w = u ∧ (v = 0 ∨ IsR 9 q)) ?_ ?_
  · unfold FX12_has
    refine Ok.ite (fun c => Ok.ret ⟨rfl, Or.inr ?_⟩) (fun c => Ok.ret ⟨rfl, Or.inl rfl⟩)
    rcases hq with h | h
    · exact h
    · rw [h43] at c
      exact absurd c (h j (by omega))
  rintro v45 _ ⟨rfl, h45⟩
  refine Ok.ck (inb_n (by omega) (by omega)) (fun _ => Ok.rd (fun v49 h49 => ?_))
  rw [nI_cl (by omega)] at h49
  refine Ok.ck (inb_n (by omega) (by omega)) (fun _ => Ok.wr (fun w1 e1 => ?_))
  rw [nI_cl (by omega)] at e1
  have hG1 := hG.wrU e1 (by omega) ty_u160
  have hq1 : IsR 9 q ∨ ∀ i, i < 9 → ¬ shr (w1 160 p) (nI i) &&& 1 = 1 := by
    refine hq.imp id (fun h i hi hb => ?_)
    rw [e1, wr_at] at hb
    by_cases e : p = j
    · subst e
      rw [pk_us, h49] at hb
      exact h i hi (bit_and (by omega) hb)
    · rw [pk_un e] at hb
      exact h i hi hb
  refine Ok.bd (fun _ u => GM σ u ∧ (IsR 9 q ∨ ∀ i, i < 9 → ¬ shr (u 160 p) (nI i) &&& 1 = 1)) ?_ (fun _ u h => Ok.ret ⟨9 - (j + 1), by omega, h.1, h.2, j + 1, nI_1 j, by omega, rfl⟩)
  refine Ok.ite (fun _ => Ok.ret ⟨hG1, hq1⟩) (fun c2 => ?_)
  have hqR := h45.resolve_left c2
  obtain ⟨m, hm, rfl⟩ := hqR
  refine Ok.ite (fun _ => Ok.ret ⟨hG1, hq1⟩) (fun _ => ?_)
  refine Ok.ck (inb_n (by omega) (by omega)) (fun _ => Ok.rd (fun v61 _ => ?_))
  refine Ok.ck (inb_n (by omega) (by omega)) (fun _ => Ok.wr (fun w2 e2 => ?_))
  have hG2 := hG1.wrU e2 (by omega) ty_u160
  refine Ok.ck (inb_n (by omega) (by omega)) (fun _ => Ok.rd (fun v67 _ => ?_))
  refine Ok.ck (inb_n (by omega) (by omega)) (fun _ => Ok.wr (fun w3 e3 => ?_))
  exact Ok.ret ⟨hG2.wrU e3 (by omega) ty_u160, Or.inl ⟨m, hm, rfl⟩⟩
end
section
/-! the reference reads (wip/ext/g36.py) -/
theorem xX12_in {t : St} {a b c : Int64} : Ok (FX12_in a b c t) (fun r u => t = u ∧ ((r = 1 ∧ b.toInt ≤ a.toInt ∧ a.toInt ≤ c.toInt) ∨ (r = 0 ∧ ¬ (b.toInt ≤ a.toInt ∧ a.toInt ≤ c.toInt)))) := by
  unfold FX12_in
  refine Ok.ite (fun c1 => Ok.ret ⟨rfl, Or.inr ⟨rfl, ?_⟩⟩) (fun c1 => Ok.ite (fun c2 => Ok.ret ⟨rfl, Or.inr ⟨rfl, ?_⟩⟩) (fun c2 => Ok.ret ⟨rfl, Or.inl ⟨rfl, ?_⟩⟩))
  · rw [lgN, Int64.lt_iff_toInt_lt] at c1
    omega
  · rw [lgP, Int64.lt_iff_toInt_lt] at c2
    omega
  · rw [lgN, Int64.lt_iff_toInt_lt] at c1
    rw [lgP, Int64.lt_iff_toInt_lt] at c2
    omega
/-- what stands at the spot lies between -/
def AT (t : St) (a b : Int32) : Prop := ∃ i n, t 149 8 = nI i ∧ t 149 5 = nI n ∧ i < n ∧ n < 401 ∧ a.toInt ≤ (t 153 i).toInt ∧ (t 153 i).toInt ≤ b.toInt
theorem xX12_isAt {t : St} (hT : TY t) {a b : Int32} : Ok (FX12_isAt a b t) (fun r u => t = u ∧ ((r = 1 ∧ AT t a b) ∨ (r = 0 ∧ ¬ AT t a b))) := by
  unfold FX12_isAt
  obtain ⟨i, hi, ei⟩ := hT.rd ty_m8 (by omega)
  obtain ⟨n, hn, en⟩ := hT.rd ty_m5 (by omega)
  refine Ok.rd (fun v1 h1 => Ok.rd (fun v3 h3 => ?_))
  rw [ei] at h1
  rw [en] at h3
  subst h1 h3
  refine Ok.ite (fun c => Ok.ret ⟨rfl, Or.inr ⟨rfl, ?_⟩⟩) (fun c => ?_)
  · rw [nI_leP (by omega) (by omega)] at c
    rintro ⟨i', n', e1, e2, h1, h2, -⟩
    have := nI_inj (ei.symm.trans e1) (by omega) (by omega)
    have := nI_inj (en.symm.trans e2) (by omega) (by omega)
    omega
  rw [nI_leP (by omega) (by omega)] at c
  refine Ok.rd (fun v7 h7 => ?_)
  rw [ei] at h7
  subst h7
  refine Ok.ck (inb_n (by omega) (by omega)) (fun g => Ok.rd (fun v10 h10 => ?_))
  rw [nI_cl (by omega)] at h10
  subst h10
  refine Ok.bd _ xX12_in ?_
  simp only [Int32.toInt_toInt64]
  rintro v _ ⟨rfl, hv⟩
  refine Ok.ite (fun c2 => Ok.ret ⟨rfl, Or.inr ⟨rfl, ?_⟩⟩) (fun c2 => ?_)
  · rintro ⟨i', n', e1, e2, h1, h2, h3⟩
    have := nI_inj (ei.symm.trans e1) (by omega) (by omega)
    subst this
    exact (hv.resolve_left (fun h => absurd (h.1.symm.trans c2) (by decide))).2 h3
  · have h := (hv.resolve_right (fun h => c2 h.1)).2
    exact Ok.ret ⟨rfl, Or.inl ⟨rfl, i, n, ei, en, by omega, hn, h⟩⟩
def RD (t : St) : Prop := ∃ b i n, t 149 9 = nI b ∧ t 149 8 = nI i ∧ t 149 5 = nI n ∧ b ≤ i ∧ i ≤ n ∧ n < 401 ∧ (t 149 10 = 3 → b < i) ∧ (t 149 10 = 2 → ∀ k, b ≤ k → k < i → ∃ d, d < 10 ∧ t 153 k = nI (48 + d))
theorem RD.same {t u : St} (h : RD t) (h5 : u 149 5 = t 149 5) (h8 : u 149 8 = t 149 8) (h9 : u 149 9 = t 149 9) (h10 : u 149 10 = t 149 10) (hp : u 153 = t 153) : RD u := by
  unfold RD
  rw [h5, h8, h9, h10, hp]
  exact h
theorem wm {t u : St} {i j : Nat} {v : Int32} (e : u = wr t 149 i v) (h : j ≠ i) : u 149 j = t 149 j := by
  rw [e, wr_at, pk_un h]
theorem ws {t u : St} {i : Nat} {v : Int32} (e : u = wr t 149 i v) : u 149 i = v := by
  rw [e, wr_at, pk_us]
theorem wo {t u : St} {a b i : Nat} {v : Int32} (e : u = wr t a i v) (h : b ≠ a) : u b = t b := by
  rw [e, wr_off b h]
/-- a step of the reader -/
def RS (σ u w : St) : Prop := GM σ w ∧ RD w ∧ w 150 = u 150 ∧ (u 149 8).toInt ≤ (w 149 8).toInt ∧ (¬ u 149 12 = 0 → ¬ w 149 12 = 0)
theorem RS.tr {σ t u w : St} (h : RS σ t u) (h2 : RS σ u w) : RS σ t w := ⟨h2.1, h2.2.1, h2.2.2.1.trans h.2.2.1, Int.le_trans h.2.2.2.1 h2.2.2.2.1, fun q => h2.2.2.2.2 (h.2.2.2.2 q)⟩
theorem RS.rf {σ t : St} (hG : GM σ t) (hR : RD t) : RS σ t t := ⟨hG, hR, rfl, Int.le_refl _, id⟩
theorem nX12_faults {σ t : St} (hG : GM σ t) (hR : RD t) {a : Int32} : Ok (FX12_faults a t) (fun _ u => RS σ t u ∧ ¬ u 149 12 = 0) := by
  unfold FX12_faults
  refine Ok.rd (fun v1 h1 => ?_)
  refine Ok.ite (fun c => ?_) (fun c => Ok.ret ⟨RS.rf hG hR, by rw [← h1]; exact c⟩)
  refine Ok.wr (fun t5 e5 => Ok.wr (fun t7 e7 => Ok.rd (fun v9 h9 => Ok.wr (fun t11 e11 => ?_))))
  have g1 := hG.wrT e5 (by omega) ty_m12 ⟨1, by omega, rfl⟩
  have g2 := g1.wrU e7 (by omega) (by decide +kernel)
  have g3 := g2.wrU e11 (by omega) (by decide +kernel)
  have k : ∀ j, j ≠ 12 → j ≠ 6 → j ≠ 7 → t11 149 j = t 149 j := fun j a b c => by rw [wm e11 c, wm e7 b, wm e5 a]
  have hb : ¬ t11 149 12 = 0 := by
    rw [wm e11 (by decide), wm e7 (by decide), ws e5]
    decide
  refine Ok.ret ⟨⟨g3, hR.same (k 5 (by decide) (by decide) (by decide)) (k 8 (by decide) (by decide) (by decide)) (k 9 (by decide) (by decide) (by decide)) (k 10 (by decide) (by decide) (by decide)) (by rw [wo e11 (by decide), wo e7 (by decide), wo e5 (by decide)]), by rw [wo e11 (by decide), wo e7 (by decide), wo e5 (by decide)], by rw [k 8 (by decide) (by decide) (by decide)]; exact Int.le_refl _, fun _ => hb⟩, hb⟩
/-- spots passed -/
def NX (σ u : St) (lo : Nat) (k : Nat) (w : St) : Prop := GM σ w ∧ w 150 = u 150 ∧ w 149 12 = u 149 12 ∧ ∃ i n, w 149 8 = nI i ∧ w 149 5 = nI n ∧ lo ≤ i ∧ i ≤ n ∧ n < 401 ∧ k = n - i
theorem NX.step {σ u w x : St} {lo k : Nat} {a b : Int32} (h : NX σ u lo k w) (hA : AT w a b) (e : x = wr w 149 8 (w 149 8 + 1)) : ∃ j, j < k ∧ NX σ u lo j x ∧ x 149 8 = w 149 8 + 1 := by
  obtain ⟨hG, h0, h1, i, n, ei, en, hlo, hin, hn, rfl⟩ := h
  obtain ⟨i', n', e1, e2, h3, h4, -⟩ := hA
  have := nI_inj (ei.symm.trans e1) (by omega) (by omega)
  subst this
  have := nI_inj (en.symm.trans e2) (by omega) (by omega)
  subst this
  have ex : x 149 8 = nI (i + 1) := by rw [ws e, ei, nI_1]
  exact ⟨n - (i + 1), by omega, ⟨hG.wrT e (by omega) ty_m8 ⟨i + 1, by omega, by rw [ei, nI_1]⟩, by rw [wo e (by decide)]; exact h0, by rw [wm e (by decide)]; exact h1, i + 1, n, ex, by rw [wm e (by decide)]; exact en, by omega, by omega, hn, rfl⟩, ws e⟩
theorem nX12_next {σ t : St} (hG : GM σ t) {i0 n0 : Nat} (ei0 : t 149 8 = nI i0) (en0 : t 149 5 = nI n0) (hin0 : i0 ≤ n0) (hn0 : n0 < 401) : Ok (FX12_next t) (fun _ u => (RS σ t u ∧ u 149 12 = t 149 12) ∧ (u 149 10 = 0 ∨ (t 149 8).toInt < (u 149 8).toInt)) := by
  unfold FX12_next
  refine Ok.bd (fun _ w => ∃ k, NX σ t i0 k w) ?_ ?_
  · refine Ok.loop (fun k c w => NX σ t i0 k w) ?_ (n0 - i0) _ _ ⟨hG, rfl, rfl, i0, n0, ei0, en0, by omega, by omega, hn0, rfl⟩
    intro k c w hI
    unfold SX12_next_0
    refine Ok.bd _ (xX12_isAt hI.1.tt) ?_
    rintro v _ ⟨rfl, hv⟩
    refine Ok.ite (fun c1 => ?_) (fun c1 => ?_)
    · refine Ok.bd _ (xX12_isAt hI.1.tt) ?_
      rintro v9 _ ⟨rfl, hv9⟩
      refine Ok.ite (fun c2 => Ok.ret ⟨k, hI⟩) (fun c2 => ?_)
      refine Ok.rd (fun v13 h13 => Ok.wr (fun x ex => ?_))
      subst h13
      obtain ⟨j, hj, h, -⟩ := hI.step (hv9.resolve_right (fun h => c2 h.1)).2 ex
      exact Ok.ret ⟨j, hj, h⟩
    · refine Ok.rd (fun v13 h13 => Ok.wr (fun x ex => ?_))
      subst h13
      obtain ⟨j, hj, h, -⟩ := hI.step (hv.resolve_right (fun h => c1 h.1)).2 ex
      exact Ok.ret ⟨j, hj, h⟩
  rintro _ t18 ⟨k, hg, h150, h12, b, n, eb, en, hlo, hbn, hn, rfl⟩
  refine Ok.rd (fun v21 h21 => ?_)
  rw [eb] at h21
  subst h21
  refine Ok.wr (fun t23 e23 => Ok.wr (fun t25 e25 => ?_))
  have g23 := hg.wrT e23 (by omega) ty_m9 ⟨b, by omega, rfl⟩
  have g25 := g23.wrU e25 (by omega) (by decide +kernel)
  have b25 : t25 149 8 = nI b := by rw [wm e25 (by decide), wm e23 (by decide)]; exact eb
  have n25 : t25 149 5 = nI n := by rw [wm e25 (by decide), wm e23 (by decide)]; exact en
  have s25 : t25 149 9 = nI b := by rw [wm e25 (by decide)]; exact ws e23
  have q25 : t25 150 = t 150 := by rw [wo e25 (by decide), wo e23 (by decide)]; exact h150
  have d25 : t25 149 12 = t 149 12 := by rw [wm e25 (by decide), wm e23 (by decide)]; exact h12
  have lt8 : ∀ {x : Int32} {i : Nat}, x = nI i → i < 401 → i0 ≤ i → (t 149 8).toInt ≤ x.toInt := fun ex hi hl => by
    rw [ex, ei0, nI_toInt (by omega), nI_toInt (by omega)]; omega
  have lt9 : ∀ {x : Int32} {i : Nat}, x = nI i → i < 401 → i0 < i → (t 149 8).toInt < x.toInt := fun ex hi hl => by
    rw [ex, ei0, nI_toInt (by omega), nI_toInt (by omega)]; omega
  refine Ok.rd (fun v27 h27 => Ok.rd (fun v29 h29 => ?_))
  rw [b25] at h27
  rw [n25] at h29
  subst h27 h29
  refine Ok.ite (fun c => ?_) (fun c => ?_)
  · refine Ok.wr (fun x ex => ?_)
    have gx := g25.wrU ex (by omega) (by decide +kernel)
    have z : x 149 10 = 0 := ws ex
    refine Ok.ret ⟨⟨⟨gx, ⟨b, b, n, by rw [wm ex (by decide)]; exact s25, by rw [wm ex (by decide)]; exact b25, by rw [wm ex (by decide)]; exact n25, by omega, by omega, hn, fun q => absurd (z.symm.trans q) (by decide), fun q => absurd (z.symm.trans q) (by decide)⟩, by rw [wo ex (by decide)]; exact q25, by rw [wm ex (by decide)]; exact lt8 b25 (by omega) hlo, ?_⟩, by rw [wm ex (by decide)]; exact d25⟩, Or.inl z⟩
    rw [wm ex (by decide), d25]
    exact id
  have hbn' : b < n := by
    rcases Nat.lt_or_ge b n with q | q
    · exact q
    · exact absurd (by rw [show b = n by omega]) c
  refine Ok.bd _ (xX12_isAt g25.tt) ?_
  rintro v _ ⟨rfl, hv⟩
  refine Ok.ite (fun c1 => ?_) (fun c1 => ?_)
  · refine Ok.bd _ (xX12_isAt g25.tt) ?_
    rintro v36 _ ⟨rfl, hv36⟩
    refine Ok.ite (fun c2 => ?_) (fun c2 => ?_)
    · refine Ok.wr (fun x ex => Ok.rd (fun v42 h42 => ?_))
      rw [wm ex (by decide), b25] at h42
      subst h42
      refine Ok.wr (fun y ey => ?_)
      have gx := g25.wrU ex (by omega) (by decide +kernel)
      have gy := gx.wrT ey (by omega) ty_m8 ⟨b + 1, by omega, nI_1 b⟩
      have y8 : y 149 8 = nI (b + 1) := by rw [ws ey, nI_1]
      have y10 : y 149 10 = 3 := by rw [wm ey (by decide)]; exact ws ex
      refine Ok.ret ⟨⟨⟨gy, ⟨b, b + 1, n, by rw [wm ey (by decide), wm ex (by decide)]; exact s25, y8, by rw [wm ey (by decide), wm ex (by decide)]; exact n25, by omega, by omega, hn, fun _ => by omega, fun q => absurd (y10.symm.trans q) (by decide)⟩, by rw [wo ey (by decide), wo ex (by decide)]; exact q25, lt8 y8 (by omega) (by omega), ?_⟩, by rw [wm ey (by decide), wm ex (by decide)]; exact d25⟩, Or.inr (lt9 y8 (by omega) (by omega))⟩
      rw [wm ey (by decide), wm ex (by decide), d25]
      exact id
    · refine Ok.wr (fun x ex => ?_)
      have gx := g25.wrU ex (by omega) (by decide +kernel)
      have hA : AT t25 48 57 := (hv36.resolve_right (fun h => c2 h.1)).2
      refine Ok.bd (fun _ w => ∃ k, NX σ t i0 k w ∧ w 149 9 = nI b ∧ w 149 10 = 2 ∧ (∀ i, w 149 8 = nI i → i < 401 → b < i ∧ ∀ k, b ≤ k → k < i → ∃ d, d < 10 ∧ w 153 k = nI (48 + d))) ?_ ?_
      · refine Ok.loop (fun k c w => NX σ t i0 k w ∧ w 149 9 = nI b ∧ w 149 10 = 2 ∧ (∀ i, w 149 8 = nI i → i < 401 → b ≤ i ∧ (b < i ∨ AT w 48 57) ∧ ∀ k, b ≤ k → k < i → ∃ d, d < 10 ∧ w 153 k = nI (48 + d))) ?_ (n - b) _ _ ⟨⟨gx, by rw [wo ex (by decide)]; exact q25, by rw [wm ex (by decide)]; exact d25, b, n, by rw [wm ex (by decide)]; exact b25, by rw [wm ex (by decide)]; exact n25, hlo, by omega, hn, rfl⟩, by rw [wm ex (by decide)]; exact s25, ws ex, fun i ei hi => ?_⟩
        · intro k c w hI
          obtain ⟨hN, w9, w10, hd⟩ := hI
          unfold SX12_next_123
          refine Ok.bd _ (xX12_isAt hN.1.tt) ?_
          rintro v _ ⟨rfl, hv⟩
          obtain ⟨i, n', wi, wn, hl', hin', hn', -⟩ := id hN.2.2.2
          refine Ok.ite (fun c1 => Ok.ret ⟨k, hN, w9, w10, fun i' ei' hi' => ?_⟩) (fun c1 => ?_)
          · have hA := (hv.resolve_left (fun h => absurd (h.1.symm.trans c1) (by decide))).2
            obtain ⟨h1, h2, h3⟩ := hd i' ei' hi'
            exact ⟨h2.resolve_right hA, h3⟩
          · have hA := (hv.resolve_right (fun h => c1 h.1)).2
            refine Ok.rd (fun v53 h53 => Ok.rd (fun v55 h55 => ?_))
            rw [wi] at h55
            subst h55
            have hA2 := hA
            obtain ⟨i2, n2, e1, e2, h3, h4, h5, h6⟩ := hA2
            have := nI_inj (wi.symm.trans e1) (by omega) (by omega)
            subst this
            refine Ok.ck (inb_n (by omega) (by omega)) (fun _ => Ok.rd (fun v58 h58 => ?_))
            refine Ok.wr (fun y ey => Ok.rd (fun v62 h62 => Ok.wr (fun z ez => ?_)))
            have gy := hN.1.wrU ey (by omega) (by decide +kernel)
            have hNy : NX σ t i0 k y := ⟨gy, by rw [wo ey (by decide)]; exact hN.2.1, by rw [wm ey (by decide)]; exact hN.2.2.1, by rw [wm ey (by decide), wm ey (by decide)]; exact hN.2.2.2⟩
            have hAy : AT y 48 57 := by
              unfold AT
              rw [wm ey (by decide), wm ey (by decide), wo ey (by decide)]
              exact hA
            subst h62
            obtain ⟨j, hj, hz, z8⟩ := hNy.step hAy ez
            refine Ok.ret ⟨j, hj, hz, by rw [wm ez (by decide), wm ey (by decide)]; exact w9, by rw [wm ez (by decide), wm ey (by decide)]; exact w10, fun i' ei' hi' => ?_⟩
            rw [z8, wm ey (by decide), wi, nI_1] at ei'
            have := nI_inj ei' (by omega) (by omega)
            subst this
            obtain ⟨q1, -, q3⟩ := hd i wi (by omega)
            refine ⟨by omega, Or.inl (by omega), fun k' a1 a2 => ?_⟩
            rw [wo ez (by decide), wo ey (by decide)]
            by_cases e : k' = i
            · subst e
              obtain ⟨m, hm, em⟩ := hN.1.tt.rd (ty_a153 (i := k') (by omega)) (by omega)
              rw [em, nI_toInt (by omega)] at h5 h6
              have a48 : (48 : Int32).toInt = 48 := by decide
              have a57 : (57 : Int32).toInt = 57 := by decide
              exact ⟨m - 48, by omega, by rw [em]; congr 1; omega⟩
            · exact q3 k' a1 (by omega)
        · rw [wm ex (by decide), b25] at ei
          have := nI_inj ei (by omega) (by omega)
          subst this
          refine ⟨by omega, Or.inr ?_, fun k a1 a2 => absurd a1 (by omega)⟩
          unfold AT
          rw [wm ex (by decide), wm ex (by decide), wo ex (by decide)]
          exact hA
      · rintro _ w ⟨k, ⟨hw, w150, w12, i, n', wi, wn, hl', hin', hn', -⟩, w9, w10, hd⟩
        obtain ⟨h1, h2⟩ := hd i wi (by omega)
        refine Ok.ret ⟨⟨⟨hw, ⟨b, i, n', w9, wi, wn, by omega, hin', hn', fun _ => h1, fun _ => h2⟩, w150, lt8 wi (by omega) hl', ?_⟩, w12⟩, Or.inr (lt9 wi (by omega) (by omega))⟩
        rw [w12]
        exact id
  · refine Ok.wr (fun x ex => ?_)
    have gx := g25.wrU ex (by omega) (by decide +kernel)
    have hA : AT t25 97 122 := (hv.resolve_right (fun h => c1 h.1)).2
    refine Ok.bd (fun _ w => ∃ k, NX σ t i0 k w ∧ w 149 9 = nI b ∧ w 149 10 = 1 ∧ (∀ i, w 149 8 = nI i → i < 401 → b < i)) ?_ ?_
    · refine Ok.loop (fun k c w => NX σ t i0 k w ∧ w 149 9 = nI b ∧ w 149 10 = 1 ∧ (∀ i, w 149 8 = nI i → i < 401 → b ≤ i ∧ (b < i ∨ AT w 97 122))) ?_ (n - b) _ _ ⟨⟨gx, by rw [wo ex (by decide)]; exact q25, by rw [wm ex (by decide)]; exact d25, b, n, by rw [wm ex (by decide)]; exact b25, by rw [wm ex (by decide)]; exact n25, hlo, by omega, hn, rfl⟩, by rw [wm ex (by decide)]; exact s25, ws ex, fun i ei hi => ?_⟩
      · intro k c w hI
        obtain ⟨hN, w9, w10, hd⟩ := hI
        unfold SX12_next_83
        refine Ok.bd _ (xX12_isAt hN.1.tt) ?_
        rintro v _ ⟨rfl, hv⟩
        obtain ⟨i, n', wi, wn, hl', hin', hn', -⟩ := id hN.2.2.2
        refine Ok.ite (fun c1 => Ok.ret ⟨k, hN, w9, w10, fun i' ei' hi' => ?_⟩) (fun c1 => ?_)
        · have hA := (hv.resolve_left (fun h => absurd (h.1.symm.trans c1) (by decide))).2
          exact (hd i' ei' hi').2.resolve_right hA
        · have hA := (hv.resolve_right (fun h => c1 h.1)).2
          refine Ok.rd (fun v62 h62 => Ok.wr (fun z ez => ?_))
          subst h62
          obtain ⟨j, hj, hz, z8⟩ := hN.step hA ez
          refine Ok.ret ⟨j, hj, hz, by rw [wm ez (by decide)]; exact w9, by rw [wm ez (by decide)]; exact w10, fun i' ei' hi' => ?_⟩
          rw [z8, wi, nI_1] at ei'
          have := nI_inj ei' (by omega) (by omega)
          subst this
          obtain ⟨q1, -⟩ := hd i wi (by omega)
          exact ⟨by omega, Or.inl (by omega)⟩
      · rw [wm ex (by decide), b25] at ei
        have := nI_inj ei (by omega) (by omega)
        subst this
        refine ⟨by omega, Or.inr ?_⟩
        unfold AT
        rw [wm ex (by decide), wm ex (by decide), wo ex (by decide)]
        exact hA
    · rintro _ w ⟨k, ⟨hw, w150, w12, i, n', wi, wn, hl', hin', hn', -⟩, w9, w10, hd⟩
      have h1 := hd i wi (by omega)
      refine Ok.ret ⟨⟨⟨hw, ⟨b, i, n', w9, wi, wn, by omega, hin', hn', fun _ => h1, fun q => absurd (w10.symm.trans q) (by decide)⟩, w150, lt8 wi (by omega) hl', ?_⟩, w12⟩, Or.inr (lt9 wi (by omega) (by omega))⟩
      rw [w12]
      exact id
theorem nX12_nextR {σ t : St} (hG : GM σ t) (hR : RD t) : Ok (FX12_next t) (fun _ u => (RS σ t u ∧ u 149 12 = t 149 12) ∧ (u 149 10 = 0 ∨ (t 149 8).toInt < (u 149 8).toInt)) := by
  obtain ⟨b, i, n, -, ei, en, -, hin, hn, -⟩ := hR
  exact nX12_next hG ei en hin hn
theorem nX12_passes {σ t : St} (hG : GM σ t) (hR : RD t) : Ok (FX12_passes t) (fun _ u => RS σ t u) := by
  unfold FX12_passes
  refine Ok.rd (fun v1 h1 => Ok.ite (fun _ => ?_) (fun _ => Ok.ret (RS.rf hG hR)))
  refine Ok.bd _ (nX12_nextR hG hR) ?_
  rintro _ u ⟨⟨h, -⟩, -⟩
  exact Ok.ret h
theorem nX12_must {σ t : St} (hG : GM σ t) (hR : RD t) {a : Int32} : Ok (FX12_must a t) (fun _ u => RS σ t u) := by
  unfold FX12_must
  refine Ok.bd (fun _ u => RS σ t u) ?_ ?_
  · refine Ok.ite (fun _ => ?_) (fun _ => Ok.ret (RS.rf hG hR))
    refine Ok.bd _ (nX12_faults hG hR) ?_
    rintro _ u ⟨h, -⟩
    exact Ok.ret h
  · rintro _ u h
    refine Ok.bd _ (nX12_passes h.1 h.2.1) ?_
    rintro _ w h2
    exact Ok.ret (h.tr h2)
theorem nX12_here {σ t : St} (hG : GM σ t) (hR : RD t) {a b : Int32} : Ok (FX12_here a b t) (fun r u => RS σ t u ∧ (a.toInt ≤ b.toInt → a.toInt ≤ r.toInt ∧ r.toInt ≤ b.toInt) ∧ (t 149 10 = 0 → ¬ u 149 12 = 0)) := by
  unfold FX12_here
  refine Ok.rd (fun v1 h1 => Ok.ite (fun c => ?_) (fun c => Ok.ret ⟨RS.rf hG hR, fun h => ⟨Int.le_refl _, h⟩, fun _ => by rw [← h1]; exact c⟩))
  refine Ok.rd (fun v4 h4 => ?_)
  refine Ok.bd (fun _ u => RS σ t u ∧ (¬ u 149 12 = 0 ∨ (t 149 10 = 2 ∧ t = u ∧ a.toInt ≤ (t 149 11).toInt ∧ (t 149 11).toInt ≤ b.toInt))) ?_ ?_
  · refine Ok.ite (fun c2 => ?_) (fun c2 => ?_)
    · refine Ok.rd (fun v18 h18 => ?_)
      subst h18
      refine Ok.bd _ xX12_in ?_
      simp only [Int32.toInt_toInt64]
      rintro v _ ⟨rfl, hv⟩
      refine Ok.ite (fun c3 => ?_) (fun c3 => ?_)
      · refine Ok.bd _ (nX12_faults hG hR) ?_
        rintro _ u ⟨h, hb⟩
        exact Ok.ret ⟨h, Or.inl hb⟩
      · exact Ok.ret ⟨RS.rf hG hR, Or.inr ⟨h4.symm.trans c2, rfl, (hv.resolve_right (fun h => c3 h.1)).2⟩⟩
    · refine Ok.bd _ (nX12_faults hG hR) ?_
      rintro _ u ⟨h, hb⟩
      exact Ok.ret ⟨h, Or.inl hb⟩
  · rintro _ u ⟨h, hd⟩
    refine Ok.rd (fun v11 h11 => Ok.ite (fun c2 => ?_) (fun c2 => ?_))
    · obtain ⟨q1, rfl, q3⟩ := hd.resolve_left (fun q => q (by rw [← h11]; exact c2))
      refine Ok.rd (fun v14 h14 => ?_)
      subst h14
      exact Ok.ret ⟨h, fun _ => q3, fun q => absurd (q1.symm.trans q) (by decide)⟩
    · exact Ok.ret ⟨h, fun q => ⟨Int.le_refl _, q⟩, fun _ => by rw [← h11]; exact c2⟩
theorem nX12_isSign {t : St} (hR : RD t) {a : Int32} : Ok (FX12_isSign a t) (fun r u => t = u ∧ (r = 0 ∨ t 149 12 = 0)) := by
  unfold FX12_isSign
  obtain ⟨b, i, n, eb, ei, en, hbi, hin, hn, h3, -⟩ := hR
  refine Ok.rd (fun v1 h1 => Ok.ite (fun c => ?_) (fun _ => Ok.ret ⟨rfl, Or.inl rfl⟩))
  refine Ok.rd (fun v5 h5 => Ok.ite (fun c5 => ?_) (fun _ => Ok.ret ⟨rfl, Or.inl rfl⟩))
  have := h3 (h5.symm.trans c5)
  refine Ok.rd (fun v9 h9 => ?_)
  rw [eb] at h9
  subst h9
  refine Ok.ck (inb_n (by omega) (by omega)) (fun _ => Ok.rd (fun v12 _ => ?_))
  exact Ok.ite (fun _ => Ok.ret ⟨rfl, Or.inr (h1.symm.trans c)⟩) (fun _ => Ok.ret ⟨rfl, Or.inl rfl⟩)
end
section
/-! the reference reads a net (wip/ext/g37.py) -/
theorem nX12_isWord_s4 {t : St} (hR : RD t) : Ok (FX12_isWord_s4 t) (fun r u => t = u) := by
  unfold FX12_isWord_s4
  obtain ⟨b, i, n, eb, ei, en, hbi, hin, hn, -⟩ := hR
  refine Ok.rd (fun v1 h1 => ?_)
  refine Ok.bd (fun v u => t = u ∧ isb v = true ∧ (v = 0 ∨ b + 3 < 401)) ?_ ?_
  · refine Ok.ite (fun c => ?_) (fun _ => Ok.ret ⟨rfl, rfl, Or.inl rfl⟩)
    refine Ok.rd (fun v27 h27 => Ok.ite (fun c27 => ?_) (fun _ => Ok.ret ⟨rfl, rfl, Or.inl rfl⟩))
    refine Ok.rd (fun v30 h30 => Ok.rd (fun v32 h32 => ?_))
    rw [ei] at h30
    rw [eb] at h32
    subst h30 h32
    refine Ok.ite (fun c3 => Ok.ret ⟨rfl, rfl, Or.inr ?_⟩) (fun _ => Ok.ret ⟨rfl, rfl, Or.inl rfl⟩)
    rw [nI_sub hbi, li_3] at c3
    have := nI_inj c3 (by omega) (by omega)
    omega
  · rintro v4 _ ⟨rfl, hb4, h4⟩
    refine Ok.bd (fun v u => t = u ∧ isb v = true) ?_ (fun v u h => Ok.ck h.2 (fun _ => Ok.ret h.1))
    refine Ok.loop (fun k c u => t = u ∧ isb c.1 = true ∧ (c.1 = 0 ∨ b + 3 < 401) ∧ ∃ j, c.2 = nI j ∧ j ≤ 3 ∧ k = 3 - j) ?_ 3 _ _ ⟨rfl, hb4, h4, 0, rfl, by omega, rfl⟩
    clear hb4 h4
    intro k c u hI
    obtain ⟨rfl, hb, h4, j, ej, hj, rfl⟩ := hI
    obtain ⟨c0, c1⟩ := c
    dsimp only at ej hb h4
    subst ej
    unfold SX12_isWord_s4_39
    dsimp only
    refine Ok.ite (fun _ => Ok.ret ⟨rfl, hb⟩) (fun c1 => ?_)
    rw [li_3, nI_leP (by omega) (by omega)] at c1
    refine Ok.ite (fun _ => Ok.ret ⟨rfl, hb⟩) (fun c2 => ?_)
    have h5 := h4.resolve_left c2
    refine Ok.rd (fun v10 h10 => ?_)
    rw [eb] at h10
    subst h10
    rw [nI_add]
    refine Ok.ck (inb_n (by omega) (by omega)) (fun _ => Ok.rd (fun v13 _ => ?_))
    refine Ok.ck (inb_n (by omega) (by omega)) (fun _ => ?_)
    refine Ok.bd (fun v u => t = u ∧ isb v = true) (Ok.ite (fun _ => Ok.ret ⟨rfl, rfl⟩) (fun _ => Ok.ret ⟨rfl, rfl⟩)) ?_
    rintro v17 _ ⟨rfl, h17⟩
    exact Ok.ret ⟨3 - (j + 1), by omega, rfl, h17, Or.inr h5, j + 1, nI_1 j, by omega, rfl⟩
theorem nX12_isWord_s5 {t : St} (hR : RD t) : Ok (FX12_isWord_s5 t) (fun r u => t = u) := by
  unfold FX12_isWord_s5
  obtain ⟨b, i, n, eb, ei, en, hbi, hin, hn, -⟩ := hR
  refine Ok.rd (fun v1 h1 => ?_)
  refine Ok.bd (fun v u => t = u ∧ isb v = true ∧ (v = 0 ∨ b + 3 < 401)) ?_ ?_
  · refine Ok.ite (fun c => ?_) (fun _ => Ok.ret ⟨rfl, rfl, Or.inl rfl⟩)
    refine Ok.rd (fun v27 h27 => Ok.ite (fun c27 => ?_) (fun _ => Ok.ret ⟨rfl, rfl, Or.inl rfl⟩))
    refine Ok.rd (fun v30 h30 => Ok.rd (fun v32 h32 => ?_))
    rw [ei] at h30
    rw [eb] at h32
    subst h30 h32
    refine Ok.ite (fun c3 => Ok.ret ⟨rfl, rfl, Or.inr ?_⟩) (fun _ => Ok.ret ⟨rfl, rfl, Or.inl rfl⟩)
    rw [nI_sub hbi, li_3] at c3
    have := nI_inj c3 (by omega) (by omega)
    omega
  · rintro v4 _ ⟨rfl, hb4, h4⟩
    refine Ok.bd (fun v u => t = u ∧ isb v = true) ?_ (fun v u h => Ok.ck h.2 (fun _ => Ok.ret h.1))
    refine Ok.loop (fun k c u => t = u ∧ isb c.1 = true ∧ (c.1 = 0 ∨ b + 3 < 401) ∧ ∃ j, c.2 = nI j ∧ j ≤ 3 ∧ k = 3 - j) ?_ 3 _ _ ⟨rfl, hb4, h4, 0, rfl, by omega, rfl⟩
    clear hb4 h4
    intro k c u hI
    obtain ⟨rfl, hb, h4, j, ej, hj, rfl⟩ := hI
    obtain ⟨c0, c1⟩ := c
    dsimp only at ej hb h4
    subst ej
    unfold SX12_isWord_s5_39
    dsimp only
    refine Ok.ite (fun _ => Ok.ret ⟨rfl, hb⟩) (fun c1 => ?_)
    rw [li_3, nI_leP (by omega) (by omega)] at c1
    refine Ok.ite (fun _ => Ok.ret ⟨rfl, hb⟩) (fun c2 => ?_)
    have h5 := h4.resolve_left c2
    refine Ok.rd (fun v10 h10 => ?_)
    rw [eb] at h10
    subst h10
    rw [nI_add]
    refine Ok.ck (inb_n (by omega) (by omega)) (fun _ => Ok.rd (fun v13 _ => ?_))
    refine Ok.ck (inb_n (by omega) (by omega)) (fun _ => ?_)
    refine Ok.bd (fun v u => t = u ∧ isb v = true) (Ok.ite (fun _ => Ok.ret ⟨rfl, rfl⟩) (fun _ => Ok.ret ⟨rfl, rfl⟩)) ?_
    rintro v17 _ ⟨rfl, h17⟩
    exact Ok.ret ⟨3 - (j + 1), by omega, rfl, h17, Or.inr h5, j + 1, nI_1 j, by omega, rfl⟩
theorem here_R {v : Int32} {n : Nat} (h1 : 1 ≤ n) (hn : n < 10) (h : (0 : Int32).toInt ≤ (nI n - 1).toInt → (0 : Int32).toInt ≤ v.toInt ∧ v.toInt ≤ (nI n - 1).toInt) : IsR 9 v := by
  have e : nI n - 1 = nI (n - 1) := by rw [li_1, nI_sub (by omega)]
  have e0 : (0 : Int32).toInt = 0 := by decide
  rw [e, e0, nI_toInt (by omega)] at h
  obtain ⟨a, b⟩ := h (by omega)
  have h0 : ¬ v < 0 := fun q => by
    rw [Int32.lt_iff_toInt_lt, e0] at q
    omega
  obtain ⟨j, hj, rfl⟩ := nI_of h0
  rw [nI_toInt hj] at b
  exact ⟨j, by omega, rfl⟩
theorem here_W {v : Int32} (h : (1 : Int32).toInt ≤ (9 : Int32).toInt → (1 : Int32).toInt ≤ v.toInt ∧ v.toInt ≤ (9 : Int32).toInt) : ∃ j, 1 ≤ j ∧ j < 10 ∧ v = nI j := by
  have e1 : (1 : Int32).toInt = 1 := by decide
  have e9 : (9 : Int32).toInt = 9 := by decide
  have e0 : (0 : Int32).toInt = 0 := by decide
  rw [e1, e9] at h
  obtain ⟨a, b⟩ := h (by omega)
  have h0 : ¬ v < 0 := fun q => by
    rw [Int32.lt_iff_toInt_lt, e0] at q
    omega
  obtain ⟨j, hj, rfl⟩ := nI_of h0
  rw [nI_toInt hj] at a b
  exact ⟨j, by omega, by omega, rfl⟩
def LPs (σ : St) (s n : Nat) (t u : St) : Prop := GM σ u ∧ RD u ∧ u 150 (91 * s) = nI n ∧ (t 149 8).toInt ≤ (u 149 8).toInt ∧ (¬ t 149 12 = 0 → ¬ u 149 12 = 0) ∧ (t 149 10 = 0 → ¬ u 149 12 = 0)
theorem nX12_readsLine {σ t : St} (hG : GM σ t) (hR : RD t) {s n : Nat} (hs : s < 3) (en : t 150 (91 * s) = nI n) (h1 : 1 ≤ n) (hn : n < 10) : Ok (FX12_readsLine (nI s) t) (fun _ u => LPs σ s n t u) := by
  unfold FX12_readsLine
  refine Ok.bd _ (xX12_points hG.tt hs) ?_
  rintro _ _ ⟨rfl, rfl⟩
  rw [en]
  refine Ok.bd _ (nX12_here hG hR) ?_
  rintro v4 t5 ⟨r1, hv4, hz⟩
  obtain ⟨p, hp, rfl⟩ := here_R h1 hn hv4
  refine Ok.rd (fun v7 h7 => ?_)
  refine Ok.bd (fun _ u => RS σ t5 u) ?_ ?_
  · refine Ok.ite (fun _ => ?_) (fun _ => Ok.ret (RS.rf r1.1 r1.2.1))
    refine Ok.bd _ (rX12_lines r1.1.tt ⟨s, hs, rfl⟩) ?_
    rintro v82 _ ⟨rfl, -⟩
    refine Ok.ite (fun _ => ?_) (fun _ => Ok.ret (RS.rf r1.1 r1.2.1))
    refine Ok.bd _ (nX12_faults r1.1 r1.2.1) ?_
    rintro _ u ⟨h, -⟩
    exact Ok.ret h
  rintro _ t11 r2
  refine Ok.bd _ (nX12_passes r2.1 r2.2.1) ?_
  rintro _ t15 r3
  refine Ok.bd _ (nX12_isSign r3.2.1) ?_
  rintro v17 _ ⟨rfl, -⟩
  refine Ok.bd _ (nX12_must r3.1 r3.2.1) ?_
  rintro _ t21 r4
  have ra := ((r1.tr r2).tr r3).tr r4
  have rb := (r2.tr r3).tr r4
  refine Ok.bd _ (xX12_points r4.1.tt hs) ?_
  rintro _ _ ⟨rfl, rfl⟩
  rw [ra.2.2.1, en]
  refine Ok.bd _ (nX12_here r4.1 r4.2.1) ?_
  rintro v26 t27 ⟨r5, hv26, -⟩
  obtain ⟨q, hq, rfl⟩ := here_R h1 hn hv26
  refine Ok.rd (fun v29 h29 => ?_)
  refine Ok.bd (fun _ u => RS σ t27 u) ?_ ?_
  · refine Ok.ite (fun _ => ?_) (fun _ => Ok.ret (RS.rf r5.1 r5.2.1))
    refine Ok.ite (fun _ => ?_) (fun _ => Ok.ret (RS.rf r5.1 r5.2.1))
    refine Ok.bd _ (nX12_faults r5.1 r5.2.1) ?_
    rintro _ u ⟨h, -⟩
    exact Ok.ret h
  rintro _ t33 r6
  refine Ok.rd (fun v36 h36 => ?_)
  refine Ok.bd (fun _ u => RS σ t33 u) ?_ ?_
  · refine Ok.ite (fun _ => ?_) (fun _ => Ok.ret (RS.rf r6.1 r6.2.1))
    refine Ok.bd _ (rX12_weight r6.1.tt ⟨s, hs, rfl⟩ ⟨p, hp, rfl⟩ ⟨q, hq, rfl⟩) ?_
    rintro v71 _ ⟨rfl, -⟩
    refine Ok.ite (fun _ => Ok.ret (RS.rf r6.1 r6.2.1)) (fun _ => ?_)
    refine Ok.bd _ (nX12_faults r6.1 r6.2.1) ?_
    rintro _ u ⟨h, -⟩
    exact Ok.ret h
  rintro _ t40 r7
  refine Ok.bd _ (nX12_passes r7.1 r7.2.1) ?_
  rintro _ t44 r8
  refine Ok.bd _ (nX12_isSign r8.2.1) ?_
  rintro v46 _ ⟨rfl, -⟩
  refine Ok.bd (fun v u => RS σ t44 u ∧ IsR 10 v) ?_ ?_
  · refine Ok.ite (fun _ => Ok.ret ⟨RS.rf r8.1 r8.2.1, 1, by omega, rfl⟩) (fun _ => ?_)
    refine Ok.bd _ (nX12_nextR r8.1 r8.2.1) ?_
    rintro _ t63 ⟨⟨r9, -⟩, -⟩
    refine Ok.bd _ (nX12_here r9.1 r9.2.1) ?_
    rintro v65 t66 ⟨r10, hv65, -⟩
    obtain ⟨j, -, hj, rfl⟩ := here_W hv65
    refine Ok.bd _ (nX12_passes r10.1 r10.2.1) ?_
    rintro _ t69 r11
    exact Ok.ret ⟨(r9.tr r10).tr r11, j, hj, rfl⟩
  rintro v50 t51 ⟨r12, hv50⟩
  have rc := (((r5.tr r6).tr r7).tr r8).tr r12
  have rt := ra.tr rc
  have e51 : t51 150 (91 * s) = nI n := by rw [rt.2.2.1]; exact en
  have hzz : t 149 10 = 0 → ¬ t51 149 12 = 0 := fun h => (rb.tr rc).2.2.2.2 (hz h)
  refine Ok.rd (fun v54 h54 => Ok.ite (fun c => ?_) (fun _ => Ok.ret ⟨rt.1, rt.2.1, e51, rt.2.2.2.1, rt.2.2.2.2, hzz⟩))
  refine Ok.bd _ (xX12_weighs hs hp hq) ?_
  rintro _ u eu
  have k : ∀ b, b ≠ 150 → u b = t51 b := fun b hb => by rw [eu, wr_off b hb, wr_off b hb]
  refine Ok.ret ⟨by rw [eu]; exact (rt.1.wt hs hp hq hv50).wt hs hq hp hv50, rt.2.1.same (by rw [k 149 (by decide)]) (by rw [k 149 (by decide)]) (by rw [k 149 (by decide)]) (by rw [k 149 (by decide)]) (k 153 (by decide)), ?_, by rw [k 149 (by decide)]; exact rt.2.2.2.1, by rw [k 149 (by decide)]; exact rt.2.2.2.2, by rw [k 149 (by decide)]; exact hzz⟩
  rw [eu, wr_at, pk_un (by omega), wr_at, pk_un (by omega)]
  exact e51
theorem sub48 (p : Nat) : nI (48 + p) - 48 = nI p := by
  show nI (48 + p) - nI 48 = nI p
  rw [nI_sub (by omega)]
  congr 1
  omega
theorem nX12_readsRow {σ t : St} (hG : GM σ t) (hR : RD t) {s n : Nat} (hs : s < 3) (en : t 150 (91 * s) = nI n) (h1 : 1 ≤ n) (hn : n < 10) : Ok (FX12_readsRow (nI s) t) (fun _ u => GM σ u ∧ RD u) := by
  unfold FX12_readsRow
  refine Ok.bd _ (nX12_nextR hG hR) ?_
  rintro _ t2 ⟨⟨r1, -⟩, -⟩
  have en2 : t2 150 (91 * s) = nI n := by rw [r1.2.2.1]; exact en
  have hR2 := r1.2.1
  have hG2 := r1.1
  clear r1 hG hR en
  obtain ⟨b, i, m, eb, ei, em, hbi, him, hm, h3, h2⟩ := id hR2
  refine Ok.rd (fun v4 h4 => Ok.rd (fun v6 h6 => ?_))
  rw [ei] at h4
  rw [eb] at h6
  subst h4 h6
  refine Ok.bd _ (xX12_points hG2.tt hs) ?_
  rintro _ _ ⟨rfl, rfl⟩
  rw [en2]
  refine Ok.bd (fun v u => t2 = u ∧ (v = 0 ∨ i - b = n)) ?_ ?_
  · refine Ok.ite (fun c => Ok.ret ⟨rfl, Or.inr ?_⟩) (fun _ => Ok.ret ⟨rfl, Or.inl rfl⟩)
    rw [nI_sub hbi] at c
    exact nI_inj c (by omega) (by omega)
  rintro v12 _ ⟨rfl, h12⟩
  refine Ok.rd (fun v16 h16 => ?_)
  rw [eb] at h16
  subst h16
  refine Ok.bd (fun e u => t2 = u ∧ (t2 149 10 = 2 → e = 0 ∨ (i - b = n ∧ PM n (fun k => t2 153 (b + k) - 48) ∧ ∀ k, k < n → ∃ p, p < n ∧ t2 153 (b + k) = nI (48 + p)))) ?_ ?_
  · refine Ok.loop (fun k c u => t2 = u ∧ ∃ j, c.2.2 = nI j ∧ b ≤ j ∧ j ≤ i ∧ k = i - j ∧ (t2 149 10 = 2 → c.2.1 = 0 ∨ (i - b = n ∧ ∃ S, c.1 = nI S ∧ S < 512 ∧ cnt S n = j - b ∧ (∀ p, S.testBit p = true → ∃ k, k < j - b ∧ t2 153 (b + k) = nI (48 + p)) ∧ ∀ k, k < j - b → ∃ p, p < n ∧ t2 153 (b + k) = nI (48 + p)))) ?_ (i - b) _ _ ⟨rfl, b, rfl, by omega, hbi, rfl, fun _ => h12.imp id (fun h => ⟨h, 0, rfl, by omega, by rw [cnt_0]; omega, fun p hp => by simp at hp, fun k hk => absurd hk (by omega)⟩)⟩
    intro k c u hI
    obtain ⟨rfl, j, ej, hbj, hji, rfl, hd⟩ := hI
    obtain ⟨c0, c1, c2⟩ := c
    dsimp only at ej hd
    subst ej
    unfold SX12_readsRow_35
    dsimp only
    refine Ok.rd (fun v18 h18 => ?_)
    rw [ei] at h18
    subst h18
    refine Ok.ite (fun c3 => Ok.ret ⟨rfl, fun q => (hd q).imp id (fun h => ?_)⟩) (fun c3 => ?_)
    · rw [nI_leP (by omega) (by omega)] at c3
      obtain ⟨g1, S, -, g3, g4, g5, g6⟩ := h
      refine ⟨g1, fun p hp => ?_, fun k hk => g6 k (by omega)⟩
      obtain ⟨k, hk, e⟩ := g5 p (cnt_full (by omega) p hp)
      refine ⟨k, by omega, ?_⟩
      show t2 153 (b + k) - 48 = nI p
      rw [e, sub48]
    rw [nI_leP (by omega) (by omega)] at c3
    refine Ok.rd (fun v21 h21 => Ok.ite (fun c4 => ?_) (fun c4 => Ok.ret ⟨rfl, fun q => absurd (h21.trans q) c4⟩))
    have tok := h21.symm.trans c4
    obtain ⟨d, hdd, ed⟩ := h2 tok j hbj (by omega)
    refine Ok.ck (inb_n (by omega) (by omega)) (fun _ => Ok.rd (fun v25 h25 => ?_))
    rw [nI_cl (by omega), ed] at h25
    subst h25
    rw [sub48]
    refine Ok.bd (fun v u => t2 = u ∧ (v = 0 ∨ (¬ c1 = 0 ∧ d < n ∧ ∀ S, c0 = nI S → S < 512 → S.testBit d = false))) ?_ ?_
    · refine Ok.ite (fun _ => Ok.ret ⟨rfl, Or.inl rfl⟩) (fun c5 => ?_)
      refine Ok.bd _ (xX12_points hG2.tt hs) ?_
      rintro _ _ ⟨rfl, rfl⟩
      rw [en2]
      refine Ok.ite (fun _ => Ok.ret ⟨rfl, Or.inl rfl⟩) (fun c6 => ?_)
      rw [nI_leP (by omega) (by omega)] at c6
      unfold FX12_has
      refine Ok.bd (fun v u => t2 = u ∧ (v = 0 → ¬ shr c0 (nI d) &&& 1 = 1)) (Ok.ite (fun c => Ok.ret ⟨rfl, fun h => absurd h (by decide)⟩) (fun c => Ok.ret ⟨rfl, fun _ => c⟩)) ?_
      rintro v36 _ ⟨rfl, h36⟩
      refine Ok.ite (fun c7 => Ok.ret ⟨rfl, Or.inr ⟨c5, by omega, fun S eS hS => ?_⟩⟩) (fun _ => Ok.ret ⟨rfl, Or.inl rfl⟩)
      have := h36 c7
      rw [eS, bit_n (by omega) (by omega)] at this
      cases hb : S.testBit d
      · rfl
      · rw [hb] at this
        exact absurd rfl this
    · rintro v28 _ ⟨rfl, h28⟩
      refine Ok.ret ⟨i - (j + 1), by omega, rfl, j + 1, nI_1 j, by omega, by omega, rfl, fun q => ?_⟩
      rcases h28 with h | ⟨g0, gd, gS⟩
      · exact Or.inl h
      refine Or.inr ?_
      obtain ⟨g1, S, eS, g3, g4, g5, g6⟩ := (hd q).resolve_left g0
      have hb := gS S eS g3
      refine ⟨g1, S ||| 2 ^ d, ?_, or9 g3 (pw9 (by omega)), ?_, fun p hp => ?_, fun k hk => ?_⟩
      · show c0 ||| shl 1 (nI d) = _
        rw [eS, shl_1 (by omega), nI_or]
      · rw [cnt_or hb, if_pos gd, g4]
        omega
      · rw [Nat.testBit_or, Nat.testBit_two_pow] at hp
        by_cases e : d = p
        · exact ⟨j - b, by omega, by rw [show b + (j - b) = j by omega, ed, e]⟩
        · have hp' : S.testBit p = true := by simpa [e] using hp
          obtain ⟨k, hk, h⟩ := g5 p hp'
          exact ⟨k, by omega, h⟩
      · by_cases e : k = j - b
        · exact ⟨d, gd, by rw [e, show b + (j - b) = j by omega, ed]⟩
        · exact g6 k (by omega)
  rintro e40 _ ⟨rfl, h40⟩
  refine Ok.rd (fun v44 h44 => ?_)
  refine Ok.bd (fun _ u => RS σ t2 u ∧ (¬ u 149 12 = 0 ∨ (t2 = u ∧ i - b = n ∧ PM n (fun k => t2 153 (b + k) - 48) ∧ ∀ k, k < n → ∃ p, p < n ∧ t2 153 (b + k) = nI (48 + p)))) ?_ ?_
  · refine Ok.ite (fun c => ?_) (fun _ => ?_)
    · refine Ok.ite (fun _ => ?_) (fun c2 => ?_)
      · refine Ok.bd _ (nX12_faults hG2 hR2) ?_
        rintro _ u ⟨h, hb⟩
        exact Ok.ret ⟨h, Or.inl hb⟩
      · exact Ok.ret ⟨RS.rf hG2 hR2, Or.inr ⟨rfl, (h40 (h44.symm.trans c)).resolve_left c2⟩⟩
    · refine Ok.bd _ (nX12_faults hG2 hR2) ?_
      rintro _ u ⟨h, hb⟩
      exact Ok.ret ⟨h, Or.inl hb⟩
  rintro _ u ⟨ru, hu⟩
  refine Ok.bd (fun _ w => GM σ w ∧ RD w) ?_ ?_
  · by_cases hb : u 149 12 = 0
    rotate_left
    · refine Ok.loop (fun k c w => u = w) ?_ 0 _ _ rfl
      intro k c w hI
      subst hI
      unfold SX12_readsRow_134
      refine Ok.bd _ (xX12_points ru.1.tt hs) ?_
      rintro _ _ ⟨rfl, rfl⟩
      refine Ok.ite (fun _ => Ok.ret ⟨ru.1, ru.2.1⟩) (fun _ => ?_)
      refine Ok.rd (fun v55 h55 => Ok.ite (fun c => absurd (h55.symm.trans c) hb) (fun _ => Ok.ret ⟨ru.1, ru.2.1⟩))
    · obtain ⟨rfl, hib, hP, hf⟩ := hu.resolve_left (fun q => q hb)
      have hfR : ∀ k, k < n → IsR 9 (t2 153 (b + k) - 48) := fun k hk => by
        obtain ⟨p, hp, e⟩ := hf k hk
        rw [e, sub48]
        exact ⟨p, by omega, rfl⟩
      have hfin : GM σ (stp t2 150 (rwst (t2 150) s n (fun k => t2 153 (b + k) - 48))) := hG2.row hs en2 hn hfR hP
      have hfR2 : RD (stp t2 150 (rwst (t2 150) s n (fun k => t2 153 (b + k) - 48))) := hR2.same (by rw [stp_off (by decide)]) (by rw [stp_off (by decide)]) (by rw [stp_off (by decide)]) (by rw [stp_off (by decide)]) (by rw [stp_off (by decide)])
      refine Ok.loop (fun k c w => ∃ j, c = nI j ∧ j ≤ n ∧ k = n - j ∧ w = stp t2 150 (rwst (t2 150) s j (fun k => t2 153 (b + k) - 48))) ?_ n _ _ ⟨0, rfl, by omega, rfl, ?_⟩
      · intro k c w hI
        obtain ⟨j, rfl, hj, rfl, rfl⟩ := hI
        have hTu : TY (stp t2 150 (rwst (t2 150) s j (fun k => t2 153 (b + k) - 48))) := by
          refine hG2.1.stp (fun i hi => ?_)
          unfold rwst
          by_cases q : 91 * s + 82 ≤ i ∧ i < 91 * s + 82 + j
          · rw [if_pos q, ty_st (by omega)]
            have e : i % 91 = i - 91 * s := by
              obtain ⟨d, rfl⟩ : ∃ d, i = 91 * s + d := ⟨i - 91 * s, by omega⟩
              rw [Nat.mul_add_mod, Nat.add_sub_cancel_left, Nat.mod_eq_of_lt (by omega)]
            rw [e, if_pos (by omega)]
            exact hfR _ (by omega)
          · rw [if_neg q]
            exact hG2.tt 150 i hi
        have ep : stp t2 150 (rwst (t2 150) s j (fun k => t2 153 (b + k) - 48)) 150 (91 * s) = nI n := by
          rw [stp_at]
          unfold rwst
          rw [if_neg (by omega)]
          exact en2
        unfold SX12_readsRow_134
        refine Ok.bd _ (xX12_points hTu hs) ?_
        rintro _ _ ⟨rfl, rfl⟩
        rw [ep]
        refine Ok.ite (fun c1 => Ok.ret ?_) (fun c1 => ?_)
        · rw [nI_leP (by omega) (by omega)] at c1
          rw [show j = n by omega]
          exact ⟨hfin, hfR2⟩
        · rw [nI_leP (by omega) (by omega)] at c1
          refine Ok.rd (fun v55 h55 => Ok.ite (fun _ => ?_) (fun c2 => ?_))
          · refine Ok.rd (fun v58 h58 => ?_)
            rw [stp_off (by decide), eb] at h58
            subst h58
            rw [nI_add]
            refine Ok.ck (inb_n (by omega) (by omega)) (fun g => Ok.rd (fun v hv => ?_))
            rw [nI_cl (by omega), stp_off (by decide)] at hv
            refine Ok.bd _ (xX12_puts hs (i := j) (by omega)) ?_
            rintro _ _ rfl
            refine Ok.ret ⟨n - (j + 1), by omega, j + 1, nI_1 j, by omega, rfl, ?_⟩
            rw [wr_stp]
            congr 1
            funext q
            unfold rwst
            by_cases e : q = 91 * s + 82 + j
            · subst e
              rw [pk_us, if_pos (by omega), Nat.add_sub_cancel_left, hv]
            · rw [pk_un e]
              by_cases q1 : 91 * s + 82 ≤ q ∧ q < 91 * s + 82 + j
              · rw [if_pos q1, if_pos (by omega)]
              · rw [if_neg q1, if_neg (by omega)]
          · exact absurd (h55.trans (by rw [stp_off (by decide)]; exact hb)) c2
      · rw [show rwst (t2 150) s 0 (fun k => t2 153 (b + k) - 48) = t2 150 by
          funext q
          unfold rwst
          rw [if_neg (by omega)], stp_self]
  rintro _ w ⟨hw, hRw⟩
  refine Ok.bd _ (nX12_passes hw hRw) ?_
  rintro _ x r3
  refine Ok.bd _ (nX12_isSign r3.2.1) ?_
  rintro v73 _ ⟨rfl, -⟩
  refine Ok.bd _ (nX12_must r3.1 r3.2.1) ?_
  rintro _ y r4
  exact Ok.ret ⟨r4.1, r4.2.1⟩
theorem stp_stp {t : St} {a : Nat} {f g : Nat → Int32} : stp (stp t a f) a g = stp t a g := by
  funext b
  unfold stp
  by_cases e : b = a
  · rw [if_pos e, if_pos e]
  · rw [if_neg e, if_neg e, if_neg e]
/-- a fresh net of n points -/
def fr (g : Nat → Int32) (s n : Nat) : Nat → Int32 := rwst (upd (fun k => if 91 * s ≤ k ∧ k < 91 * s + 91 then 0 else g k) (91 * s) (nI n)) s n (fun i => nI i)
theorem fr_0 {g : Nat → Int32} {s n : Nat} : fr g s n (91 * s) = nI n := by
  unfold fr rwst
  rw [if_neg (by omega), pk_us]
theorem GM.frs {σ t : St} (h : GM σ t) {s n : Nat} (hs : s < 3) (hn : n < 10) : GM σ (stp t 150 (fr (t 150) s n)) := by
  refine h.st (fun i hi => ?_) (fun s' hs' m em hm p hp => ?_)
  · unfold fr rwst
    by_cases q : 91 * s + 82 ≤ i ∧ i < 91 * s + 82 + n
    · rw [if_pos q]
      have e : i % 91 = i - 91 * s := by
        obtain ⟨d, rfl⟩ : ∃ d, i = 91 * s + d := ⟨i - 91 * s, by omega⟩
        rw [Nat.mul_add_mod, Nat.add_sub_cancel_left, Nat.mod_eq_of_lt (by omega)]
      rw [e, if_pos (by omega)]
      exact ⟨_, by omega, rfl⟩
    · rw [if_neg q]
      by_cases q1 : i = 91 * s
      · subst q1
        rw [pk_us, if_neg (by omega)]
        exact ⟨n, hn, rfl⟩
      · rw [pk_un q1]
        by_cases q2 : 91 * s ≤ i ∧ i < 91 * s + 91
        · rw [if_pos q2]
          refine ⟨0, ?_, rfl⟩
          split <;> omega
        · rw [if_neg q2]
          exact h.ts hi
  · by_cases e : s' = s
    · subst e
      rw [fr_0] at em
      have := nI_inj em (by omega) (by omega)
      subst this
      refine ⟨p, hp, ?_⟩
      unfold fr rwst
      rw [if_pos (by omega), Nat.add_sub_cancel_left]
    · have k : ∀ j, j < 91 → fr (t 150) s n (91 * s' + j) = t 150 (91 * s' + j) := fun j hj => by
        unfold fr rwst
        rw [if_neg (by omega), pk_un (by omega), if_neg (by omega)]
      have k0 := k 0 (by omega)
      rw [Nat.add_zero] at k0
      rw [k0] at em
      obtain ⟨i, hi, ei⟩ := h.pe s' hs' m em hm p hp
      exact ⟨i, hi, by rw [Nat.add_assoc, k (82 + i) (by omega), ← Nat.add_assoc]; exact ei⟩
theorem nX12_readsNet {σ t : St} (hG : GM σ t) (hR : RD t) {s : Nat} (hs : s < 3) : Ok (FX12_readsNet (nI s) t) (fun _ u => GM σ u ∧ RD u) := by
  unfold FX12_readsNet
  refine Ok.bd _ (nX12_isWord_s4 hR) ?_
  rintro v1 _ rfl
  refine Ok.bd _ (nX12_must hG hR) ?_
  rintro _ t5 r1
  refine Ok.bd _ (nX12_here r1.1 r1.2.1) ?_
  rintro v7 t8 ⟨r2, hv7, -⟩
  obtain ⟨n, h1, hn, rfl⟩ := here_W hv7
  refine Ok.bd _ (nX12_passes r2.1 r2.2.1) ?_
  rintro _ t11 r3
  have h3 := r3.1
  have hR3 := r3.2.1
  clear r1 r2 r3 hv7 hG hR
  refine Ok.bd _ (xX12_empties hs) ?_
  rintro _ _ rfl
  have e91 : (91 : Int32) * nI s = nI (91 * s) := by rw [li_91, nI_mul]
  rw [e91]
  refine Ok.ck (inb_n (by omega) (by omega)) (fun _ => Ok.wr (fun t17 e17 => ?_))
  rw [nI_cl (by omega), wr_stp] at e17
  have hgf := h3.frs hs hn
  have hRf : RD (stp t11 150 (fr (t11 150) s n)) := hR3.same (by rw [stp_off (by decide)]) (by rw [stp_off (by decide)]) (by rw [stp_off (by decide)]) (by rw [stp_off (by decide)]) (by rw [stp_off (by decide)])
  refine Ok.bd (fun _ u => u = stp t11 150 (fr (t11 150) s n)) ?_ ?_
  · refine Ok.loop (fun k c u => ∃ j, c = nI j ∧ j ≤ n ∧ k = n - j ∧ u = stp t11 150 (rwst (upd (fun k => if 91 * s ≤ k ∧ k < 91 * s + 91 then 0 else t11 150 k) (91 * s) (nI n)) s j (fun i => nI i))) ?_ n _ _ ⟨0, rfl, by omega, rfl, ?_⟩
    · intro k c u hI
      obtain ⟨j, rfl, hj, rfl, rfl⟩ := hI
      unfold SX12_readsNet_39
      refine Ok.ite (fun c1 => Ok.ret ?_) (fun c1 => ?_)
      · rw [nI_leP (by omega) (by omega)] at c1
        rw [show j = n by omega]
        rfl
      · rw [nI_leP (by omega) (by omega)] at c1
        refine Ok.bd _ (xX12_puts hs (i := j) (by omega)) ?_
        rintro _ _ rfl
        refine Ok.ret ⟨n - (j + 1), by omega, j + 1, nI_1 j, by omega, rfl, ?_⟩
        rw [wr_stp]
        congr 1
        funext q
        unfold rwst
        by_cases e : q = 91 * s + 82 + j
        · subst e
          rw [pk_us, if_pos (by omega), Nat.add_sub_cancel_left]
        · rw [pk_un e]
          by_cases q1 : 91 * s + 82 ≤ q ∧ q < 91 * s + 82 + j
          · rw [if_pos q1, if_pos (by omega)]
          · rw [if_neg q1, if_neg (by omega)]
    · rw [e17]
      congr 1
      funext q
      unfold rwst
      rw [if_neg (by omega)]
  rintro _ _ rfl
  have e0 : stp t11 150 (fr (t11 150) s n) 150 (91 * s) = nI n := by rw [stp_at, fr_0]
  generalize stp t11 150 (fr (t11 150) s n) = t24 at hgf hRf e0
  clear e17 h3 hR3
  refine Ok.bd _ (nX12_isSign hRf) ?_
  rintro v27 _ ⟨rfl, -⟩
  refine Ok.bd (fun _ u => GM σ u ∧ RD u ∧ u 150 (91 * s) = nI n) ?_ ?_
  · refine Ok.ite (fun _ => Ok.ret ⟨hgf, hRf, e0⟩) (fun _ => ?_)
    refine Ok.bd _ (nX12_nextR hgf hRf) ?_
    rintro _ t65 ⟨⟨r4, -⟩, -⟩
    refine Ok.bd _ (nX12_readsLine r4.1 r4.2.1 hs (by rw [r4.2.2.1]; exact e0) h1 hn) ?_
    rintro _ t68 r5
    refine Ok.bd (fun _ u => GM σ u ∧ RD u ∧ u 150 (91 * s) = nI n) ?_ (fun _ _ h => Ok.ret h)
    refine Ok.loop (fun k c u => (GM σ u ∧ RD u ∧ u 150 (91 * s) = nI n) ∧ k = if u 149 12 = 0 then 402 - (u 149 8).toInt.toNat else 0) ?_ _ _ _ ⟨⟨r5.1, r5.2.1, r5.2.2.1⟩, rfl⟩
    clear r4 r5
    intro k c u hI
    obtain ⟨⟨gu, ru, eu⟩, rfl⟩ := hI
    unfold SX12_readsNet_75
    refine Ok.bd _ (nX12_isSign ru) ?_
    rintro v70 _ ⟨rfl, h70⟩
    refine Ok.ite (fun _ => Ok.ret ⟨gu, ru, eu⟩) (fun c1 => ?_)
    have hb := h70.resolve_left c1
    refine Ok.bd _ (nX12_nextR gu ru) ?_
    rintro _ x ⟨⟨r6, -⟩, hx⟩
    refine Ok.bd _ (nX12_readsLine r6.1 r6.2.1 hs (by rw [r6.2.2.1]; exact eu) h1 hn) ?_
    rintro _ y r7
    refine Ok.ret ⟨_, ?_, ⟨r7.1, r7.2.1, r7.2.2.1⟩, rfl⟩
    obtain ⟨j, hj, ej⟩ := gu.tt.rd ty_m8 (by omega)
    obtain ⟨j', hj', ej'⟩ := r7.1.tt.rd ty_m8 (by omega)
    have g1 := r7.2.2.2.1
    have g2 := r7.2.2.2.2.2
    rw [if_pos hb, ej, nI_toInt (by omega)]
    rw [ej, nI_toInt (by omega)] at hx
    by_cases q : y 149 12 = 0
    · rw [if_pos q, ej', nI_toInt (by omega)]
      rw [ej', nI_toInt (by omega)] at g1
      have := hx.resolve_left (fun h => g2 h q)
      omega
    · rw [if_neg q]
      omega
  rintro _ t32 ⟨g32, r32, e32⟩
  refine Ok.bd _ (nX12_isSign r32) ?_
  rintro v35 _ ⟨rfl, -⟩
  refine Ok.bd _ (nX12_must g32 r32) ?_
  rintro _ t39 r8
  refine Ok.bd _ (nX12_isWord_s5 r8.2.1) ?_
  rintro v41 _ rfl
  refine Ok.bd (fun _ u => GM σ u ∧ RD u) ?_ ?_
  · refine Ok.ite (fun _ => Ok.ret ⟨r8.1, r8.2.1⟩) (fun _ => ?_)
    refine Ok.bd _ (nX12_readsRow r8.1 r8.2.1 hs (by rw [r8.2.2.1]; exact e32) h1 hn) ?_
    rintro _ u h
    exact Ok.ret h
  rintro _ t46 ⟨g46, r46⟩
  refine Ok.rd (fun v49 _ => Ok.ite (fun _ => ?_) (fun _ => Ok.ret ⟨g46, r46⟩))
  refine Ok.rd (fun v53 _ => Ok.ite (fun _ => Ok.ret ⟨g46, r46⟩) (fun _ => ?_))
  refine Ok.bd _ (nX12_faults g46 r46) ?_
  rintro _ u ⟨h, -⟩
  exact Ok.ret ⟨h.1, h.2.1⟩
theorem GM.tap {σ t u : St} {v : Int32} (h : GM σ t) (e : u = wr t 149 5 v) (hv : IsR 401 v) : GM (wr σ 149 5 v) u := by
  refine ⟨by rw [e]; exact h.1.wr (Or.inr (by rw [ty_m5]; exact hv)), fun b hb => ?_, ?_, ?_⟩
  · rw [e, wr_off b (by omega), wr_off b (by omega)]
    exact h.2.1 b hb
  · rw [e, wr_at, pk_us, wr_at, pk_us]
  · unfold PI
    rw [wo e (by decide), wo e (by decide), wo e (by decide)]
    exact h.2.2.2
theorem nX12_told {σ t : St} (hG : GM σ t) {a : Int32} : Ok (FX12_told a t) (fun r u => (¬ IsR 3 a ∧ t = u) ∨ (IsR 3 a ∧ GM (wr σ 149 5 0) u)) := by
  unfold FX12_told FX12_isSlot
  refine Ok.bd (fun v u => t = u ∧ ((v = 0 ∧ ¬ IsR 3 a) ∨ (v = 1 ∧ IsR 3 a))) ?_ ?_
  · refine Ok.bd _ xX12_in ?_
    rintro v _ ⟨rfl, ⟨rfl, h⟩ | ⟨rfl, h⟩⟩
    · exact Ok.ck rfl (fun _ => Ok.ret ⟨rfl, Or.inr ⟨rfl, in_R h (by decide) (by decide)⟩⟩)
    · refine Ok.ck rfl (fun _ => Ok.ret ⟨rfl, Or.inl ⟨rfl, fun q => h ?_⟩⟩)
      obtain ⟨k, hk, rfl⟩ := q
      rw [Int32.toInt_toInt64, nI_toInt (by omega)]
      have e0 : (0 : Int64).toInt = 0 := by decide
      have e2 : (2 : Int64).toInt = 2 := by decide
      rw [e0, e2]
      omega
  rintro v _ ⟨rfl, hv⟩
  refine Ok.ite (fun c => Ok.ret (Or.inl ⟨(hv.resolve_right (fun h => absurd (h.1.symm.trans c) (by decide))).2, rfl⟩)) (fun c => ?_)
  have ha := (hv.resolve_left (fun h => c h.1)).2
  obtain ⟨s, hs, rfl⟩ := id ha
  refine Ok.wr (fun t5 e5 => Ok.wr (fun t7 e7 => Ok.wr (fun t9 e9 => Ok.wr (fun t11 e11 => ?_))))
  have g5 := hG.wrU e5 (by omega) (by decide +kernel)
  have g7 := g5.wrU e7 (by omega) (by decide +kernel)
  have g9 := g7.wrT e9 (by omega) ty_m12 ⟨0, by omega, rfl⟩
  have g11 := g9.wrT e11 (by omega) ty_m8 ⟨0, by omega, rfl⟩
  have z8 : t11 149 8 = nI 0 := ws e11
  refine Ok.bd _ xX12_remembers ?_
  rintro _ _ rfl
  have g14 := g11.rem
  generalize hd : stp t11 151 (fun k => if k < 273 then t11 150 k else t11 151 k) = t14 at g14
  have z14 : t14 149 8 = nI 0 := by rw [← hd, stp_off (by decide)]; exact z8
  obtain ⟨n, hn, en⟩ := g14.tt.rd ty_m5 (by omega)
  refine Ok.bd _ (nX12_next g14 z14 en (by omega) hn) ?_
  rintro _ t17 ⟨⟨r17, -⟩, -⟩
  refine Ok.bd _ (nX12_readsNet r17.1 r17.2.1 hs) ?_
  rintro _ t20 ⟨g20, -⟩
  refine Ok.wr (fun t22 e22 => ?_)
  have g22 := g20.tap e22 ⟨0, by omega, rfl⟩
  refine Ok.rd (fun v24 _ => Ok.ite (fun _ => ?_) (fun _ => ?_))
  · refine Ok.bd _ (rX12_lines g22.tt ⟨s, hs, rfl⟩) ?_
    rintro v27 _ ⟨rfl, -⟩
    refine Ok.bd _ (nX12_done g22) ?_
    rintro r u ⟨hu, -⟩
    exact Ok.ret (Or.inr ⟨ha, hu⟩)
  · refine Ok.bd (fun _ u => u = stp t22 150 (fun k => if k < 273 then t22 151 k else t22 150 k)) ?_ ?_
    · refine Ok.loop (fun k c u => ∃ j, c = nI j ∧ j ≤ 273 ∧ k = 273 - j ∧ u = stp t22 150 (fun k => if k < j then t22 151 k else t22 150 k)) ?_ 273 _ _ ⟨0, rfl, by omega, rfl, by rw [mix_0, stp_self]⟩
      intro k c u hI
      obtain ⟨j, rfl, hj, rfl, rfl⟩ := hI
      unfold SX12_told_57
      refine Ok.ite (fun c1 => Ok.ret ?_) (fun c1 => ?_)
      · rw [li_273, nI_leP (by omega) (by omega)] at c1
        rw [show j = 273 by omega]
        rfl
      · rw [li_273, nI_leP (by omega) (by omega)] at c1
        refine Ok.ck (inb_n (by omega) (by omega)) (fun _ => Ok.rd (fun v hv => ?_))
        rw [nI_cl (by omega), stp_off (by decide)] at hv
        subst hv
        refine Ok.ck (inb_n (by omega) (by omega)) (fun _ => Ok.wr (fun w ew => ?_))
        rw [nI_cl (by omega), wr_stp, mix_1] at ew
        exact Ok.ret ⟨273 - (j + 1), by omega, j + 1, nI_1 j, by omega, rfl, ew⟩
    · rintro _ _ rfl
      refine Ok.ret (Or.inr ⟨ha, g22.st (fun i hi => ?_) (g22.2.2.2.2.1.eq (fun k hk => if_pos hk))⟩)
      rw [if_pos hi]
      have := g22.tt 151 i (by rw [ty_was, if_pos hi]; split <;> omega)
      rw [ty_was, if_pos hi] at this
      exact this
end
