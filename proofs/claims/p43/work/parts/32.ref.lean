/-! the reference: slots remembered, kept, undone (wip/ext/g32.py) -/
theorem mix_0 {f g : Nat → Int32} : (fun k => if k < 0 then f k else g k) = g := by
  funext k
  rw [if_neg (by omega)]
theorem mix_1 {f g : Nat → Int32} {j : Nat} : upd (fun k => if k < j then f k else g k) j (f j) = (fun k => if k < j + 1 then f k else g k) := by
  funext k
  by_cases e : k = j
  · subst e
    rw [pk_us, if_pos (by omega)]
  · rw [pk_un e]
    by_cases h : k < j
    · rw [if_pos h, if_pos (by omega)]
    · rw [if_neg h, if_neg (by omega)]
/-- one place's contents written anew -/
def stp (t : St) (a : Nat) (f : Nat → Int32) : St := fun b => if b = a then f else t b
theorem stp_at {t : St} {a : Nat} {f : Nat → Int32} : stp t a f a = f := if_pos rfl
theorem stp_off {t : St} {a b : Nat} {f : Nat → Int32} (h : b ≠ a) : stp t a f b = t b := if_neg h
theorem stp_self {t : St} {a : Nat} : stp t a (t a) = t := by
  funext b
  unfold stp
  split
  · rename_i h; rw [h]
  · rfl
theorem wr_stp {t : St} {a i : Nat} {f : Nat → Int32} {v : Int32} : wr (stp t a f) a i v = stp t a (upd f i v) := by
  funext b
  unfold wr stp
  by_cases h : b = a
  · rw [if_pos h, if_pos h, if_pos rfl]
  · rw [if_neg h, if_neg h, if_neg h]
theorem TY.stp {t : St} (h : TY t) {a : Nat} {f : Nat → Int32} (hf : ∀ i, 0 < ty a i → IsR (ty a i) (f i)) : TY (stp t a f) := by
  intro b i hb
  by_cases e : b = a
  · subst e
    rw [stp_at]
    exact hf i hb
  · rw [stp_off e]
    exact h b i hb
theorem xX12_remembers {t : St} : Ok (FX12_remembers t) (fun _ u => u = stp t 151 (fun k => if k < 273 then t 150 k else t 151 k)) := by
  unfold FX12_remembers
  refine Ok.bd (fun _ u => u = stp t 151 (fun k => if k < 273 then t 150 k else t 151 k)) ?_ (fun _ u h => Ok.ret h)
  refine Ok.loop (fun k c s => ∃ j, c = nI j ∧ j ≤ 273 ∧ k = 273 - j ∧ s = stp t 151 (fun k => if k < j then t 150 k else t 151 k)) ?_ 273 _ _ ⟨0, rfl, by omega, rfl, by rw [mix_0, stp_self]⟩
  intro k c s hI
  obtain ⟨j, rfl, hj, rfl, rfl⟩ := hI
  unfold SX12_remembers_2
  refine Ok.ite (fun c1 => Ok.ret ?_) (fun c1 => ?_)
  · rw [li_273, nI_leP (by omega) (by omega)] at c1
    rw [show j = 273 by omega]
    rfl
  · rw [li_273, nI_leP (by omega) (by omega)] at c1
    refine Ok.ck (inb_n (by omega) (by omega)) (fun _ => Ok.rd (fun v hv => Ok.ck (inb_n (by omega) (by omega)) (fun _ => Ok.wr (fun w ew => ?_))))
    rw [nI_cl (by omega), stp_off (by decide)] at hv
    rw [nI_cl (by omega), hv, wr_stp, mix_1] at ew
    exact Ok.ret ⟨273 - (j + 1), by omega, j + 1, nI_1 j, by omega, rfl, ew⟩
/-- what is kept, one put behind m others -/
def kpt (t : St) (m : Nat) : St := stp (stp t 152 (fun k => if k < 273 * m then t 152 k else if k < 273 * m + 273 then t 151 (k - 273 * m) else t 152 k)) 149 (upd (t 149) 3 (nI (m + 1)))
/-- the first of ten is forgotten -/
def fgt (t : St) : St := stp (stp t 152 (fun k => if k < 2457 then t 152 (k + 273) else t 152 k)) 149 (upd (t 149) 3 (nI 9))
theorem xSX12_keeps_52 {t : St} {m : Nat} {w : Int32} (hm : m < 10) (e3 : t 149 3 = nI m) : Ok (bnd (wh (SX12_keeps_52 w) (0 : Int32) t) (fun _ t18 => rdb t18 149 3 (fun v21 => wrb t18 149 3 (v21 + (1 : Int32)) (fun t23 => some (w, t23))))) (fun r u => r = w ∧ u = kpt t m) := by
  refine Ok.bd (fun _ u => u = stp t 152 (fun k => if k < 273 * m then t 152 k else if k < 273 * m + 273 then t 151 (k - 273 * m) else t 152 k)) ?_ ?_
  · refine Ok.loop (fun k c s => ∃ j, c = nI j ∧ j ≤ 273 ∧ k = 273 - j ∧ s = stp t 152 (fun k => if k < 273 * m then t 152 k else if k < 273 * m + j then t 151 (k - 273 * m) else t 152 k)) ?_ 273 _ _ ⟨0, rfl, by omega, rfl, ?_⟩
    · intro k c s hI
      obtain ⟨j, rfl, hj, rfl, rfl⟩ := hI
      unfold SX12_keeps_52
      refine Ok.ite (fun c1 => Ok.ret ?_) (fun c1 => ?_)
      · rw [li_273, nI_leP (by omega) (by omega)] at c1
        rw [show j = 273 by omega]
        rfl
      · rw [li_273, nI_leP (by omega) (by omega)] at c1
        refine Ok.rd (fun v9 h9 => ?_)
        rw [stp_off (by decide), e3] at h9
        subst h9
        refine Ok.ck (inb_n (by omega) (by omega)) (fun _ => Ok.rd (fun v hv => ?_))
        rw [nI_cl (by omega), stp_off (by decide)] at hv
        have e : (273 : Int32) * nI m + nI j = nI (273 * m + j) := by rw [li_273, nI_mul, nI_add]
        rw [e]
        refine Ok.ck (inb_n (by omega) (by omega)) (fun _ => Ok.wr (fun w ew => ?_))
        rw [nI_cl (by omega), wr_stp] at ew
        refine Ok.ret ⟨273 - (j + 1), by omega, j + 1, nI_1 j, by omega, rfl, ?_⟩
        rw [ew]
        congr 1
        funext q
        by_cases eq : q = 273 * m + j
        · subst eq
          rw [pk_us, if_neg (by omega), if_pos (by omega), hv]
          congr 1
          omega
        · rw [pk_un eq]
          by_cases h1 : q < 273 * m
          · rw [if_pos h1, if_pos h1]
          · rw [if_neg h1, if_neg h1]
            by_cases h2 : q < 273 * m + j
            · rw [if_pos h2, if_pos (by omega)]
            · rw [if_neg h2, if_neg (by omega)]
    · rw [show (fun k => if k < 273 * m then t 152 k else if k < 273 * m + 0 then t 151 (k - 273 * m) else t 152 k) = t 152 by
        funext k
        by_cases h1 : k < 273 * m
        · rw [if_pos h1]
        · rw [if_neg h1, if_neg (by omega)], stp_self]
  · rintro _ _ rfl
    refine Ok.rd (fun v hv => Ok.wr (fun u eu => Ok.ret ⟨rfl, ?_⟩))
    rw [stp_off (by decide), e3] at hv
    subst hv
    rw [eu, nI_1]
    unfold kpt
    funext b
    by_cases hb : b = 149
    · subst hb
      rw [wr_at, stp_at, stp_off (by decide)]
    · rw [wr_off b hb, stp_off hb]
theorem xX12_keeps {t : St} {m : Nat} {a : Int32} (hm : m < 11) (e3 : t 149 3 = nI m) : Ok (FX12_keeps a t) (fun r u => r = a ∧ u = if m = 10 then kpt (fgt t) 9 else kpt t m) := by
  unfold FX12_keeps
  refine Ok.rd (fun v1 h1 => ?_)
  rw [e3] at h1
  subst h1
  refine Ok.bd (fun _ u => u = if m = 10 then fgt t else t) ?_ ?_
  · refine Ok.ite (fun c => ?_) (fun c => ?_)
    · rw [li_10, nI_eqP (by omega) (by omega)] at c
      rw [if_pos c]
      refine Ok.bd (fun _ u => u = stp t 152 (fun k => if k < 2457 then t 152 (k + 273) else t 152 k)) ?_ ?_
      · refine Ok.loop (fun k c s => ∃ j, c = nI j ∧ j ≤ 2457 ∧ k = 2457 - j ∧ s = stp t 152 (fun k => if k < j then t 152 (k + 273) else t 152 k)) ?_ 2457 _ _ ⟨0, rfl, by omega, rfl, by rw [mix_0, stp_self]⟩
        intro k c s hI
        obtain ⟨j, rfl, hj, rfl, rfl⟩ := hI
        unfold SX12_keeps_11
        refine Ok.ite (fun c1 => Ok.ret ?_) (fun c1 => ?_)
        · rw [li_2457, nI_leP (by omega) (by omega)] at c1
          rw [show j = 2457 by omega]
          rfl
        · rw [li_2457, nI_leP (by omega) (by omega)] at c1
          rw [show nI j + (273 : Int32) = nI (j + 273) by rw [li_273, nI_add]]
          refine Ok.ck (inb_n (by omega) (by omega)) (fun _ => Ok.rd (fun v hv => Ok.ck (inb_n (by omega) (by omega)) (fun _ => Ok.wr (fun w ew => ?_))))
          rw [nI_cl (by omega), stp_at, if_neg (by omega)] at hv
          rw [nI_cl (by omega), hv, wr_stp] at ew
          refine Ok.ret ⟨2457 - (j + 1), by omega, j + 1, nI_1 j, by omega, rfl, ?_⟩
          rw [ew]
          congr 1
          exact mix_1 (f := fun k => t 152 (k + 273))
      · rintro _ _ rfl
        refine Ok.rd (fun v hv => Ok.wr (fun u eu => Ok.ret ?_))
        rw [stp_off (by decide), e3, c] at hv
        subst hv
        rw [eu]
        unfold fgt
        funext b
        by_cases hb : b = 149
        · subst hb
          rw [wr_at, stp_at, stp_off (by decide)]
          rfl
        · rw [wr_off b hb, stp_off hb]
    · rw [li_10, nI_eqP (by omega) (by omega)] at c
      rw [if_neg c]
      exact Ok.ret rfl
  · rintro _ _ rfl
    by_cases c : m = 10
    · rw [if_pos c, if_pos c]
      refine xSX12_keeps_52 (m := 9) (by omega) ?_
      unfold fgt
      rw [stp_at, pk_us]
    · rw [if_neg c, if_neg c]
      exact xSX12_keeps_52 (by omega) e3
theorem xX12_done {t : St} {m : Nat} {a : Int32} (hm : m < 11) (e3 : t 149 3 = nI m) : Ok (FX12_done a t) (fun r u => r = a ∧ ((u = t ∧ ∀ k, k < 273 → t 151 k = t 150 k) ∨ (u = (if m = 10 then kpt (fgt t) 9 else kpt t m) ∧ ∃ k, k < 273 ∧ t 151 k ≠ t 150 k))) := by
  unfold FX12_done
  refine Ok.bd (fun x u => Sum.elim (fun v => v = a ∧ u = (if m = 10 then kpt (fgt t) 9 else kpt t m) ∧ ∃ k, k < 273 ∧ t 151 k ≠ t 150 k) (fun _ => u = t ∧ ∀ k, k < 273 → t 151 k = t 150 k) x) ?_ ?_
  · refine Ok.loop (fun k c s => t = s ∧ ∃ j, c = nI j ∧ j ≤ 273 ∧ k = 273 - j ∧ ∀ k, k < j → t 151 k = t 150 k) ?_ 273 _ _ ⟨rfl, 0, rfl, by omega, rfl, fun k hk => absurd hk (by omega)⟩
    intro k c s hI
    obtain ⟨rfl, j, rfl, hj, rfl, hall⟩ := hI
    unfold SX12_done_2
    refine Ok.ite (fun c1 => Ok.ret ?_) (fun c1 => ?_)
    · rw [li_273, nI_leP (by omega) (by omega)] at c1
      exact ⟨rfl, fun k hk => hall k (by omega)⟩
    · rw [li_273, nI_leP (by omega) (by omega)] at c1
      refine Ok.ck (inb_n (by omega) (by omega)) (fun _ => Ok.rd (fun v3 h3 => Ok.ck (inb_n (by omega) (by omega)) (fun _ => Ok.rd (fun v6 h6 => ?_))))
      rw [nI_cl (by omega)] at h3 h6
      refine Ok.ite (fun c2 => ?_) (fun c2 => ?_)
      · refine Ok.ret ⟨273 - (j + 1), by omega, rfl, j + 1, nI_1 j, by omega, rfl, fun k hk => ?_⟩
        by_cases e : k = j
        · rw [e, ← h3, ← h6]; exact c2
        · exact hall k (by omega)
      · refine Ok.bd _ (xX12_keeps hm e3) ?_
        rintro _ u ⟨rfl, hu⟩
        exact Ok.ret ⟨rfl, hu, j, by omega, by rw [← h3, ← h6]; exact c2⟩
  · rintro (x | x) u h
    · exact Ok.ret ⟨h.1, Or.inr h.2⟩
    · exact Ok.ret ⟨rfl, Or.inl h⟩
theorem xX12_undo {t : St} {m : Nat} (hm : m < 11) (e3 : t 149 3 = nI m) : Ok (FX12_undo t) (fun r u => if m = 0 then r = -1 ∧ u = t else r = nI (m - 1) ∧ u = stp (stp t 149 (upd (t 149) 3 (nI (m - 1)))) 150 (fun k => if k < 273 then t 152 (273 * (m - 1) + k) else t 150 k)) := by
  unfold FX12_undo
  refine Ok.rd (fun v1 h1 => ?_)
  rw [e3] at h1
  subst h1
  refine Ok.ite (fun c => Ok.ret ?_) (fun c => ?_)
  · rw [li_0, nI_eqP (by omega) (by omega)] at c
    rw [if_pos c]
    exact ⟨rfl, rfl⟩
  · rw [li_0, nI_eqP (by omega) (by omega)] at c
    simp only [if_neg c]
    refine Ok.rd (fun v4 h4 => Ok.wr (fun t6 e6 => ?_))
    rw [e3] at h4
    subst h4
    rw [show (nI m - 1 : Int32) = nI (m - 1) from nI_sub (a := m) (b := 1) (by omega)] at e6
    have e6' : t6 = stp t 149 (upd (t 149) 3 (nI (m - 1))) := e6
    subst e6'
    generalize hd : stp t 149 (upd (t 149) 3 (nI (m - 1))) = d
    have d3 : d 149 3 = nI (m - 1) := by rw [← hd, stp_at, pk_us]
    have d150 : d 150 = t 150 := by rw [← hd, stp_off (by decide)]
    have d152 : d 152 = t 152 := by rw [← hd, stp_off (by decide)]
    refine Ok.bd (fun _ u => u = stp d 150 (fun k => if k < 273 then t 152 (273 * (m - 1) + k) else t 150 k)) ?_ ?_
    · refine Ok.loop (fun k c s => ∃ j, c = nI j ∧ j ≤ 273 ∧ k = 273 - j ∧ s = stp d 150 (fun k => if k < j then t 152 (273 * (m - 1) + k) else t 150 k)) ?_ 273 _ _ ⟨0, rfl, by omega, rfl, by rw [mix_0 (f := fun k => t 152 (273 * (m - 1) + k)), ← d150, stp_self]⟩
      intro k c s hI
      obtain ⟨j, rfl, hj, rfl, rfl⟩ := hI
      unfold SX12_undo_21
      refine Ok.ite (fun c1 => Ok.ret ?_) (fun c1 => ?_)
      · rw [li_273, nI_leP (by omega) (by omega)] at c1
        rw [show j = 273 by omega]
        rfl
      · rw [li_273, nI_leP (by omega) (by omega)] at c1
        refine Ok.rd (fun v9 h9 => ?_)
        rw [stp_off (by decide), d3] at h9
        subst h9
        have e : (273 : Int32) * nI (m - 1) + nI j = nI (273 * (m - 1) + j) := by rw [li_273, nI_mul, nI_add]
        rw [e]
        refine Ok.ck (inb_n (by omega) (by omega)) (fun _ => Ok.rd (fun v hv => Ok.ck (inb_n (by omega) (by omega)) (fun _ => Ok.wr (fun w ew => ?_))))
        rw [nI_cl (by omega), stp_off (by decide), d152] at hv
        rw [nI_cl (by omega), hv, wr_stp, mix_1 (f := fun k => t 152 (273 * (m - 1) + k))] at ew
        exact Ok.ret ⟨273 - (j + 1), by omega, j + 1, nI_1 j, by omega, rfl, ew⟩
    · rintro _ _ rfl
      refine Ok.rd (fun v hv => Ok.ret ⟨?_, rfl⟩)
      rw [hv, stp_off (by decide), d3]
theorem xX12_empties {t : St} {s : Nat} (hs : s < 3) : Ok (FX12_empties (nI s) t) (fun _ u => u = stp t 150 (fun k => if 91 * s ≤ k ∧ k < 91 * s + 91 then 0 else t 150 k)) := by
  unfold FX12_empties
  refine Ok.bd (fun _ u => u = stp t 150 (fun k => if 91 * s ≤ k ∧ k < 91 * s + 91 then 0 else t 150 k)) ?_ (fun _ u h => Ok.ret h)
  refine Ok.loop (fun k c u => ∃ j, c = nI j ∧ j ≤ 91 ∧ k = 91 - j ∧ u = stp t 150 (fun k => if 91 * s ≤ k ∧ k < 91 * s + j then 0 else t 150 k)) ?_ 91 _ _ ⟨0, rfl, by omega, rfl, ?_⟩
  · intro k c u hI
    obtain ⟨j, rfl, hj, rfl, rfl⟩ := hI
    unfold SX12_empties_2
    refine Ok.ite (fun c1 => Ok.ret ?_) (fun c1 => ?_)
    · rw [li_91, nI_leP (by omega) (by omega)] at c1
      rw [show j = 91 by omega]
      rfl
    · rw [li_91, nI_leP (by omega) (by omega)] at c1
      have e : (91 : Int32) * nI s + nI j = nI (91 * s + j) := by rw [li_91, nI_mul, nI_add]
      rw [e]
      refine Ok.ck (inb_n (by omega) (by omega)) (fun _ => Ok.wr (fun w ew => ?_))
      rw [nI_cl (by omega), wr_stp] at ew
      refine Ok.ret ⟨91 - (j + 1), by omega, j + 1, nI_1 j, by omega, rfl, ?_⟩
      rw [ew]
      congr 1
      funext q
      by_cases eq : q = 91 * s + j
      · subst eq
        rw [pk_us, if_pos (by omega)]
      · rw [pk_un eq]
        by_cases h1 : 91 * s ≤ q ∧ q < 91 * s + j
        · rw [if_pos h1, if_pos (by omega)]
        · rw [if_neg h1, if_neg (by omega)]
  · rw [show (fun k => if 91 * s ≤ k ∧ k < 91 * s + 0 then 0 else t 150 k) = t 150 by
      funext k
      rw [if_neg (by omega)], stp_self]
theorem xX12_puts {t : St} {s i : Nat} {v : Int32} (hs : s < 3) (hi : i < 9) : Ok (FX12_puts (nI s) (nI i) v t) (fun _ u => u = wr t 150 (91 * s + 82 + i) v) := by
  unfold FX12_puts
  have e : (91 : Int32) * nI s + 82 + nI i = nI (91 * s + 82 + i) := by rw [li_91, li_82, nI_mul, nI_add, nI_add]
  rw [e]
  refine Ok.ck (inb_n (by omega) (by omega)) (fun g => Ok.wr (fun u eu => ?_))
  rw [nI_cl (by omega)] at eu
  exact Ok.ret eu
theorem xX12_weighs {t : St} {s p q : Nat} {v : Int32} (hs : s < 3) (hp : p < 9) (hq : q < 9) : Ok (FX12_weighs (nI s) (nI p) (nI q) v t) (fun _ u => u = wr (wr t 150 (91 * s + 1 + 9 * p + q) v) 150 (91 * s + 1 + 9 * q + p) v) := by
  unfold FX12_weighs
  have e : (91 : Int32) * nI s + 1 + 9 * nI p + nI q = nI (91 * s + 1 + 9 * p + q) := by rw [li_91, li_1, li_9, nI_mul, nI_mul, nI_add, nI_add, nI_add]
  have e2 : (91 : Int32) * nI s + 1 + 9 * nI q + nI p = nI (91 * s + 1 + 9 * q + p) := by rw [li_91, li_1, li_9, nI_mul, nI_mul, nI_add, nI_add, nI_add]
  rw [e, e2]
  refine Ok.ck (inb_n (by omega) (by omega)) (fun g => Ok.wr (fun u eu => Ok.ck (inb_n (by omega) (by omega)) (fun g2 => Ok.wr (fun w ew => ?_))))
  rw [nI_cl (by omega)] at eu ew
  subst eu
  exact Ok.ret ew
