/-! the reference: rows of which no ends are farther apart (wip/ext/g39.py) -/
theorem sub_le {i m k : Nat} (hi : i < 1000) (hm : m < 1000) (hk : k < 1000) : (nI i - nI m ≤ nI k) ↔ i ≤ m + k := by
  rw [Int32.le_iff_toInt_le, Int32.toInt_sub, nI_toInt (by omega), nI_toInt (by omega), nI_toInt (by omega)]
  simp only [Int.bmod]
  omega
theorem inv_row {S n i : Nat} {f : Nat → Int32} (hc : cnt S n = i) (hin : i = n) (h : ∀ p, S.testBit p = true → ∃ k, k < i ∧ f k = nI p) : PM n f := fun p hp => by
  obtain ⟨k, hk, e⟩ := h p (cnt_full (hc.trans hin) p hp)
  exact ⟨k, by omega, e⟩
/-- what a search for rows leaves -/
def BQ (σ t : St) (n i m : Nat) (e r : Int32) (u : St) : Prop := GM σ u ∧ u 150 = t 150 ∧ (∀ k, k < i → u 154 k = t 154 k) ∧ isb r = true ∧ (e = 1 → t 149 18 = 0 → ((r = 1 ∧ ¬ u 149 18 = 0 ∧ PM n (u 158)) ∨ (r = 0 ∧ u 149 18 = 0 ∧ m < n)))
theorem nX12_goesBand {σ : St} {s n m : Nat} {e : Int32} (hs : s < 3) (hn : n < 10) (hm : m < 100) (he : isb e = true) : ∀ (d : Nat) {t : St} {i S : Nat}, GM σ t → t 150 (91 * s) = nI n → i ≤ n → n - i < d → S < 512 → cnt S n = i → (∀ p, S.testBit p = true → ∃ k, k < i ∧ t 154 k = nI p) → Ok (FX12_goesBand d (nI s) (nI i) (nI S) (nI m) e t) (fun r u => BQ σ t n i m e r u) := by
  intro d
  induction d with
  | zero => intro t i S hG en hi hd; omega
  | succ d ih =>
    intro t i S hG en hi hd hS hc hrow
    unfold FX12_goesBand FX12_goesBand_b
    refine Ok.bd _ (xX12_points hG.tt hs) ?_
    rintro _ _ ⟨rfl, rfl⟩
    rw [en]
    refine Ok.ite (fun c => ?_) (fun c => ?_)
    · have hin := nI_inj c (by omega) (by omega)
      have hP := inv_row hc hin hrow
      refine Ok.rd (fun v49 h49 => ?_)
      refine Ok.bd (fun _ u => GM σ u ∧ u 150 = t 150 ∧ u 154 = t 154 ∧ u 149 = t 149 ∧ (t 149 18 = 0 → PM n (u 158))) ?_ ?_
      · refine Ok.ite (fun c0 => ?_) (fun c0 => Ok.ret ⟨hG, rfl, rfl, rfl, fun q => absurd (h49.trans q) c0⟩)
        refine Ok.bd (fun _ u => GM σ u ∧ u 150 = t 150 ∧ u 154 = t 154 ∧ u 149 = t 149 ∧ (t 149 18 = 0 → PM n (u 158))) ?_ (fun _ _ h => Ok.ret h)
        refine Ok.loop (fun k c u => (GM σ u ∧ u 150 = t 150 ∧ u 154 = t 154 ∧ u 149 = t 149) ∧ ∃ j, c = nI j ∧ j ≤ n ∧ k = n - j ∧ ∀ q, q < j → u 158 q = t 154 q) ?_ n _ _ ⟨⟨hG, rfl, rfl, rfl⟩, 0, rfl, by omega, rfl, fun q hq => absurd hq (by omega)⟩
        intro k c u hI
        obtain ⟨⟨gu, u0, u4, u9⟩, j, rfl, hj, rfl, hq⟩ := hI
        unfold SX12_goesBand_19
        refine Ok.ite (fun c1 => Ok.ret ⟨gu, u0, u4, u9, fun _ p hp => ?_⟩) (fun c1 => ?_)
        · rw [nI_leP (by omega) (by omega)] at c1
          obtain ⟨k, hk, e⟩ := hP p hp
          exact ⟨k, hk, by rw [hq k (by omega)]; exact e⟩
        · rw [nI_leP (by omega) (by omega)] at c1
          refine Ok.ck (inb_n (by omega) (by omega)) (fun _ => Ok.rd (fun v hv => ?_))
          rw [nI_cl (by omega), u4] at hv
          refine Ok.ck (inb_n (by omega) (by omega)) (fun _ => Ok.wr (fun w ew => ?_))
          rw [nI_cl (by omega)] at ew
          refine Ok.ret ⟨n - (j + 1), by omega, ⟨gu.wrT ew (by omega) (ty_a158 (by omega)) ?_, by rw [wo ew (by decide)]; exact u0, by rw [wo ew (by decide)]; exact u4, by rw [wo ew (by decide)]; exact u9⟩, j + 1, nI_1 j, by omega, rfl, fun q hq' => ?_⟩
          · rw [hv]
            exact hG.tt.rd (ty_a154 (by omega)) (by omega)
          · rw [ew, wr_at]
            by_cases e : q = j
            · rw [e, pk_us, hv]
            · rw [pk_un e]
              exact hq q (by omega)
      · rintro _ u ⟨gu, u0, u4, u9, hPu⟩
        refine Ok.rd (fun v56 h56 => Ok.wr (fun x ex => Ok.rd (fun v60 h60 => ?_)))
        refine Ok.ck (by decide) (fun _ => Ok.rd (fun v63 h63 => Ok.wr (fun y ey => ?_)))
        have gx := gu.wrU ex (by omega) (by decide +kernel)
        have gy := gx.wrU ey (by omega) (by decide +kernel)
        refine Ok.ck he (fun _ => Ok.ret ⟨gy, by rw [wo ey (by decide), wo ex (by decide)]; exact u0, fun k _ => by rw [wo ey (by decide), wo ex (by decide), u4], he, fun e1 z => Or.inl ⟨e1, ?_, ?_⟩⟩)
        · rw [wm ey (by decide), ws ex, h56, u9, z]
          decide
        · rw [wo ey (by decide), wo ex (by decide)]
          exact hPu z
    · have hlt : i < n := by
        rcases Nat.lt_or_ge i n with q | q
        · exact q
        · exact absurd (by rw [show i = n by omega]) c
      refine Ok.bd (fun x u => Sum.elim (fun r => BQ σ t n i m e r u) (fun _ => BQ σ t n i m e 0 u) x) ?_ ?_
      rotate_left
      · rintro (x | x) u h
        · exact Ok.ret h
        · exact Ok.ret h
      refine Ok.loop (fun k c u => (GM σ u ∧ u 150 = t 150 ∧ ∀ k, k < i → u 154 k = t 154 k) ∧ ∃ p, c = nI p ∧ p ≤ n ∧ k = n - p ∧ (e = 1 → t 149 18 = 0 → u 149 18 = 0 ∧ (m < n ∨ ∀ q, q < p → S.testBit q = true))) ?_ n _ _ ⟨⟨hG, rfl, fun _ _ => rfl⟩, 0, rfl, by omega, rfl, fun _ z => ⟨z, Or.inr (fun q hq => absurd hq (by omega))⟩⟩
      intro k c u hI
      obtain ⟨⟨gu, u0, u4⟩, p, rfl, hp, rfl, hz⟩ := hI
      have eu : u 150 (91 * s) = nI n := by rw [u0]; exact en
      unfold SX12_goesBand_78
      refine Ok.bd _ (xX12_points gu.tt hs) ?_
      rintro _ _ ⟨rfl, rfl⟩
      rw [eu]
      refine Ok.ite (fun c1 => Ok.ret ⟨gu, u0, u4, rfl, fun e1 z => Or.inr ?_⟩) (fun c1 => ?_)
      · rw [nI_leP (by omega) (by omega)] at c1
        obtain ⟨z1, z2⟩ := hz e1 z
        refine ⟨rfl, z1, z2.resolve_right (fun h => ?_)⟩
        have := cnt_all (S := S) (n := n) (fun q hq => h q (by omega))
        omega
      rw [nI_leP (by omega) (by omega)] at c1
      refine Ok.bd _ (xX12_has (by omega) (by omega)) ?_
      rintro _ _ ⟨rfl, rfl⟩
      refine Ok.bd (fun v w => u = w ∧ ((v = 1 ∧ S.testBit p = false) ∨ (v = 0 ∧ S.testBit p = true))) ?_ ?_
      · cases hb : S.testBit p
        · exact Ok.ite (fun _ => Ok.ret ⟨rfl, Or.inl ⟨rfl, rfl⟩⟩) (fun c => absurd rfl c)
        · exact Ok.ite (fun c => absurd c (by decide)) (fun _ => Ok.ret ⟨rfl, Or.inr ⟨rfl, rfl⟩⟩)
      rintro v13 _ ⟨rfl, h13⟩
      refine Ok.bd (fun v w => u = w ∧ (v = 0 ∨ S.testBit p = false) ∧ (i ≤ m → v = v13)) ?_ ?_
      · refine Ok.loop (fun k c w => u = w ∧ (c.1 = 0 ∨ S.testBit p = false) ∧ (i ≤ m → c.1 = v13) ∧ ∃ j, c.2 = nI j ∧ j ≤ 9 ∧ k = 9 - j) ?_ 9 _ _ ⟨rfl, ?_, fun _ => rfl, 0, rfl, by omega, rfl⟩
        · intro k c w hI
          obtain ⟨rfl, g1, g2, j, ej, hj, rfl⟩ := hI
          obtain ⟨c0, c9⟩ := c
          dsimp only at ej g1 g2
          subst ej
          unfold SX12_goesBand_107
          dsimp only
          refine Ok.ite (fun _ => Ok.ret ⟨rfl, g1, g2⟩) (fun c2 => Ok.ite (fun _ => Ok.ret ⟨rfl, g1, g2⟩) (fun c3 => ?_))
          rw [sub_le (by omega) (by omega) (by omega)] at c2
          refine Ok.ck (inb_n (by omega) (by omega)) (fun _ => Ok.rdT gu.tt (ty_a154 (by rw [nI_cl (by omega)]; omega)) (by omega) (fun q hq eq => ?_))
          refine Ok.bd _ (rX12_weight gu.tt ⟨s, hs, rfl⟩ ⟨q, hq, rfl⟩ ⟨p, by omega, rfl⟩) ?_
          rintro v22 _ ⟨rfl, -⟩
          refine Ok.bd (fun v w => u = w) (Ok.ite (fun _ => Ok.ret rfl) (fun _ => Ok.ret rfl)) ?_
          rintro v26 _ rfl
          exact Ok.ret ⟨9 - (j + 1), by omega, rfl, Or.inr (g1.resolve_left c3), fun q => absurd q (by omega), j + 1, nI_1 j, by omega, rfl⟩
        · exact h13.elim (fun h => Or.inr h.2) (fun h => Or.inl h.1)
      rintro e30 _ ⟨rfl, g1, g2⟩
      refine Ok.ite (fun c2 => ?_) (fun c2 => ?_)
      · refine Ok.ret ⟨n - (p + 1), by omega, ⟨gu, u0, u4⟩, p + 1, nI_1 p, by omega, rfl, fun e1 z => ?_⟩
        obtain ⟨z1, z2⟩ := hz e1 z
        refine ⟨z1, ?_⟩
        by_cases q : m < n
        · exact Or.inl q
        · refine Or.inr (fun r hr => ?_)
          by_cases er : r = p
          · subst er
            refine (h13.resolve_left (fun h => ?_)).2
            exact absurd ((g2 (by omega)).symm.trans c2) (by rw [h.1]; decide)
          · exact (z2.resolve_left q) r (by omega)
      · have hb := g1.resolve_left c2
        refine Ok.ck (inb_n (by omega) (by omega)) (fun _ => Ok.wr (fun w ew => ?_))
        rw [nI_cl (by omega)] at ew
        have gw := gu.wrT ew (by omega) (ty_a154 (by omega)) ⟨p, by omega, rfl⟩
        have w0 : w 150 = t 150 := by rw [wo ew (by decide)]; exact u0
        have w4 : ∀ k, k < i → w 154 k = t 154 k := fun k hk => by
          rw [ew, wr_at, pk_un (by omega)]
          exact u4 k hk
        have w9 : w 149 = u 149 := wo ew (by decide)
        have e1 : nI i + 1 = nI (i + 1) := nI_1 i
        have e2 : nI S ||| shl 1 (nI p) = nI (S ||| 2 ^ p) := by rw [shl_1 (by omega), nI_or]
        rw [e1, e2]
        refine Ok.bd _ (ih (i := i + 1) (S := S ||| 2 ^ p) gw (by rw [w0]; exact en) (by omega) (by omega) (or9 hS (pw9 (by omega))) (by rw [cnt_or hb, if_pos (by omega), hc]) (fun q hq => ?_)) ?_
        · rw [Nat.testBit_or, Nat.testBit_two_pow] at hq
          by_cases e : p = q
          · exact ⟨i, by omega, by rw [ew, wr_at, pk_us, e]⟩
          · have hq' : S.testBit q = true := by simpa [e] using hq
            obtain ⟨k, hk, h⟩ := hrow q hq'
            exact ⟨k, by omega, by rw [w4 k hk]; exact h⟩
        · rintro v38 x ⟨gx, x0, x4, hb38, hx⟩
          have x0' : x 150 = t 150 := x0.trans w0
          have x4' : ∀ k, k < i → x 154 k = t 154 k := fun k hk => (x4 k (by omega)).trans (w4 k hk)
          refine Ok.ite (fun c3 => ?_) (fun c3 => ?_)
          · refine Ok.ret ⟨n - (p + 1), by omega, ⟨gx, x0', x4'⟩, p + 1, nI_1 p, by omega, rfl, fun q z => ?_⟩
            obtain ⟨z1, z2⟩ := hz q z
            obtain ⟨-, y2, y3⟩ := (hx q (by rw [w9]; exact z1)).resolve_left (fun h => absurd (h.1.symm.trans c3) (by decide))
            exact ⟨y2, Or.inl y3⟩
          · refine Ok.ret ⟨gx, x0', x4', rfl, fun q z => ?_⟩
            obtain ⟨z1, z2⟩ := hz q z
            exact Or.inl ⟨rfl, ((hx q (by rw [w9]; exact z1)).resolve_right (fun h => c3 h.1)).2⟩
theorem nX12_rowsOfBand {σ t : St} {s n m : Nat} {e : Int32} (hG : GM σ t) (en : t 150 (91 * s) = nI n) (hs : s < 3) (hn : n < 10) (hm : m < 100) (he : isb e = true) : Ok (FX12_rowsOfBand (nI s) (nI m) e t) (fun r u => GM σ u ∧ u 150 = t 150 ∧ (e = 1 → (r = 0 ∧ m < n) ∨ (¬ r = 0 ∧ PM n (u 158)))) := by
  unfold FX12_rowsOfBand
  refine Ok.wr (fun t1 e1 => Ok.wr (fun t3 e3 => ?_))
  have g1 := hG.wrU e1 (by omega) (by decide +kernel)
  have g3 := g1.wrU e3 (by omega) (by decide +kernel)
  have h0 : t3 150 = t 150 := by rw [wo e3 (by decide), wo e1 (by decide)]
  have z : t3 149 18 = 0 := by rw [wm e3 (by decide)]; exact ws e1
  refine Ok.bd _ (nX12_goesBand hs hn hm he 11 (i := 0) (S := 0) g3 (by rw [h0]; exact en) (by omega) (by omega) (by omega) (cnt_0 n) (fun p hp => by simp at hp)) ?_
  rintro v5 u ⟨gu, u0, -, -, hx⟩
  refine Ok.rd (fun v8 h8 => Ok.ret ⟨gu, u0.trans h0, fun q => ?_⟩)
  subst h8
  rcases hx q z with ⟨-, a, b⟩ | ⟨-, a, b⟩
  · exact Or.inr ⟨a, b⟩
  · exact Or.inl ⟨a, b⟩
theorem nX12_leastBand {σ t : St} {s n : Nat} (hG : GM σ t) (en : t 150 (91 * s) = nI n) (hs : s < 3) (hn : n < 10) : Ok (FX12_leastBand (nI s) t) (fun r u => GM σ u ∧ u 150 = t 150 ∧ PM n (u 158) ∧ ∃ v, v ≤ n ∧ r = nI v) := by
  unfold FX12_leastBand
  refine Ok.bd (fun r u => GM σ u ∧ u 150 = t 150 ∧ PM n (u 158) ∧ ∃ v, v ≤ n ∧ r = nI v) ?_ (fun _ _ h => Ok.ret h)
  refine Ok.loop (fun k c u => GM σ u ∧ u 150 = t 150 ∧ ∃ v, c = nI v ∧ v ≤ n ∧ k = n - v) ?_ n _ _ ⟨hG, rfl, 0, rfl, by omega, rfl⟩
  intro k c u hI
  obtain ⟨gu, u0, v, rfl, hv, rfl⟩ := hI
  unfold SX12_leastBand_2
  refine Ok.bd _ (nX12_rowsOfBand (m := v) (e := 1) gu (by rw [u0]; exact en) hs hn (by omega) rfl) ?_
  rintro v1 w ⟨gw, w0, hx⟩
  have w0' := w0.trans u0
  refine Ok.ite (fun c1 => ?_) (fun c1 => ?_)
  · have := (hx rfl).resolve_right (fun h => h.1 c1)
    exact Ok.ret ⟨n - (v + 1), by omega, gw, w0', v + 1, nI_1 v, by omega, rfl⟩
  · exact Ok.ret ⟨gw, w0', ((hx rfl).resolve_left (fun h => c1 h.1)).2, v, hv, rfl⟩
