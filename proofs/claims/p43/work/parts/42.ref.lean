/-! the reference: two points drawn together (wip/ext/g42.py) -/
def mgT (g : Nat → Int32) (s n j : Nat) (tab : Nat → Int32) : Nat → Int32 := fun k => if 91 * s + 1 ≤ k ∧ k < 91 * s + 1 + j then tab (k - (91 * s + 1)) else upd (fun k => if 91 * s ≤ k ∧ k < 91 * s + 91 then 0 else g k) (91 * s) (nI n) k
theorem mgT_0 {g tab ord : Nat → Int32} {s n j i : Nat} : rwst (mgT g s n j tab) s i ord (91 * s) = nI n := by
  unfold rwst mgT
  rw [if_neg (by omega), if_neg (by omega), pk_us]
theorem mgT_off {g tab ord : Nat → Int32} {s s' n i k : Nat} (hi : i ≤ 9) (hs : s' ≠ s) (hk : k < 91) : rwst (mgT g s n 81 tab) s i ord (91 * s' + k) = g (91 * s' + k) := by
  unfold rwst mgT
  rw [if_neg (by omega), if_neg (by omega), pk_un (by omega), if_neg (by omega)]
theorem GM.mg {σ t : St} (h : GM σ t) {s n : Nat} {tab ord : Nat → Int32} (hs : s < 3) (hn : n < 10) (ht : ∀ k, k < 81 → IsR 10 (tab k)) (ho : ∀ k, k < n → IsR 9 (ord k)) (hP : PM n ord) : GM σ (stp t 150 (rwst (mgT (t 150) s n 81 tab) s n ord)) := by
  refine h.st (fun i hi => ?_) (fun s' hs' m em hm p hp => ?_)
  · by_cases q : 91 * s ≤ i ∧ i < 91 * s + 91
    · obtain ⟨d, rfl⟩ : ∃ d, i = 91 * s + d := ⟨i - 91 * s, by omega⟩
      have e : (91 * s + d) % 91 = d := by rw [Nat.mul_add_mod, Nat.mod_eq_of_lt (by omega)]
      rw [e]
      unfold rwst
      by_cases q1 : 91 * s + 82 ≤ 91 * s + d ∧ 91 * s + d < 91 * s + 82 + n
      · rw [if_pos q1, if_pos (by omega)]
        exact ho _ (by omega)
      · rw [if_neg q1]
        unfold mgT
        by_cases q2 : 91 * s + 1 ≤ 91 * s + d ∧ 91 * s + d < 91 * s + 1 + 81
        · rw [if_pos q2, if_neg (by omega)]
          exact ht _ (by omega)
        · rw [if_neg q2]
          by_cases q3 : d = 0
          · subst q3
            show IsR _ (upd _ (91 * s) (nI n) (91 * s))
            rw [pk_us]
            exact ⟨n, by split <;> omega, rfl⟩
          · rw [pk_un (by omega)]
            refine ⟨0, ?_, if_pos (by omega)⟩
            split <;> omega
    · have e : rwst (mgT (t 150) s n 81 tab) s n ord i = t 150 i := by
        unfold rwst mgT
        rw [if_neg (by omega), if_neg (by omega), pk_un (by omega), if_neg q]
      rw [e]
      exact h.ts hi
  · by_cases e : s' = s
    · subst e
      rw [mgT_0] at em
      have := nI_inj em (by omega) (by omega)
      subst this
      obtain ⟨i, hi, ei⟩ := hP p hp
      refine ⟨i, hi, ?_⟩
      unfold rwst
      rw [if_pos (by omega), Nat.add_sub_cancel_left]
      exact ei
    · have k0 := mgT_off (g := t 150) (tab := tab) (ord := ord) (n := n) (i := n) (k := 0) (by omega) e (by omega)
      rw [Nat.add_zero] at k0
      rw [k0] at em
      obtain ⟨i, hi, ei⟩ := h.pe s' hs' m em hm p hp
      exact ⟨i, hi, by rw [Nat.add_assoc, mgT_off (by omega) e (by omega), ← Nat.add_assoc]; exact ei⟩
/-- a point's new number -/
theorem ren {t : St} {w : Int32} {lo hi n x : Nat} (hlo : lo < hi) (hhi : hi < n) (hn : n < 10) (hx : x < n) : Ok (if nI x = nI hi then (some (nI lo, t)) else (if nI x ≤ nI hi then (some (nI x, t)) else (some ((nI x - (1 : Int32)), t)))) (fun v u => t = u ∧ ∃ k, k < 8 ∧ v = nI k) := by
  refine Ok.ite (fun c => Ok.ret ⟨rfl, lo, by omega, rfl⟩) (fun c => Ok.ite (fun c2 => Ok.ret ⟨rfl, x, ?_, rfl⟩) (fun c2 => Ok.ret ⟨rfl, x - 1, ?_, ?_⟩))
  · rw [nI_leP (by omega) (by omega)] at c2
    have : x ≠ hi := fun e => c (by rw [e])
    omega
  · omega
  · rw [nI_leP (by omega) (by omega)] at c2
    rw [li_1, nI_sub (by omega)]
theorem mn_10 {a b : Nat} (ha : a < 10) (hb : b < 10) : IsR 10 (mnI 9 (nI a + nI b)) := by
  rw [nI_add]
  show IsR 10 (if nI (a + b) < 9 then nI (a + b) else 9)
  by_cases q : nI (a + b) < 9
  · rw [if_pos q]
    rw [li_9, nI_ltP (by omega) (by omega)] at q
    exact ⟨a + b, by omega, rfl⟩
  · rw [if_neg q]
    exact ⟨9, by omega, rfl⟩
theorem mnmx {p q : Nat} (hp : p < 9) (hq : q < 9) (hne : ¬ nI p = nI q) : ∃ lo hi, lo < hi ∧ (hi = p ∨ hi = q) ∧ mnI (nI p) (nI q) = nI lo ∧ mxI (nI p) (nI q) = nI hi := by
  have hne' : p ≠ q := fun e => hne (by rw [e])
  show ∃ lo hi, lo < hi ∧ (hi = p ∨ hi = q) ∧ (if nI q < nI p then nI q else nI p) = nI lo ∧ (if nI p < nI q then nI q else nI p) = nI hi
  by_cases h : p < q
  · exact ⟨p, q, h, Or.inr rfl, if_neg (by rw [nI_ltP (by omega) (by omega)]; omega), if_pos (by rw [nI_ltP (by omega) (by omega)]; exact h)⟩
  · exact ⟨q, p, by omega, Or.inl rfl, if_pos (by rw [nI_ltP (by omega) (by omega)]; omega), if_neg (by rw [nI_ltP (by omega) (by omega)]; exact h)⟩
theorem nX12_merges {σ t : St} (hG : GM σ t) {a b c : Int32} : Ok (FX12_merges a b c t) (fun r u => GM σ u ∧ True) := by
  unfold FX12_merges FX12_areTwo
  refine Ok.bd (fun v u => t = u ∧ (v = 0 ∨ ((IsR 3 a ∧ IsR 9 b ∧ PtIn t a b) ∧ (IsR 3 a ∧ IsR 9 c ∧ PtIn t a c) ∧ ¬ b = c))) ?_ ?_
  · refine Ok.bd _ (rX12_isPoint hG.tt) ?_
    rintro v _ ⟨rfl, -, hv⟩
    refine Ok.ite (fun _ => Ok.ret ⟨rfl, Or.inl rfl⟩) (fun c1 => ?_)
    refine Ok.bd _ (rX12_isPoint hG.tt) ?_
    rintro w _ ⟨rfl, -, hw⟩
    refine Ok.ite (fun _ => Ok.ret ⟨rfl, Or.inl rfl⟩) (fun c2 => ?_)
    exact Ok.ite (fun _ => Ok.ret ⟨rfl, Or.inl rfl⟩) (fun c3 => Ok.ret ⟨rfl, Or.inr ⟨hv.resolve_left c1, hw.resolve_left c2, c3⟩⟩)
  rintro v _ ⟨rfl, hv⟩
  refine Ok.ite (fun _ => Ok.ret ⟨hG, True.intro⟩) (fun c1 => ?_)
  obtain ⟨h1, h2, hne⟩ := hv.resolve_left c1
  clear hv c1
  obtain ⟨s, n, p, hs, rfl, en, hn, hp, rfl⟩ := ptx hG.tt h1
  obtain ⟨q, hq, rfl⟩ := two_pt (c := 0) hG.tt rfl hs en hn h2.2.2 h2.2.1
  clear h1 h2
  refine Ok.bd _ (rX12_weight hG.tt ⟨s, hs, rfl⟩ ⟨p, by omega, rfl⟩ ⟨q, by omega, rfl⟩) ?_
  rintro v5 _ ⟨rfl, -⟩
  refine Ok.ite (fun _ => Ok.ret ⟨hG, True.intro⟩) (fun _ => ?_)
  refine Ok.bd _ (xX12_points hG.tt hs) ?_
  rintro _ _ ⟨rfl, rfl⟩
  rw [en]
  obtain ⟨lo, hi, hlo, hhi', e1, e2⟩ := mnmx (p := p) (q := q) (by omega) (by omega) hne
  have hhi : hi < n := by omega
  rw [e1, e2]
  refine Ok.bd _ xX12_remembers ?_
  rintro _ _ rfl
  have g13 := hG.rem
  have z13 : stp t 151 (fun k => if k < 273 then t 150 k else t 151 k) 150 = t 150 := stp_off (by decide)
  generalize stp t 151 (fun k => if k < 273 then t 150 k else t 151 k) = t13 at g13 z13
  refine Ok.bd (fun _ u => GM σ u ∧ u 150 = t 150) ?_ ?_
  · refine Ok.loop (fun k c u => (GM σ u ∧ u 150 = t 150) ∧ ∃ j, c = nI j ∧ j ≤ 81 ∧ k = 81 - j) ?_ 81 _ _ ⟨⟨g13, z13⟩, 0, rfl, by omega, rfl⟩
    intro k c u hI
    obtain ⟨⟨gu, u0⟩, j, rfl, hj, rfl⟩ := hI
    unfold SX12_merges_54
    refine Ok.ite (fun _ => Ok.ret ⟨gu, u0⟩) (fun c2 => ?_)
    rw [show (81 : Int32) = nI 81 from rfl, nI_leP (by omega) (by omega)] at c2
    refine Ok.ck (inb_n (by omega) (by omega)) (fun _ => Ok.wr (fun w ew => ?_))
    rw [nI_cl (by omega)] at ew
    exact Ok.ret ⟨81 - (j + 1), by omega, ⟨gu.wrT ew (by omega) (ty_a161 (by omega)) ⟨0, by omega, rfl⟩, by rw [wo ew (by decide)]; exact u0⟩, j + 1, nI_1 j, by omega, rfl⟩
  clear g13 z13 t13
  rintro _ t20 ⟨g20, z20⟩
  refine Ok.bd (fun _ u => GM σ u ∧ u 150 = t 150) ?_ ?_
  · refine Ok.loop (fun k c u => (GM σ u ∧ u 150 = t 150) ∧ ∃ j, c = nI j ∧ j ≤ n ∧ k = n - j) ?_ n _ _ ⟨⟨g20, z20⟩, 0, rfl, by omega, rfl⟩
    clear g20 z20
    intro k c u hI
    obtain ⟨⟨gu, u0⟩, j, rfl, hj, rfl⟩ := hI
    unfold SX12_merges_78
    refine Ok.ite (fun _ => Ok.ret ⟨gu, u0⟩) (fun c2 => ?_)
    rw [nI_leP (by omega) (by omega)] at c2
    refine Ok.bd (fun _ u => GM σ u ∧ u 150 = t 150) ?_ (fun _ w h => Ok.ret ⟨n - (j + 1), by omega, h, j + 1, nI_1 j, by omega, rfl⟩)
    refine Ok.loop (fun k c u => (GM σ u ∧ u 150 = t 150) ∧ ∃ j, c = nI j ∧ j ≤ n ∧ k = n - j) ?_ n _ _ ⟨⟨gu, u0⟩, 0, rfl, by omega, rfl⟩
    clear gu u0
    intro k c u hI
    obtain ⟨⟨gu, u0⟩, i, rfl, hi', rfl⟩ := hI
    unfold SX12_merges_88
    refine Ok.ite (fun _ => Ok.ret ⟨gu, u0⟩) (fun c3 => ?_)
    rw [nI_leP (by omega) (by omega)] at c3
    refine Ok.bd _ (ren (w := 0) hlo hhi hn (by omega)) ?_
    rintro _ _ ⟨rfl, x, hx, rfl⟩
    refine Ok.bd _ (ren (w := 0) hlo hhi hn (by omega)) ?_
    rintro _ _ ⟨rfl, y, hy, rfl⟩
    rw [idx9]
    refine Ok.bd (fun v w => u = w ∧ IsR 10 v) ?_ ?_
    · refine Ok.ite (fun _ => Ok.ret ⟨rfl, 0, by omega, rfl⟩) (fun _ => ?_)
      refine Ok.ck (inb_n (by omega) (by omega)) (fun _ => Ok.rdT gu.tt (ty_a161 (by rw [nI_cl (by omega)]; omega)) (by omega) (fun m hm em => ?_))
      refine Ok.bd _ (rX12_weight gu.tt ⟨s, hs, rfl⟩ ⟨j, by omega, rfl⟩ ⟨i, by omega, rfl⟩) ?_
      rintro _ _ ⟨rfl, m2, hm2, rfl⟩
      exact Ok.ret ⟨rfl, mn_10 hm hm2⟩
    rintro v36 _ ⟨rfl, h36⟩
    refine Ok.ck (inb_n (by omega) (by omega)) (fun _ => Ok.wr (fun w ew => ?_))
    rw [nI_cl (by omega)] at ew
    exact Ok.ret ⟨n - (i + 1), by omega, ⟨gu.wrT ew (by omega) (ty_a161 (by omega)) h36, by rw [wo ew (by decide)]; exact u0⟩, i + 1, nI_1 i, by omega, rfl⟩
  clear g20 z20
  rintro _ t56 ⟨g56, z56⟩
  refine Ok.bd (fun _ u => GM σ u ∧ u 150 = t 150 ∧ PM (n - 1) (u 154)) ?_ ?_
  · refine Ok.loop (fun k c u => (GM σ u ∧ u 150 = t 150) ∧ ∃ m i, c = (nI m, nI i) ∧ m ≤ i ∧ i ≤ n ∧ k = n - i ∧ (m < i ∨ ∀ k, k < i → ¬ t 150 (91 * s + 82 + k) = nI hi) ∧ ∀ k r, k < i → r < n → t 150 (91 * s + 82 + k) = nI r → r ≠ hi → ∃ k', k' < m ∧ u 154 k' = nI (if r ≤ hi then r else r - 1)) ?_ n _ _ ⟨⟨g56, z56⟩, 0, 0, rfl, by omega, by omega, rfl, Or.inr (fun k hk => absurd hk (by omega)), fun k r hk => absurd hk (by omega)⟩
    clear g56 z56
    intro k c u hI
    obtain ⟨⟨gu, u0⟩, m, i, rfl, hmi, hi', rfl, hA, hB⟩ := hI
    unfold SX12_merges_223
    dsimp only
    refine Ok.ite (fun c2 => Ok.ret ⟨gu, u0, fun p' hp' => ?_⟩) (fun c2 => ?_)
    · rw [nI_leP (by omega) (by omega)] at c2
      obtain ⟨i0, hi0, ei0⟩ := hG.pe s hs n en hn hi hhi
      have hm := hA.resolve_right (fun h => h i0 (by omega) ei0)
      by_cases q1 : p' < hi
      · obtain ⟨k, hk, ek⟩ := hG.pe s hs n en hn p' (by omega)
        obtain ⟨k', hk', ek'⟩ := hB k p' (by omega) (by omega) ek (by omega)
        rw [if_pos (by omega)] at ek'
        exact ⟨k', by omega, ek'⟩
      · obtain ⟨k, hk, ek⟩ := hG.pe s hs n en hn (p' + 1) (by omega)
        obtain ⟨k', hk', ek'⟩ := hB k (p' + 1) (by omega) (by omega) ek (by omega)
        rw [if_neg (by omega)] at ek'
        exact ⟨k', by omega, ek'⟩
    rw [nI_leP (by omega) (by omega)] at c2
    refine Ok.bd _ (xX12_at gu.tt hs (i := i) (by omega)) ?_
    rintro _ _ ⟨rfl, rfl⟩
    rw [u0]
    obtain ⟨r, hr, er⟩ := hG.tt.rd (ty_o (s := s) (i := i) hs (by omega)) (by omega)
    rw [er]
    refine Ok.bd (fun v w => (GM σ w ∧ w 150 = t 150) ∧ ∃ m', v = nI m' ∧ m' ≤ i + 1 ∧ m ≤ m' ∧ ((m' = m ∧ r = hi ∧ w = u) ∨ (m' = m + 1 ∧ r ≠ hi ∧ w 154 m = nI (if r ≤ hi then r else r - 1) ∧ ∀ k, k < m → w 154 k = u 154 k))) ?_ ?_
    · refine Ok.ite (fun c3 => Ok.ret ⟨⟨gu, u0⟩, m, rfl, by omega, by omega, Or.inl ⟨rfl, nI_inj c3 (by omega) (by omega), rfl⟩⟩) (fun c3 => ?_)
      have hrh : r ≠ hi := fun e => c3 (by rw [e])
      refine Ok.bd (fun v w => u = w ∧ v = nI (if r ≤ hi then r else r - 1)) ?_ ?_
      · refine Ok.ite (fun c4 => Ok.ret ⟨rfl, ?_⟩) (fun c4 => Ok.ret ⟨rfl, ?_⟩)
        · rw [nI_leP (by omega) (by omega)] at c4
          rw [if_pos c4]
        · rw [nI_leP (by omega) (by omega)] at c4
          rw [if_neg c4, li_1, nI_sub (by omega)]
      rintro _ _ ⟨rfl, rfl⟩
      refine Ok.ck (inb_n (by omega) (by omega)) (fun _ => Ok.wr (fun w ew => ?_))
      rw [nI_cl (by omega)] at ew
      refine Ok.ret ⟨⟨gu.wrT ew (by omega) (ty_a154 (by omega)) ⟨_, by split <;> omega, rfl⟩, by rw [wo ew (by decide)]; exact u0⟩, m + 1, nI_1 m, by omega, by omega, Or.inr ⟨rfl, hrh, by rw [ew, wr_at, pk_us], fun k hk => by rw [ew, wr_at, pk_un (by omega)]⟩⟩
    · rintro _ w ⟨hF, m', rfl, h1, h2, h3⟩
      refine Ok.ret ⟨n - (i + 1), by omega, hF, m', i + 1, by rw [nI_1], h1, by omega, rfl, ?_, fun k r' hk hr' ek hne' => ?_⟩
      · rcases h3 with ⟨h4, h5, -⟩ | ⟨h4, h5, -⟩
        · exact Or.inl (by omega)
        · rcases hA with h | h
          · exact Or.inl (by omega)
          · refine Or.inr (fun k hk => ?_)
            by_cases e : k = i
            · rw [e, er]
              exact fun q => h5 (nI_inj q (by omega) (by omega))
            · exact h k (by omega)
      · by_cases e : k = i
        · subst e
          have := nI_inj (er.symm.trans ek) (by omega) (by omega)
          subst this
          rcases h3 with ⟨-, h5, -⟩ | ⟨h4, -, h6, -⟩
          · exact absurd h5 hne'
          · exact ⟨m, by omega, h6⟩
        · obtain ⟨k', hk', ek'⟩ := hB k r' (by omega) hr' ek hne'
          rcases h3 with ⟨-, -, h5⟩ | ⟨h4, -, -, h6⟩
          · exact ⟨k', by omega, by rw [h5]; exact ek'⟩
          · exact ⟨k', by omega, by rw [h6 k' hk']; exact ek'⟩
  clear g56 z56
  rintro _ t77 ⟨g77, z77, hP⟩
  refine Ok.bd _ (xX12_empties hs) ?_
  rintro _ _ rfl
  have e91 : (91 : Int32) * nI s = nI (91 * s) := by rw [li_91, nI_mul]
  have en1 : nI n - 1 = nI (n - 1) := by rw [li_1, nI_sub (by omega)]
  rw [e91, en1]
  refine Ok.ck (inb_n (by omega) (by omega)) (fun _ => Ok.wr (fun t84 e84 => ?_))
  rw [nI_cl (by omega), wr_stp] at e84
  refine Ok.bd (fun _ u => u = stp t77 150 (mgT (t77 150) s (n - 1) 81 (t77 161))) ?_ ?_
  · refine Ok.loop (fun k c u => ∃ j, c = nI j ∧ j ≤ 81 ∧ k = 81 - j ∧ u = stp t77 150 (mgT (t77 150) s (n - 1) j (t77 161))) ?_ 81 _ _ ⟨0, rfl, by omega, rfl, ?_⟩
    · intro k c u hI
      obtain ⟨j, rfl, hj, rfl, rfl⟩ := hI
      unfold SX12_merges_299
      refine Ok.ite (fun c2 => Ok.ret ?_) (fun c2 => ?_)
      · rw [show (81 : Int32) = nI 81 from rfl, nI_leP (by omega) (by omega)] at c2
        rw [show j = 81 by omega]
        rfl
      rw [show (81 : Int32) = nI 81 from rfl, nI_leP (by omega) (by omega)] at c2
      refine Ok.ck (inb_n (by omega) (by omega)) (fun _ => Ok.rd (fun v hv => ?_))
      rw [nI_cl (by omega), stp_off (by decide)] at hv
      have ei : (91 : Int32) * nI s + 1 + nI j = nI (91 * s + 1 + j) := by rw [e91, nI_1, nI_add]
      rw [ei]
      refine Ok.ck (inb_n (by omega) (by omega)) (fun _ => Ok.wr (fun w ew => ?_))
      rw [nI_cl (by omega), wr_stp] at ew
      refine Ok.ret ⟨81 - (j + 1), by omega, j + 1, nI_1 j, by omega, rfl, ?_⟩
      rw [ew]
      congr 1
      funext q'
      unfold mgT
      by_cases e : q' = 91 * s + 1 + j
      · subst e
        rw [pk_us, if_pos (by omega), Nat.add_sub_cancel_left]
        exact hv
      · rw [pk_un e]
        by_cases q1 : 91 * s + 1 ≤ q' ∧ q' < 91 * s + 1 + j
        · rw [if_pos q1, if_pos (by omega)]
        · rw [if_neg q1, if_neg (by omega)]
    · rw [e84]
      congr 1
      funext q'
      unfold mgT
      rw [if_neg (by omega)]
  rintro _ _ rfl
  refine Ok.bd (fun _ u => u = stp t77 150 (rwst (mgT (t77 150) s (n - 1) 81 (t77 161)) s (n - 1) (t77 154))) ?_ ?_
  · refine Ok.loop (fun k c u => ∃ j, c = nI j ∧ j ≤ n - 1 ∧ k = n - 1 - j ∧ u = stp t77 150 (rwst (mgT (t77 150) s (n - 1) 81 (t77 161)) s j (t77 154))) ?_ (n - 1) _ _ ⟨0, rfl, by omega, rfl, ?_⟩
    · intro k c u hI
      obtain ⟨j, rfl, hj, rfl, rfl⟩ := hI
      unfold SX12_merges_336
      rw [en1]
      refine Ok.ite (fun c2 => Ok.ret ?_) (fun c2 => ?_)
      · rw [nI_leP (by omega) (by omega)] at c2
        rw [show j = n - 1 by omega]
        rfl
      rw [nI_leP (by omega) (by omega)] at c2
      refine Ok.ck (inb_n (by omega) (by omega)) (fun _ => Ok.rd (fun v hv => ?_))
      rw [nI_cl (by omega), stp_off (by decide)] at hv
      refine Ok.bd _ (xX12_puts hs (i := j) (by omega)) ?_
      rintro _ _ rfl
      refine Ok.ret ⟨n - 1 - (j + 1), by omega, j + 1, nI_1 j, by omega, rfl, ?_⟩
      rw [wr_stp]
      congr 1
      funext q'
      unfold rwst
      by_cases e : q' = 91 * s + 82 + j
      · subst e
        rw [pk_us, if_pos (by omega), Nat.add_sub_cancel_left]
        exact hv
      · rw [pk_un e]
        by_cases q1 : 91 * s + 82 ≤ q' ∧ q' < 91 * s + 82 + j
        · rw [if_pos q1, if_pos (by omega)]
        · rw [if_neg q1, if_neg (by omega)]
    · congr 1
      funext q'
      unfold rwst
      rw [if_neg (by omega)]
  rintro _ _ rfl
  have gf := g77.mg (s := s) (n := n - 1) (tab := t77 161) (ord := t77 154) hs (by omega) (fun k hk => g77.tt.rd (ty_a161 hk) (by omega)) (fun k hk => g77.tt.rd (ty_a154 (by omega)) (by omega)) hP
  refine Ok.bd _ (nX12_keeps gf) ?_
  rintro r u ⟨hu, -⟩
  exact Ok.ret ⟨hu, True.intro⟩
