/-! the reference's acts; undo -/
def MST (K : Nat → Nat → V4) (m : Nat) (t : St) : Prop := t 149 3 = nI m ∧ RA 150 0 (K m) t ∧ ∀ j, j < m → RA 152 (273 * j) (K j) t
theorem MST.fr {K : Nat → Nat → V4} {m : Nat} {t u : St} (h : MST K m t) (e3 : u 149 3 = t 149 3) (e0 : u 150 = t 150) (e2 : u 152 = t 152) : MST K m u := by
  unfold MST RA
  rw [e3, e0, e2]
  exact h
theorem m_remembers {t : St} : Ok (FX12_remembers t) (fun _ u => (∀ c, c ≠ 151 → u c = t c) ∧ ∀ k, k < 273 → u 151 k = t 150 k) := by
  unfold FX12_remembers
  refine Ok.bd (fun _ u => (∀ c, c ≠ 151 → u c = t c) ∧ ∀ k, k < 273 → u 151 k = t 150 k) ?_ (fun _ u hu => Ok.ret hu)
  refine Ok.count 273 (fun j c s => c = nI j ∧ (∀ c, c ≠ 151 → s c = t c) ∧ ∀ k, k < j → s 151 k = t 150 k) ?_ ?_ (Nat.zero_le _) ⟨rfl, fun _ _ => rfl, fun k hk => by omega⟩
  · rintro j c s hj ⟨rfl, sf, s1⟩
    unfold SX12_remembers_2
    refine Ok.ifF (by rw [li_273, nI_leP (by omega) (by omega)]; omega) (Ok.ckT (inb_n hj (by omega)) ?_)
    rw [nI_cl (by omega)]
    refine Ok.rdE (x := t 150 j) (by rw [sf 150 (by decide)]) (Ok.ckT (inb_n hj (by omega)) (OkwrE (Ok.ret ⟨nI_1 j, fun c hc => by rw [wr_off c hc]; exact sf c hc, fun k hk => ?_⟩)))
    by_cases e : k = j
    · subst e; rw [wrs]
    · rw [wrn e]; exact s1 k (by omega)
  · rintro c s ⟨rfl, sf, s1⟩
    unfold SX12_remembers_2
    exact Ok.ifT (by rw [li_273, nI_leP (by omega) (by omega)]; omega) (Ok.ret ⟨sf, s1⟩)
theorem m_keeps {K : Nat → Nat → V4} {m : Nat} {A : Nat → V4} {t : St} {a : Int32} (hm : m ≤ 10) (e3 : t 149 3 = nI m) (h151 : RA 151 0 (K m) t) (hk : ∀ j, j < m → RA 152 (273 * j) (K j) t) : Ok (FX12_keeps a t) (fun r u => r = a ∧ u 149 3 = nI (mpu m) ∧ (∀ j, j < mpu m → RA 152 (273 * j) (kpu K m A j) u) ∧ (∀ c, c ≠ 149 → c ≠ 152 → u c = t c) ∧ ∀ i, i ≠ 3 → u 149 i = t 149 i) := by
  have m1 : mpu m ≤ 10 ∧ 1 ≤ mpu m := by unfold mpu; split <;> omega
  unfold FX12_keeps
  refine Ok.rdE e3 (Ok.bd (fun _ u => u 149 3 = nI (mpu m - 1) ∧ (∀ j, j < mpu m - 1 → RA 152 (273 * j) (kpu K m A j) u) ∧ (∀ c, c ≠ 149 → c ≠ 152 → u c = t c) ∧ ∀ i, i ≠ 3 → u 149 i = t 149 i) ?_ ?_)
  · rw [li_10]
    refine Ok.cv (nI_eqP (by omega) (by omega)) (Ok.ite (fun c => ?_) (fun c => Ok.ret ⟨?_, fun j hj => ?_, fun _ _ _ => rfl, fun _ _ => rfl⟩))
    · subst c
      refine Ok.bd (fun _ u => (∀ c, c ≠ 152 → u c = t c) ∧ ∀ k, k < 2457 → u 152 k = t 152 (k + 273)) ?_ ?_
      · refine Ok.count 2457 (fun j c s => c = nI j ∧ (∀ c, c ≠ 152 → s c = t c) ∧ (∀ k, k < j → s 152 k = t 152 (k + 273)) ∧ ∀ k, j ≤ k → s 152 k = t 152 k) ?_ ?_ (Nat.zero_le _) ⟨rfl, fun _ _ => rfl, fun k hk => by omega, fun _ _ => rfl⟩
        · rintro j c s hj ⟨rfl, sf, s1, s2⟩
          unfold SX12_keeps_11
          rw [li_273, nI_add]
          refine Ok.ifF (by rw [li_2457, nI_leP (by omega) (by omega)]; omega) (Ok.ckT (inb_n (by omega) (by omega)) ?_)
          rw [nI_cl (by omega), nI_cl (by omega)]
          refine Ok.rdE (x := t 152 (j + 273)) (s2 _ (by omega)) (Ok.ckT (inb_n (by omega) (by omega)) (OkwrE (Ok.ret ⟨nI_1 j, fun c hc => by rw [wr_off c hc]; exact sf c hc, fun k hk => ?_, fun k hk => ?_⟩)))
          · by_cases e : k = j
            · subst e; rw [wrs]
            · rw [wrn e]; exact s1 k (by omega)
          · rw [wrn (by omega)]; exact s2 k (by omega)
        · rintro c s ⟨rfl, sf, s1, s2⟩
          unfold SX12_keeps_11
          exact Ok.ifT (by rw [li_2457, nI_leP (by omega) (by omega)]; omega) (Ok.ret ⟨sf, s1⟩)
      · rintro _ u ⟨uf, u1⟩
        refine Ok.rdE (x := nI 10) (by rw [uf 149 (by decide)]; exact e3) (OkwrE (Ok.ret ⟨?_, fun j hj => ?_, fun c k1 k2 => by rw [wr_off c k1]; exact uf c k2, fun i hi => by rw [wrn hi, uf 149 (by decide)]⟩))
        · rw [wrs, li_1, nI_sub (by omega)]
          rfl
        · have hj : j < 9 := hj
          intro k hk'
          rw [wrf (by decide), u1 _ (by omega)]
          unfold kpu
          rw [if_pos rfl, if_pos (by omega)]
          have := hk (j + 1) (by omega) k hk'
          rw [show 273 * (j + 1) + k = 273 * j + k + 273 by omega] at this
          exact this
    · have : mpu m = m + 1 := if_neg c
      rw [this, Nat.add_sub_cancel]
      exact e3
    · have : mpu m = m + 1 := if_neg c
      rw [this] at hj
      unfold kpu
      rw [if_neg c, if_pos (by omega)]
      exact hk j (by omega)
  · rintro _ t1 ⟨g3, gk, gf, g149⟩
    generalize hq : mpu m - 1 = q at g3 gk
    have hq9 : q < 10 := by omega
    refine Ok.bd (fun _ u => (∀ c, c ≠ 152 → u c = t1 c) ∧ (∀ k, k < 273 → u 152 (273 * q + k) = t1 151 k) ∧ ∀ k, k < 273 * q → u 152 k = t1 152 k) ?_ ?_
    · refine Ok.count 273 (fun j c s => c = nI j ∧ (∀ c, c ≠ 152 → s c = t1 c) ∧ (∀ k, k < j → s 152 (273 * q + k) = t1 151 k) ∧ ∀ k, k < 273 * q → s 152 k = t1 152 k) ?_ ?_ (Nat.zero_le _) ⟨rfl, fun _ _ => rfl, fun k hk => by omega, fun _ _ => rfl⟩
      · rintro j c s hj ⟨rfl, sf, s1, s2⟩
        unfold SX12_keeps_52
        refine Ok.ifF (by rw [li_273, nI_leP (by omega) (by omega)]; omega) (Ok.rdE (x := nI q) (by rw [sf 149 (by decide)]; exact g3) (Ok.ckT (inb_n hj (by omega)) ?_))
        rw [nI_cl (by omega), li_273, nI_mul, nI_add]
        refine Ok.rdE (x := t1 151 j) (by rw [sf 151 (by decide)]) (Ok.ckT (inb_n (by omega) (by omega)) ?_)
        rw [nI_cl (by omega)]
        refine OkwrE (Ok.ret ⟨nI_1 j, fun c hc => by rw [wr_off c hc]; exact sf c hc, fun k hk => ?_, fun k hk => ?_⟩)
        · by_cases e : k = j
          · subst e; rw [wrs]
          · rw [wrn (by omega)]; exact s1 k (by omega)
        · rw [wrn (by omega)]; exact s2 k hk
      · rintro c s ⟨rfl, sf, s1, s2⟩
        unfold SX12_keeps_52
        exact Ok.ifT (by rw [li_273, nI_leP (by omega) (by omega)]; omega) (Ok.ret ⟨sf, s1, s2⟩)
    · rintro _ u ⟨uf, u1, u2⟩
      refine Ok.rdE (x := nI q) (by rw [uf 149 (by decide)]; exact g3) (OkwrE (Ok.ret ⟨rfl, ?_, fun j hj => ?_, fun c k1 k2 => by rw [wr_off c k1, uf c k2]; exact gf c k1 k2, fun i hi => by rw [wrn hi, uf 149 (by decide)]; exact g149 i hi⟩))
      · rw [wrs, nI_1]
        congr 1
        omega
      · intro k hk'
        rw [wrf (by decide)]
        by_cases e : j = q
        · subst e
          rw [u1 k hk', gf 151 (by decide) (by decide)]
          have h5 := h151 k hk'
          rw [Nat.zero_add] at h5
          rw [h5]
          unfold kpu
          unfold mpu at hq
          by_cases c : m = 10
          · rw [if_pos c] at hq ⊢
            rw [if_pos (by omega), show j + 1 = m by omega]
          · rw [if_neg c] at hq ⊢
            rw [if_pos (by omega), show j = m by omega]
        · rw [u2 _ (by omega)]
          exact gk j (by omega) k hk'
theorem m_done {K K' : Nat → Nat → V4} {m m' s : Nat} {v : V4} {t : St} {a : Int32} (hG : GK K m) (hs : s < 3) (hv : GV v) (hN : NXT K m s v K' m') (e3 : t 149 3 = nI m) (h151 : RA 151 0 (K m) t) (h150 : RA 150 0 (upA (K m) s v) t) (hk : ∀ j, j < m → RA 152 (273 * j) (K j) t) : Ok (FX12_done a t) (fun r u => r = a ∧ MST K' m' u ∧ (∀ c, c ≠ 149 → c ≠ 152 → u c = t c) ∧ ∀ i, i ≠ 3 → u 149 i = t 149 i) := by
  have hm := hG.1
  have hgs := hG.2 m (Nat.le_refl _) s hs
  unfold FX12_done
  refine Ok.bd (fun e u => Sum.elim (fun r => r = a ∧ MST K' m' u ∧ (∀ c, c ≠ 149 → c ≠ 152 → u c = t c) ∧ ∀ i, i ≠ 3 → u 149 i = t 149 i) (fun _ => t = u ∧ v = K m s) e) ?_ ?_
  · refine Ok.count 273 (fun j c s' => c = nI j ∧ t = s' ∧ ∀ k, k < j → t 151 k = t 150 k) ?_ ?_ (Nat.zero_le _) ⟨rfl, rfl, fun k hk => by omega⟩
    · rintro j c s' hj ⟨rfl, rfl, hI⟩
      unfold SX12_done_2
      refine Ok.ifF (by rw [li_273, nI_leP (by omega) (by omega)]; omega) (Ok.ckT (inb_n hj (by omega)) ?_)
      rw [nI_cl (by omega)]
      refine Ok.rdE rfl (Ok.ckT (inb_n hj (by omega)) (Ok.rdE rfl (Ok.ite (fun c => Ok.ret ⟨nI_1 j, rfl, fun k hk => ?_⟩) (fun c => Ok.bd _ (m_keeps (A := upA (K m) s v) hm e3 h151 hk) ?_))))
      · by_cases e : k = j
        · rw [e]; exact c
        · exact hI k (by omega)
      · rintro _ u ⟨rfl, u1, u2, u3, u4⟩
        refine Ok.ret ⟨rfl, ?_, u3, u4⟩
        have hne : v ≠ K m s := fun q => c (by
          have a1 := h151 j hj
          have a2 := h150 j hj
          rw [q, upA_self] at a2
          rw [Nat.zero_add] at a1 a2
          rw [a1, a2])
        rcases hN with ⟨q, -⟩ | ⟨-, rfl, rfl⟩
        · exact absurd q hne
        · refine ⟨u1, ?_, u2⟩
          rw [kpu_cur]
          exact h150.fr (fun k _ => by rw [u3 150 (by decide) (by decide)])
    · rintro c s' ⟨rfl, rfl, hI⟩
      unfold SX12_done_2
      refine Ok.ifT (by rw [li_273, nI_leP (by omega) (by omega)]; omega) (Ok.ret ⟨rfl, (enc_inj hgs hv (fun k hk => ?_)).symm⟩)
      have a1 := h151 (91 * s + k) (by omega)
      have a2 := h150 (91 * s + k) (by omega)
      rw [show (91 * s + k) / 91 = s by omega, show (91 * s + k) % 91 = k by omega, Nat.zero_add] at a1 a2
      rw [upA_s] at a2
      have a3 := hI (91 * s + k) (by omega)
      rw [a1, a2] at a3
      have b1 := enc_lt hgs k
      have b2 := enc_lt hv k
      exact nI_inj a3 (by omega) (by omega)
  · rintro (e | e) u he
    · exact Ok.ret he
    · obtain ⟨rfl, q⟩ := he
      refine Ok.ret ⟨rfl, ?_, fun _ _ _ => rfl, fun _ _ => rfl⟩
      rcases hN with ⟨-, rfl, rfl⟩ | ⟨q2, -⟩
      · rw [q, upA_self] at h150
        exact ⟨e3, h150, hk⟩
      · exact absurd q q2
/-- the row becomes the one that is laid -/
theorem m_takesRow {K K' : Nat → Nat → V4} {m m' s : Nat} {o' : Nat → Nat} {t : St} (hG : GK K m) (hs : s < 3) (hM : MST K m t) (hv : GV ((K m s).1, (K m s).2.1, (K m s).2.2.1, o')) (hN : NXT K m s ((K m s).1, (K m s).2.1, (K m s).2.2.1, o') K' m') (hO : MO (K m s).1 o' t) : Ok (FX12_takesRow (nI s) t) (fun r u => r = nI (dfo (K m s).1 (K m s).2.2.2 o') ∧ MST K' m' u ∧ (∀ c, c ≠ 149 → c ≠ 150 → c ≠ 151 → c ≠ 152 → u c = t c) ∧ ∀ i, i ≠ 3 → u 149 i = t 149 i) := by
  have hgs := hG.2 m (Nat.le_refl _) s hs
  obtain ⟨e3, h150, hk⟩ := hM
  have hN0 := h150.rn hs
  have hR0 := h150.ro hs hgs
  generalize hA : K m s = A at hgs hN0 hR0 hv hN hO ⊢
  obtain ⟨n, l, w, o⟩ := A
  have hn : n < 10 := hgs.1.1
  dsimp only at hN0 hR0 hv hN hO ⊢
  unfold FX12_takesRow
  refine Ok.bq (a := nI (dfo n o o')) (t := t) (wq n (fun j => (nI (dfo j o o'), nI j)) (fun j hj => ?_) ?_) ?_
  · unfold SX12_takesRow_4
    dsimp only
    have b1 := hgs.o9 j
    have b2 := hv.o9 j
    dsimp only at b1 b2
    refine Ok.bq (q_points hN0 hs) (Ok.ifF (by rw [nI_leP (by omega) (by omega)]; omega) (Ok.bq (q_at hR0 hs hn hj) (Ok.ckT (inb_n (by omega) (by omega)) ?_)))
    rw [nI_cl (by omega)]
    refine Ok.rdE (hO j hj) (Ok.bq (a := nI (if o j = o' j then 0 else 1)) (t := t) (Ok.eq (Ok.cv (nI_eqP (by omega) (by omega)) (Ok.ite (fun c => Ok.ret ⟨rfl, by rw [if_pos c]; rfl⟩) (fun c => Ok.ret ⟨rfl, by rw [if_neg c]; rfl⟩)))) (Ok.ret ⟨rfl, ?_⟩))
    rw [nI_add, nI_1]
    rfl
  · unfold SX12_takesRow_4
    dsimp only
    exact Ok.bq (q_points hN0 hs) (Ok.ifT (by rw [nI_leP (by omega) (by omega)]; omega) (Ok.ret ⟨rfl, rfl⟩))
  refine Ok.bd _ m_remembers ?_
  rintro _ t1 ⟨f1, w1⟩
  refine Ok.bd (fun _ u => (∀ c, c ≠ 150 → u c = t1 c) ∧ (∀ i, i < n → u 150 (91 * s + 82 + i) = nI (o' i)) ∧ ∀ k, (k < 91 * s + 82 ∨ 91 * s + 82 + n ≤ k) → u 150 k = t1 150 k) ?_ ?_
  · refine Ok.count n (fun j c s' => c = nI j ∧ (∀ c, c ≠ 150 → s' c = t1 c) ∧ (∀ i, i < j → s' 150 (91 * s + 82 + i) = nI (o' i)) ∧ ∀ k, (k < 91 * s + 82 ∨ 91 * s + 82 + n ≤ k) → s' 150 k = t1 150 k) ?_ ?_ (Nat.zero_le _) ⟨rfl, fun _ _ => rfl, fun i hi => by omega, fun _ _ => rfl⟩
    · rintro j c s' hj ⟨rfl, sf, s1, s2⟩
      unfold SX12_takesRow_48
      have hp : s' 150 (91 * s) = nI n := by rw [s2 _ (by omega), f1 150 (by decide)]; exact hN0.1
      refine Ok.bq (a := nI n) (t := s') (Ok.eq ?_) (Ok.ifF (by rw [nI_leP (by omega) (by omega)]; omega) (Ok.ckT (inb_n (by omega) (by omega)) ?_))
      · unfold FX12_points
        rw [li_91, nI_mul]
        refine Ok.ckT (inb_n (by omega) (by omega)) ?_
        rw [nI_cl (by omega)]
        exact Ok.rdE hp (Ok.ret ⟨rfl, rfl⟩)
      · rw [nI_cl (by omega)]
        refine Ok.rdE (x := nI (o' j)) (by rw [sf 154 (by decide), f1 154 (by decide)]; exact hO j hj) (Ok.bd _ (m_puts (Q := fun _ u => u = wr s' 150 (91 * s + 82 + j) (nI (o' j))) hs (by omega) rfl) ?_)
        rintro _ _ rfl
        refine Ok.ret ⟨nI_1 j, fun c hc => by rw [wr_off c hc]; exact sf c hc, fun i hi => ?_, fun k hk => by rw [wrn (by omega)]; exact s2 k hk⟩
        by_cases e : i = j
        · subst e; rw [wrs]
        · rw [wrn (by omega)]; exact s1 i (by omega)
    · rintro c s' ⟨rfl, sf, s1, s2⟩
      unfold SX12_takesRow_48
      have hp : s' 150 (91 * s) = nI n := by rw [s2 _ (by omega), f1 150 (by decide)]; exact hN0.1
      refine Ok.bq (a := nI n) (t := s') (Ok.eq ?_) (Ok.ifT (by rw [nI_leP (by omega) (by omega)]; omega) (Ok.ret ⟨sf, s1, s2⟩))
      unfold FX12_points
      rw [li_91, nI_mul]
      refine Ok.ckT (inb_n (by omega) (by omega)) ?_
      rw [nI_cl (by omega)]
      exact Ok.rdE hp (Ok.ret ⟨rfl, rfl⟩)
  · rintro _ t2 ⟨f2, p1, p2⟩
    have hup : RA 150 0 (upA (K m) s (n, l, w, o')) t2 := by
      refine h150.up hs (v := (n, l, w, o')) ⟨?_, fun a b ha hb => ?_⟩ (fun i hi => ?_) hv (fun j hj => ?_)
      · rw [p2 _ (by omega), f1 150 (by decide)]; exact hN0.1
      · rw [p2 _ (by omega), f1 150 (by decide)]; exact hN0.2 a b ha hb
      · by_cases c : i < n
        · rw [if_pos c]; exact p1 i c
        · rw [if_neg c, p2 _ (by omega), f1 150 (by decide)]
          have := hR0 i hi
          rw [if_neg c] at this
          exact this
      · rw [p2 _ (by omega), f1 150 (by decide)]
    refine Ok.bd _ (m_done (a := nI (dfo n o o')) hG hs hv hN (by rw [f2 149 (by decide), f1 149 (by decide)]; exact e3) (fun k hk' => ?_) hup (fun j hj => (hk j hj).fr (fun k _ => by rw [f2 152 (by decide), f1 152 (by decide)]))) ?_
    · rw [f2 151 (by decide), Nat.zero_add, w1 k hk']
      have := h150 k hk'
      rw [Nat.zero_add] at this
      exact this
    · rintro _ u ⟨rfl, u1, u2, u3⟩
      exact Ok.ret ⟨rfl, u1, fun c k1 k2 k3 k4 => by rw [u2 c k1 k4, f2 c k2]; exact f1 c k3, fun i hi => by rw [u3 i hi, f2 149 (by decide), f1 149 (by decide)]⟩
/-! undo -/
theorem e_undo0 {t : St} (h : t 98 0 = 0) : FX11_undo t = some (-1, t) := by
  refine Ok.eq ?_
  unfold FX11_undo
  exact Ok.rdE h (Ok.ifT rfl (Ok.ret ⟨rfl, rfl⟩))
theorem m_undo0 {t : St} (h : t 149 3 = 0) : FX12_undo t = some (-1, t) := by
  refine Ok.eq ?_
  unfold FX12_undo
  exact Ok.rdE h (Ok.ifT rfl (Ok.ret ⟨rfl, rfl⟩))
theorem e_undo {K : Nat → Nat → V4} {m : Nat} {t : St} (hG : GK K (m + 1)) (h : CST K (m + 1) t) : Ok (FX11_undo t) (fun r u => r = nI m ∧ CST K m u ∧ ∀ c, (∀ s, s < 3 → c < 12 + 24 * s ∨ 12 + 24 * s + 3 < c) → c ≠ 98 → u c = t c) := by
  obtain ⟨hc, h0, nx, hx, h1, h2⟩ := h
  have hm := hG.1
  unfold FX11_undo
  refine Ok.rdE h0 (Ok.ifF (by rw [li_0, nI_eqP (by omega) (by omega)]; omega) (Ok.bd (fun _ u => CST K m u ∧ ∀ c, (∀ s, s < 3 → c < 12 + 24 * s ∨ 12 + 24 * s + 3 < c) → c ≠ 98 → u c = t c) ?_ ?_))
  · obtain ⟨s, hs, b2, b3, b4⟩ := h2 m (by omega)
    unfold FX4_takeBack
    have ei : irem ((nI nx + (10 : Int32)) - (1 : Int32)) (10 : Int32) = nI ((nx + 9) % 10) := by
      rw [li_10, nI_add, li_1, nI_sub (by omega)]
      exact (nI_remN (by omega) (by omega) (by omega)).trans (by congr 1)
    refine Ok.rdE h1 (OkwrE ?_)
    rw [ei]
    refine Ok.rdE (x := nI (m + 1)) (by rw [wrn (by decide)]; exact h0) (OkwrE ?_)
    rw [li_1, nI_sub (by omega), Nat.add_sub_cancel]
    have y0 : wr (wr t 98 1 (nI ((nx + 9) % 10))) 98 0 (nI m) 98 0 = nI m := wrs
    have y1 : wr (wr t 98 1 (nI ((nx + 9) % 10))) 98 0 (nI m) 98 1 = nI ((nx + 9) % 10) := by rw [wrn (by decide), wrs]
    have yf : ∀ c, c ≠ 98 → wr (wr t 98 1 (nI ((nx + 9) % 10))) 98 0 (nI m) c = t c := fun c hc => by rw [wr_off c hc, wr_off c hc]
    generalize wr (wr t 98 1 (nI ((nx + 9) % 10))) 98 0 (nI m) = y at y0 y1 yf ⊢
    have ex : (nx + 10 - (m + 1) + m) % 10 = (nx + 9) % 10 := by omega
    rw [ex] at b2 b3
    have hk : (nx + 9) % 10 < 10 := by omega
    refine Ok.rdE y1 (Ok.ckT (inb_n hk (by omega)) ?_)
    rw [nI_cl (by omega)]
    refine Ok.rdE (x := nI s) (by rw [yf 99 (by decide)]; exact b2) ?_
    rw [el10 hs]
    refine Ok.ckT (inb_n hs (by omega)) (Ok.ckT (n_sl hs) (Ok.rdE y1 ?_))
    rw [el100 hk]
    refine Ok.ckT (inb_n hk (by omega)) (Ok.ckT (n_hs hk) (Ok.bd _ (e_copyFrom (n_sl hs) (n_hs hk) (by omega)) ?_))
    rintro _ u ⟨f1, a0, a1, a2, a4, a3⟩
    have hsl : CS (12 + 24 * s) (K m s) u := (b3.fr4 (u := y) (fun c c1 c2 => yf c (by omega))).cp (hG.2 m (by omega) s hs).1.1 a0 a1 a2 a4 a3
    refine Ok.ret ⟨⟨fun r hr => ?_, by rw [f1 98 (by omega)]; exact y0, (nx + 9) % 10, hk, by rw [f1 98 (by omega)]; exact y1, fun j hj => ?_⟩, fun c hc1 hc2 => ?_⟩
    · by_cases e : r = s
      · subst e; exact hsl
      · rw [← b4 r hr e]
        exact (hc r hr).fr4 (fun c c1 c2 => by rw [f1 c (by omega), yf c (by omega)])
    · obtain ⟨s', d1, d2, d3, d4⟩ := h2 j (by omega)
      rw [show (nx + 10 - (m + 1) + j) % 10 = ((nx + 9) % 10 + 10 - m + j) % 10 by omega] at d2 d3
      exact ⟨s', d1, by rw [f1 99 (by omega), yf 99 (by decide)]; exact d2, d3.fr4 (fun c c1 c2 => by rw [f1 c (by omega), yf c (by omega)]), d4⟩
    · rw [f1 c (hc1 s hs), yf c hc2]
  · rintro _ u ⟨u1, u2⟩
    exact Ok.rdE u1.2.1 (Ok.ret ⟨rfl, u1, u2⟩)
theorem m_undo {K : Nat → Nat → V4} {m : Nat} {t : St} (hm : m < 10) (h : MST K (m + 1) t) : Ok (FX12_undo t) (fun r u => r = nI m ∧ MST K m u) := by
  obtain ⟨h3, h0, hk⟩ := h
  unfold FX12_undo
  refine Ok.rdE h3 (Ok.ifF (by rw [li_0, nI_eqP (by omega) (by omega)]; omega) (Ok.rdE h3 (OkwrE ?_)))
  rw [li_1, nI_sub (by omega), Nat.add_sub_cancel]
  have y3 : wr t 149 3 (nI m) 149 3 = nI m := wrs
  have yf : ∀ c, c ≠ 149 → wr t 149 3 (nI m) c = t c := fun c hc => wr_off c hc
  generalize wr t 149 3 (nI m) = y at y3 yf ⊢
  refine Ok.bd (fun _ u => (∀ c, c ≠ 150 → u c = y c) ∧ ∀ k, k < 273 → u 150 k = y 152 (273 * m + k)) ?_ ?_
  · refine Ok.count 273 (fun j c s => c = nI j ∧ (∀ c, c ≠ 150 → s c = y c) ∧ ∀ k, k < j → s 150 k = y 152 (273 * m + k)) ?_ ?_ (Nat.zero_le _) ⟨rfl, fun _ _ => rfl, fun k hk => by omega⟩
    · rintro j c s hj ⟨rfl, sf, s1⟩
      unfold SX12_undo_21
      refine Ok.ifF (by rw [li_273, nI_leP (by omega) (by omega)]; omega) (Ok.rdE (x := nI m) (by rw [sf 149 (by decide)]; exact y3) ?_)
      rw [li_273, nI_mul, nI_add]
      refine Ok.ckT (inb_n (by omega) (by omega)) ?_
      rw [nI_cl (by omega), nI_cl (by omega)]
      refine Ok.rdE (x := y 152 (273 * m + j)) (by rw [sf 152 (by decide)]) (Ok.ckT (inb_n hj (by omega)) (OkwrE (Ok.ret ⟨nI_1 j, fun c hc => by rw [wr_off c hc]; exact sf c hc, fun k hk => ?_⟩)))
      by_cases e : k = j
      · subst e; rw [wrs]
      · rw [wrn e]; exact s1 k (by omega)
    · rintro c s ⟨rfl, sf, s1⟩
      unfold SX12_undo_21
      exact Ok.ifT (by rw [li_273, nI_leP (by omega) (by omega)]; omega) (Ok.ret ⟨sf, s1⟩)
  · rintro _ u ⟨uf, u1⟩
    refine Ok.rdE (x := nI m) (by rw [uf 149 (by decide)]; exact y3) (Ok.ret ⟨rfl, by rw [uf 149 (by decide)]; exact y3, fun k hk' => ?_, fun j hj => (hk j (by omega)).fr (fun k _ => by rw [uf 152 (by decide), yf 152 (by decide)])⟩)
    rw [Nat.zero_add, u1 k hk', yf 152 (by decide)]
    exact hk m (by omega) k hk'
