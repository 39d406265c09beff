/-! the reference's search, on -/
theorem m_rowsOfLeast {s n : Nat} {w : Nat → Nat → Nat} {t : St} (h : RN s n w t) (hs : s < 3) (hn : n < 10) {m L : Nat} (hg : ¬ Gr m) {c : Nat → Nat → Nat} {R : Nat → Nat} (hc : ∀ S p, c S p ≤ 729) (hR : ∀ S, R S ≤ 1000000) (h155 : RSA 155 n R t) (e17 : t 149 17 = nI (2 ^ n - 1)) (hA : CSA n (fun _ _ => true) c t) : Ok (FX12_rowsOfLeast (nI s) t) (fun r u => (∀ c, c ≠ 156 → u c = t c) ∧ r = nI (crw n (okc m L c R) n 0)) := by
  have h2 := Nat.two_pow_pos n
  have h3 := pow9 (k := n) (by omega)
  generalize hC : (fun S => crw n (okc m L c R) (n - cnt S n) S) = C
  have hCb : ∀ S, C S < 400000000 := fun S => by rw [← hC]; exact crw_b hn (by omega)
  unfold FX12_rowsOfLeast
  refine Ok.rdE e17 (Ok.bd (fun _ u => (∀ c, c ≠ 156 → u c = t c) ∧ RSA 156 n C u) ?_ ?_)
  · refine Ok.loop (fun k cc u => ∃ A, k = A ∧ A ≤ 2 ^ n ∧ cc = nI A - 1 ∧ (∀ c, c ≠ 156 → u c = t c) ∧ ∀ S, A ≤ S → S < 2 ^ n → u 156 S = nI (C S)) ?_ (2 ^ n) _ _ ⟨2 ^ n, rfl, Nat.le_refl _, by rw [nI_s1 (by omega)], fun _ _ => rfl, fun S a1 a2 => by omega⟩
    rintro k cc u ⟨A, rfl, hAk, rfl, uf, uI⟩
    unfold SX12_rowsOfLeast_5
    by_cases e0 : k = 0
    · subst e0
      exact Ok.ifT (by decide) (Ok.ret ⟨uf, fun S a => uI S (Nat.zero_le _) a⟩)
    · rw [nI_s1 (by omega)]
      refine Ok.ifF (by rw [li_0, nI_ltP (by omega) (by omega)]; omega) (Ok.rdE (x := nI (2 ^ n - 1)) (by rw [uf 149 (by decide)]; exact e17) ?_)
      refine Ok.bq (a := nI (if k - 1 = 2 ^ n - 1 then 1 else 0)) (t := u) (Ok.eq (Ok.cv (nI_eqP (by omega) (by omega)) (Ok.ite (fun c0 => Ok.ret ⟨rfl, by rw [if_pos c0]; rfl⟩) (fun c0 => Ok.ret ⟨rfl, by rw [if_neg c0]; rfl⟩)))) ?_
      refine Ok.ckT (inb_n (by omega) (by omega)) (OkwrE ?_)
      rw [nI_cl (by omega)]
      generalize hF : (fun p => if (!(k - 1).testBit p && okc m L c R (k - 1) p) = true then C ((k - 1) ||| 2 ^ p) else 0) = F
      have hsb : ∀ j, sm j F ≤ j * 400000000 := fun j => sm_le (fun i _ => by
        rw [← hF]
        dsimp only
        have := hCb ((k - 1) ||| 2 ^ i)
        split <;> omega)
      refine Ok.bd (fun _ y => (∀ c, c ≠ 156 → y c = t c) ∧ (∀ S, k ≤ S → S < 2 ^ n → y 156 S = nI (C S)) ∧ y 156 (k - 1) = nI ((if k - 1 = 2 ^ n - 1 then 1 else 0) + sm n F)) ?_ ?_
      · refine Ok.count n (fun j cc y => cc = nI j ∧ (∀ c, c ≠ 156 → y c = t c) ∧ (∀ S, k ≤ S → S < 2 ^ n → y 156 S = nI (C S)) ∧ y 156 (k - 1) = nI ((if k - 1 = 2 ^ n - 1 then 1 else 0) + sm j F)) ?_ ?_ (Nat.zero_le _) ⟨rfl, fun c hc => by rw [wr_off c hc]; exact uf c hc, fun S a1 a2 => by rw [wrn (by omega)]; exact uI S a1 a2, wrs⟩
        · rintro j cc y hj ⟨rfl, yf, yI, yk⟩
          have hy : RN s n w y := h.fr (by rw [yf 150 (by decide)])
          unfold SX12_rowsOfLeast_30
          have hFj : F j = if (!(k - 1).testBit j && okc m L c R (k - 1) j) = true then C ((k - 1) ||| 2 ^ j) else 0 := by rw [← hF]
          refine Ok.bq (q_points hy hs) (Ok.ifF (by rw [nI_leP (by omega) (by omega)]; omega) (Ok.ckT (inb_n (by omega) (by omega)) ?_))
          rw [nI_cl (by omega)]
          refine Ok.rdE yk (Ok.bq (q_has (by omega) (by omega)) (Ok.bq (a := nI (F j)) (t := y) (Ok.eq ?_) ?_))
          · refine Ok.cv b01 (Ok.ite (fun c0 => ?_) (fun c0 => Ok.ret ⟨rfl, ?_⟩))
            · have hup := set_up (S := k - 1) (n := n) (by omega) hj c0
              have hcj := hc (k - 1) j
              rw [idx9]
              refine Ok.ckT (inb_n (by omega) (by omega)) ?_
              rw [nI_cl (by omega)]
              refine Ok.rdE (x := nI (c (k - 1) j)) (by rw [yf 157 (by decide), hA _ _ (by omega) hj c0, if_pos rfl]) ?_
              have r1 := hR (k - 1)
              have r2 := hR ((k - 1) ||| 2 ^ j)
              rw [shl_1 (by omega), nI_or]
              refine Ok.ckT (inb_n (by omega) (by omega)) ?_
              rw [nI_cl (by omega)]
              refine Ok.rdE (x := nI (R ((k - 1) ||| 2 ^ j))) (by rw [yf 155 (by decide)]; exact h155 _ hup.2.1) (Ok.ckT (inb_n (by omega) (by omega)) ?_)
              refine Ok.rdE (x := nI (R (k - 1))) (by rw [yf 155 (by decide)]; exact h155 _ (by omega)) ?_
              rw [nI_add]
              refine Ok.cv (nI_eqP (by omega) (by omega)) (Ok.ite (fun c1 => ?_) (fun c1 => Ok.ret ⟨rfl, ?_⟩))
              · have : okc m L c R (k - 1) j = true := (okc_s hg).mpr c1
                refine Ok.ckT (inb_n (by omega) (by omega)) (Ok.rdE (yI _ (by omega) hup.2.1) (Ok.ret ⟨rfl, ?_⟩))
                rw [hFj, if_pos (by simp [c0, this])]
              · have : ¬ okc m L c R (k - 1) j = true := fun q => c1 ((okc_s hg).mp q)
                rw [hFj, if_neg (by simp [this])]
                rfl
            · rw [hFj, if_neg (by simp [bT c0])]
              rfl
          · rw [nI_add]
            refine Ok.ckT (inb_n (by omega) (by omega)) (OkwrE (Ok.ret ⟨nI_1 j, fun c hc => by rw [wr_off c hc]; exact yf c hc, fun S a1 a2 => by rw [wrn (by omega)]; exact yI S a1 a2, ?_⟩))
            rw [wrs, Nat.add_assoc]
            rfl
        · rintro cc y ⟨rfl, yf, yI, yk⟩
          have hy : RN s n w y := h.fr (by rw [yf 150 (by decide)])
          unfold SX12_rowsOfLeast_30
          exact Ok.bq (q_points hy hs) (Ok.ifT (by rw [nI_leP (by omega) (by omega)]; omega) (Ok.ret ⟨yf, yI, yk⟩))
      · rintro _ y ⟨yf, yI, yk⟩
        refine Ok.ret ⟨k - 1, by omega, k - 1, rfl, by omega, by rw [Int32.sub_eq_add_neg], yf, fun S a1 a2 => ?_⟩
        by_cases e : S = k - 1
        · subst e
          have hpr := crw_pr (C := C) (n := n) (ok := okc m L c R) (fun S => by rw [← hC])
          rw [yk]
          congr 1
          by_cases ef : k - 1 = 2 ^ n - 1
          · rw [if_pos ef, ef, hpr.1]
            have : sm n F = 0 := sm_zero (fun p hp => by
              rw [← hF]
              dsimp only
              refine if_neg ?_
              rw [ef, Nat.testBit_two_pow_sub_one]
              simp [hp])
            omega
          · rw [if_neg ef, Nat.zero_add, hpr.2 _ (by omega), hF]
        · exact yI S (by omega) a2
  · rintro _ u ⟨uf, uI⟩
    refine Ok.ckT (by decide) (Ok.rdE (x := nI (C 0)) (uI 0 h2) (Ok.ret ⟨uf, ?_⟩))
    rw [← hC]
    dsimp only
    rw [cnt_0, Nat.sub_zero]
theorem q_keeps {n m S p had : Nat} {c : Nat → Nat → Nat} {R : Nat → Nat} {t : St} (hn : n < 10) (hm : m < 7) (hc : ∀ S p, c S p ≤ 729) (hR : ∀ S, R S ≤ 1000000) (hA : CSA n (fun _ _ => true) c t) (h155 : RSA 155 n R t) (hh : had ≤ 1000000) (hS : S < 2 ^ n) (hp : p < n) {Q : Int32 → St → Prop} (q1 : S.testBit p = false → jn m had (jn m (c S p) (R (S ||| 2 ^ p))) = R 0 → Q 1 t) (q0 : ¬ (S.testBit p = false ∧ jn m had (jn m (c S p) (R (S ||| 2 ^ p))) = R 0) → Q 0 t) : Ok (FX12_keepsLeast (nI m) (nI S) (nI p) (nI had) t) Q := by
  have h3 := pow9 (k := n) (by omega)
  unfold FX12_keepsLeast
  refine Ok.bq (q_has (by omega) (by omega)) (Ok.cv b01 (Ok.ite (fun c0 => ?_) (fun c0 => Ok.ret (q0 (fun q => c0 q.1)))))
  have hup := set_up hS hp c0
  have hcj := hc S p
  have r1 := hR 0
  have r2 := hR (S ||| 2 ^ p)
  rw [idx9]
  refine Ok.ckT (inb_n (by omega) (by omega)) ?_
  rw [nI_cl (by omega)]
  refine Ok.rdE (x := nI (c S p)) (by rw [hA _ _ hS hp c0, if_pos rfl]) ?_
  rw [shl_1 (by omega), nI_or]
  refine Ok.ckT (inb_n (by omega) (by omega)) ?_
  rw [nI_cl (by omega)]
  have j1 := jn_le (m := m) hcj r2
  have j2 := jn_le (m := m) hh j1
  refine Ok.rdE (h155 _ hup.2.1) (Ok.bq (q_both hm (by omega) (by omega)) (Ok.bq (q_both hm (by omega) (by omega)) (Ok.ckT (by decide) (Ok.rdE (x := nI (R 0)) (h155 0 (by omega)) ?_))))
  refine Ok.cv (nI_eqP (by omega) (by omega)) (Ok.ite (fun c1 => Ok.ret (q1 c0 c1)) (fun c1 => Ok.ret (q0 (fun q => c1 q.2))))
theorem m_bestLoop {s n : Nat} {w : Nat → Nat → Nat} {t : St} (h : RN s n w t) (hs : s < 3) (hn : n < 10) {m : Nat} (hm : m < 7) {c : Nat → Nat → Nat} {R : Nat → Nat} {o hd : Nat → Nat} (hc : ∀ S p, c S p ≤ 729) (hR : ∀ S, R S ≤ 1000000) (hA : CSA n (fun _ _ => true) c t) (h155 : RSA 155 n R t) (ho : KRW n m (R 0) c R o hd) (hlt : ∀ i, i ≤ n → amk o i < 2 ^ n) (hhd : ∀ i, i ≤ n → hd i ≤ 1000000) : Ok (wh (SX12_laysBest_59 (nI s) (nI m)) ((0 : Int32), (0 : Int32), (0 : Int32)) t) (fun _ u => (∀ c, c ≠ 159 → u c = t c) ∧ ∀ i, i < n → u 159 i = nI (o i)) := by
  have h3 := pow9 (k := n) (by omega)
  refine Ok.count n (fun j cc u => cc = (nI (amk o j), nI (hd j), nI j) ∧ (∀ c, c ≠ 159 → u c = t c) ∧ ∀ i, i < j → u 159 i = nI (o i)) ?_ ?_ (Nat.zero_le _) ⟨by rw [ho.1]; rfl, fun _ _ => rfl, fun i hi => by omega⟩
  · rintro j cc u hj ⟨rfl, uf, uI⟩
    have hu : RN s n w u := h.fr (by rw [uf 150 (by decide)])
    have uA : CSA n (fun _ _ => true) c u := fun S p a1 a2 a3 => by rw [uf 157 (by decide)]; exact hA S p a1 a2 a3
    have uR : RSA 155 n R u := fun S a => by rw [uf 155 (by decide)]; exact h155 S a
    obtain ⟨o1, o2, o3, o4, o5⟩ := ho.2 j hj
    have hS := hlt j (by omega)
    have hH := hhd j (by omega)
    unfold SX12_laysBest_59
    dsimp only
    refine Ok.bq (q_points hu hs) (Ok.ifF (by rw [nI_leP (by omega) (by omega)]; omega) ?_)
    refine Ok.bq (a := nI (o j)) (t := u) (wq (o j) (fun q => nI q) (fun q hq => ?_) ?_) ?_
    · unfold SX12_laysBest_72
      refine Ok.bd (fun r y => u = y ∧ r = 0) (q_keeps hn hm hc hR uA uR hH hS (by omega) (fun a b => absurd ⟨a, b⟩ (o4 q hq)) (fun _ => ⟨rfl, rfl⟩)) ?_
      rintro _ _ ⟨rfl, rfl⟩
      exact Ok.ifT rfl (Ok.ret ⟨rfl, by rw [nI_1]⟩)
    · unfold SX12_laysBest_72
      refine Ok.bd (fun r y => u = y ∧ r = 1) (q_keeps hn hm hc hR uA uR hH hS o1 (fun _ _ => ⟨rfl, rfl⟩) (fun a => absurd ⟨o2, o3⟩ a)) ?_
      rintro _ _ ⟨rfl, rfl⟩
      exact Ok.ifF (by decide) (Ok.ret ⟨rfl, rfl⟩)
    · have hcj := hc (amk o j) (o j)
      rw [idx9]
      refine Ok.ckT (inb_n (by omega) (by omega)) ?_
      rw [nI_cl (by omega)]
      refine Ok.rdE (x := nI (c (amk o j) (o j))) (by rw [uA _ _ hS o1 o2, if_pos rfl]) (Ok.bq (q_both hm (by omega) (by omega)) (Ok.ckT (inb_n (by omega) (by omega)) (OkwrE (Ok.ret ⟨?_, fun c hc => by rw [wr_off c hc]; exact uf c hc, fun i hi => ?_⟩))))
      · rw [shl_1 (by omega), nI_or, nI_1, o5]
        rfl
      · rw [nI_cl (by omega)]
        by_cases e : i = j
        · subst e; rw [wrs]
        · rw [wrn e]; exact uI i (by omega)
  · rintro cc u ⟨rfl, uf, uI⟩
    have hu : RN s n w u := h.fr (by rw [uf 150 (by decide)])
    unfold SX12_laysBest_59
    dsimp only
    exact Ok.bq (q_points hu hs) (Ok.ifT (by rw [nI_leP (by omega) (by omega)]; omega) (Ok.ret ⟨uf, uI⟩))
