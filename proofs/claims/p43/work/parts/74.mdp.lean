/-! the reference's search over all sets -/
/-- costs of steps in the reference's array; 1000000 where al forbids -/
def CSA (n : Nat) (al : Nat → Nat → Bool) (c : Nat → Nat → Nat) (t : St) : Prop := ∀ S p, S < 2 ^ n → p < n → S.testBit p = false → t 157 (9 * S + p) = nI (if al S p = true then c S p else 1000000)
theorem m_laysCosts {s n : Nat} {w : Nat → Nat → Nat} {t : St} (h : RN s n w t) (hs : s < 3) (hw : WF n w) (hn : n < 10) {m : Nat} (hm : m < 7) : Ok (FX12_laysCosts (nI s) (nI m) t) (fun _ u => (∀ c, c ≠ 149 → c ≠ 157 → u c = t c) ∧ u 149 17 = nI (2 ^ n - 1) ∧ (∀ j, j ≠ 17 → u 149 j = t 149 j) ∧ CSA n (fun _ _ => true) (cst n w m) u ∧ ∀ S p, S < 2 ^ n → p < n → S.testBit p = true → u 157 (9 * S + p) = nI 1000000) := by
  have h2 := Nat.two_pow_pos n
  have h3 := pow9 (k := n) (by omega)
  unfold FX12_laysCosts
  refine Ok.bq (q_points h hs) ?_
  rw [shl_1 (by omega), nI_s1 (by omega)]
  refine OkwrE ?_
  have a1 : ∀ c, c ≠ 149 → wr t 149 17 (nI (2 ^ n - 1)) c = t c := fun c hc => wr_off c hc
  have b1 : wr t 149 17 (nI (2 ^ n - 1)) 149 17 = nI (2 ^ n - 1) := wrs
  have d1 : ∀ j, j ≠ 17 → wr t 149 17 (nI (2 ^ n - 1)) 149 j = t 149 j := fun j hj => wrn hj
  generalize wr t 149 17 (nI (2 ^ n - 1)) = t1 at a1 b1 d1 ⊢
  refine Ok.bd (fun _ u => (∀ c, c ≠ 157 → u c = t1 c) ∧ ∀ S p, S < 2 ^ n → p < n → u 157 (9 * S + p) = nI (if S.testBit p = true then 1000000 else cst n w m S p)) ?_ ?_
  · refine Ok.count (2 ^ n) (fun A c u => c = nI A ∧ (∀ c, c ≠ 157 → u c = t1 c) ∧ ∀ S p, S < A → p < n → u 157 (9 * S + p) = nI (if S.testBit p = true then 1000000 else cst n w m S p)) ?_ ?_ (Nat.zero_le _) ⟨rfl, fun _ _ => rfl, fun S p hh => by omega⟩
    · rintro A c u hA ⟨rfl, uf, uI⟩
      unfold SX12_laysCosts_15
      refine Ok.rdE (x := nI (2 ^ n - 1)) (by rw [uf 149 (by decide)]; exact b1) (Ok.ifF (by rw [nI_ltP (by omega) (by omega)]; omega) ?_)
      refine Ok.bd (fun _ y => (∀ c, c ≠ 157 → y c = t1 c) ∧ ∀ S p, S < A + 1 → p < n → y 157 (9 * S + p) = nI (if S.testBit p = true then 1000000 else cst n w m S p)) ?_ (fun _ y hy => Ok.ret ⟨nI_1 A, hy⟩)
      refine Ok.count n (fun j c y => c = nI j ∧ (∀ c, c ≠ 157 → y c = t1 c) ∧ ∀ S p, (S < A ∨ (S = A ∧ p < j)) → p < n → y 157 (9 * S + p) = nI (if S.testBit p = true then 1000000 else cst n w m S p)) ?_ ?_ (Nat.zero_le _) ⟨rfl, uf, fun S p a => uI S p (by omega)⟩
      · rintro j c y hj ⟨rfl, yf, yI⟩
        have hy : RN s n w y := h.fr (by rw [yf 150 (by decide), a1 150 (by decide)])
        unfold SX12_laysCosts_26
        refine Ok.bq (q_points hy hs) (Ok.ifF (by rw [nI_leP (by omega) (by omega)]; omega) (Ok.bq (q_has (by omega) (by omega)) ?_))
        refine Ok.bq (a := nI (if A.testBit j = true then 1000000 else cst n w m A j)) (t := y) (Ok.eq (Ok.cv b01 (Ok.ite (fun c0 => Ok.bq (q_cost hy hs hw hn hm (by omega) (by omega)) (Ok.ret ⟨rfl, ?_⟩)) (fun c0 => Ok.ret ⟨rfl, ?_⟩)))) ?_
        · rw [if_neg (by rw [c0]; decide)]
        · rw [if_pos (bT c0)]; rfl
        rw [idx9]
        refine Ok.ckT (inb_n (by omega) (by omega)) (OkwrE (Ok.ret ⟨nI_1 j, fun c hc => by rw [wr_off c hc]; exact yf c hc, fun S p a1 a2 => ?_⟩))
        rw [nI_cl (by omega)]
        by_cases e : S = A ∧ p = j
        · obtain ⟨rfl, rfl⟩ := e
          rw [wrs]
        · rw [wrn (by omega)]
          exact yI S p (by omega) a2
      · rintro c y ⟨rfl, yf, yI⟩
        have hy : RN s n w y := h.fr (by rw [yf 150 (by decide), a1 150 (by decide)])
        unfold SX12_laysCosts_26
        exact Ok.bq (q_points hy hs) (Ok.ifT (by rw [nI_leP (by omega) (by omega)]; omega) (Ok.ret ⟨yf, fun S p a b => yI S p (by omega) b⟩))
    · rintro c u ⟨rfl, uf, uI⟩
      unfold SX12_laysCosts_15
      exact Ok.rdE (x := nI (2 ^ n - 1)) (by rw [uf 149 (by decide)]; exact b1) (Ok.ifT (by rw [nI_ltP (by omega) (by omega)]; omega) (Ok.ret ⟨uf, uI⟩))
  · rintro _ u ⟨uf, uI⟩
    refine Ok.ret ⟨fun c c1 c2 => by rw [uf c c2, a1 c c1], by rw [uf 149 (by decide)]; exact b1, fun j hj => by rw [uf 149 (by decide)]; exact d1 j hj, fun S p a1 a2 a3 => ?_, fun S p a1 a2 a3 => ?_⟩
    · rw [uI S p a1 a2, if_neg (by rw [a3]; decide), if_pos rfl]
    · rw [uI S p a1 a2, if_pos a3]
theorem m_laysRest {s n : Nat} {w : Nat → Nat → Nat} {t : St} (h : RN s n w t) (hs : s < 3) (hn : n < 10) {m : Nat} (hm : m < 7) {al : Nat → Nat → Bool} {c : Nat → Nat → Nat} (hc : ∀ S p, c S p ≤ 729) (e17 : t 149 17 = nI (2 ^ n - 1)) (hA : CSA n al c t) (hB : ∀ S p, S < 2 ^ n → p < n → S.testBit p = true → ∃ v, t 157 (9 * S + p) = v) : Ok (FX12_laysRest (nI s) (nI m) t) (fun _ u => (∀ c, c ≠ 155 → u c = t c) ∧ RSA 155 n (fun S => rst n m 1000000 al c (n - cnt S n) S) u) := by
  have h2 := Nat.two_pow_pos n
  have h3 := pow9 (k := n) (by omega)
  generalize hR : (fun S => rst n m 1000000 al c (n - cnt S n) S) = R
  have hRb : ∀ S, R S ≤ 1000000 := fun S => by rw [← hR]; exact rst_bd hc (by omega) (by omega)
  unfold FX12_laysRest
  refine Ok.rdE e17 (Ok.bd (fun _ u => (∀ c, c ≠ 155 → u c = t c) ∧ RSA 155 n R u) ?_ (fun _ u hu => Ok.ret hu))
  refine Ok.loop (fun k cc u => ∃ A, k = A ∧ A ≤ 2 ^ n ∧ cc = nI A - 1 ∧ (∀ c, c ≠ 155 → u c = t c) ∧ ∀ S, A ≤ S → S < 2 ^ n → u 155 S = nI (R S)) ?_ (2 ^ n) _ _ ⟨2 ^ n, rfl, Nat.le_refl _, by rw [nI_s1 (by omega)], fun _ _ => rfl, fun S a1 a2 => by omega⟩
  rintro k cc u ⟨A, rfl, hAk, rfl, uf, uI⟩
  unfold SX12_laysRest_5
  by_cases e0 : k = 0
  · subst e0
    exact Ok.ifT (by decide) (Ok.ret ⟨uf, fun S a => uI S (Nat.zero_le _) a⟩)
  · rw [nI_s1 (by omega)]
    refine Ok.ifF (by rw [li_0, nI_ltP (by omega) (by omega)]; omega) (Ok.rdE (x := nI (2 ^ n - 1)) (by rw [uf 149 (by decide)]; exact e17) ?_)
    refine Ok.bq (a := nI (if k - 1 = 2 ^ n - 1 then 0 else 1000000)) (t := u) (Ok.eq (Ok.cv (nI_eqP (by omega) (by omega)) (Ok.ite (fun c0 => Ok.ret ⟨rfl, by rw [if_pos c0]; rfl⟩) (fun c0 => Ok.ret ⟨rfl, by rw [if_neg c0]; rfl⟩)))) ?_
    refine Ok.ckT (inb_n (by omega) (by omega)) (OkwrE ?_)
    rw [nI_cl (by omega)]
    generalize hF : (fun p => jn m (c (k - 1) p) (R ((k - 1) ||| 2 ^ p))) = F
    refine Ok.bd (fun _ y => (∀ c, c ≠ 155 → y c = t c) ∧ (∀ S, k ≤ S → S < 2 ^ n → y 155 S = nI (R S)) ∧ y 155 (k - 1) = nI (mns (fun p => !(k - 1).testBit p && al (k - 1) p) F (if k - 1 = 2 ^ n - 1 then 0 else 1000000) n)) ?_ ?_
    · refine Ok.count n (fun j cc y => cc = nI j ∧ (∀ c, c ≠ 155 → y c = t c) ∧ (∀ S, k ≤ S → S < 2 ^ n → y 155 S = nI (R S)) ∧ y 155 (k - 1) = nI (mns (fun p => !(k - 1).testBit p && al (k - 1) p) F (if k - 1 = 2 ^ n - 1 then 0 else 1000000) j)) ?_ ?_ (Nat.zero_le _) ⟨rfl, fun c hc => by rw [wr_off c hc]; exact uf c hc, fun S a1 a2 => by rw [wrn (by omega)]; exact uI S a1 a2, wrs⟩
      · rintro j cc y hj ⟨rfl, yf, yI, yk⟩
        have hy : RN s n w y := h.fr (by rw [yf 150 (by decide)])
        unfold SX12_laysRest_33
        have hmb := mns_le (P := fun p => !(k - 1).testBit p && al (k - 1) p) (f := F) (T := if k - 1 = 2 ^ n - 1 then 0 else 1000000) (n := j)
        have hmb2 : (if k - 1 = 2 ^ n - 1 then 0 else 1000000) ≤ 1000000 := by split <;> omega
        refine Ok.bq (q_points hy hs) (Ok.ifF (by rw [nI_leP (by omega) (by omega)]; omega) ?_)
        rw [idx9]
        refine Ok.ckT (inb_n (by omega) (by omega)) (Ok.rd (fun v19 hv19 => Ok.bq (q_has (by omega) (by omega)) ?_))
        rw [nI_cl (by omega), yf 157 (by decide)] at hv19
        refine Ok.bd (fun _ z => (∀ c, c ≠ 155 → z c = t c) ∧ (∀ S, k ≤ S → S < 2 ^ n → z 155 S = nI (R S)) ∧ z 155 (k - 1) = nI (mns (fun p => !(k - 1).testBit p && al (k - 1) p) F (if k - 1 = 2 ^ n - 1 then 0 else 1000000) (j + 1))) ?_ (fun _ z hz => Ok.ret ⟨nI_1 j, hz⟩)
        have em : mns (fun p => !(k - 1).testBit p && al (k - 1) p) F (if k - 1 = 2 ^ n - 1 then 0 else 1000000) (j + 1) = if (!(k - 1).testBit j && al (k - 1) j) = true then Nat.min (mns (fun p => !(k - 1).testBit p && al (k - 1) p) F (if k - 1 = 2 ^ n - 1 then 0 else 1000000) j) (F j) else mns (fun p => !(k - 1).testBit p && al (k - 1) p) F (if k - 1 = 2 ^ n - 1 then 0 else 1000000) j := rfl
        rw [em]
        refine Ok.cv b01 (Ok.ite (fun c0 => ?_) (fun c0 => Ok.ret ⟨yf, yI, ?_⟩))
        · have hup := set_up (S := k - 1) (n := n) (by omega) hj c0
          rw [hA (k - 1) j (by omega) hj c0] at hv19
          have hcj := hc (k - 1) j
          have hRj := hRb ((k - 1) ||| 2 ^ j)
          subst hv19
          by_cases q : al (k - 1) j = true
          · rw [if_pos q, if_pos (c := (!(k - 1).testBit j && al (k - 1) j) = true) (by simp [c0, q])]
            refine Ok.ifF (by rw [li_1000000, nI_leP (by omega) (by omega)]; omega) (Ok.ckT (inb_n (by omega) (by omega)) ?_)
            rw [nI_cl (by omega)]
            refine Ok.rdE yk ?_
            rw [shl_1 (by omega), nI_or]
            refine Ok.ckT (inb_n (by omega) (by omega)) ?_
            rw [nI_cl (by omega)]
            refine Ok.rdE (yI _ (by omega) hup.2.1) (Ok.bq (q_both hm (by omega) (by omega)) (Ok.ckT (inb_n (by omega) (by omega)) (OkwrE (Ok.ret ⟨fun c hc => by rw [wr_off c hc]; exact yf c hc, fun S a1 a2 => by rw [wrn (by omega)]; exact yI S a1 a2, ?_⟩))))
            have hjl := jn_le (m := m) hcj hRj
            rw [wrs, mnI_n (by omega) (by omega), ← hF]
          · rw [if_neg q, if_neg (c := (!(k - 1).testBit j && al (k - 1) j) = true) (by simp [q])]
            exact Ok.ifT (by decide) (Ok.ret ⟨yf, yI, yk⟩)
        · rw [if_neg (by simp [bT c0])]
          exact yk
      · rintro cc y ⟨rfl, yf, yI, yk⟩
        have hy : RN s n w y := h.fr (by rw [yf 150 (by decide)])
        unfold SX12_laysRest_33
        exact Ok.bq (q_points hy hs) (Ok.ifT (by rw [nI_leP (by omega) (by omega)]; omega) (Ok.ret ⟨yf, yI, yk⟩))
    · rintro _ y ⟨yf, yI, yk⟩
      refine Ok.ret ⟨k - 1, by omega, k - 1, rfl, by omega, by rw [Int32.sub_eq_add_neg], yf, fun S a1 a2 => ?_⟩
      by_cases e : S = k - 1
      · subst e
        rw [yk]
        congr 1
        by_cases ef : k - 1 = 2 ^ n - 1
        · rw [if_pos ef, ← hR]
          dsimp only
          rw [ef, cnt_fl, Nat.sub_self]
          have : mns (fun p => !(2 ^ n - 1).testBit p && al (2 ^ n - 1) p) F 0 n ≤ 0 := mns_le
          show _ = 0
          omega
        · rw [if_neg ef, ← hR]
          dsimp only
          have hk1 : cnt (k - 1) n < n := cnt_ltf (by omega)
          obtain ⟨kk, hkk⟩ : ∃ kk, n - cnt (k - 1) n = kk + 1 := ⟨n - cnt (k - 1) n - 1, by omega⟩
          rw [hkk]
          refine mns_congr (fun _ _ => rfl) (fun p hp hq => ?_)
          have hb : (k - 1).testBit p = false := by
            simp only [Bool.and_eq_true, Bool.not_eq_true'] at hq
            exact hq.1
          have := (set_up (S := k - 1) (n := n) (by omega) hp hb).2.2
          rw [← hF, ← hR]
          dsimp only
          rw [show n - cnt (k - 1 ||| 2 ^ p) n = kk by omega]
      · exact yI S (by omega) a2
theorem m_rowsWithin {s n : Nat} {w : Nat → Nat → Nat} {t : St} (h : RN s n w t) (hs : s < 3) (hn : n < 10) {m L : Nat} (hg : Gr m) {c : Nat → Nat → Nat} {R : Nat → Nat} (hc : ∀ S p, c S p ≤ 729) (hL : L < 2147483648) (e17 : t 149 17 = nI (2 ^ n - 1)) (hA : CSA n (fun _ _ => true) c t) : Ok (FX12_rowsWithin (nI s) (nI L) t) (fun r u => (∀ c, c ≠ 156 → u c = t c) ∧ r = nI (crw n (okc m L c R) n 0)) := by
  have h2 := Nat.two_pow_pos n
  have h3 := pow9 (k := n) (by omega)
  generalize hC : (fun S => crw n (okc m L c R) (n - cnt S n) S) = C
  have hCb : ∀ S, C S < 400000000 := fun S => by rw [← hC]; exact crw_b hn (by omega)
  unfold FX12_rowsWithin
  refine Ok.rdE e17 (Ok.bd (fun _ u => (∀ c, c ≠ 156 → u c = t c) ∧ RSA 156 n C u) ?_ ?_)
  · refine Ok.loop (fun k cc u => ∃ A, k = A ∧ A ≤ 2 ^ n ∧ cc = nI A - 1 ∧ (∀ c, c ≠ 156 → u c = t c) ∧ ∀ S, A ≤ S → S < 2 ^ n → u 156 S = nI (C S)) ?_ (2 ^ n) _ _ ⟨2 ^ n, rfl, Nat.le_refl _, by rw [nI_s1 (by omega)], fun _ _ => rfl, fun S a1 a2 => by omega⟩
    rintro k cc u ⟨A, rfl, hAk, rfl, uf, uI⟩
    unfold SX12_rowsWithin_5
    by_cases e0 : k = 0
    · subst e0
      exact Ok.ifT (by decide) (Ok.ret ⟨uf, fun S a => uI S (Nat.zero_le _) a⟩)
    · rw [nI_s1 (by omega)]
      refine Ok.ifF (by rw [li_0, nI_ltP (by omega) (by omega)]; omega) (Ok.rdE (x := nI (2 ^ n - 1)) (by rw [uf 149 (by decide)]; exact e17) ?_)
      refine Ok.bq (a := nI (if k - 1 = 2 ^ n - 1 then 1 else 0)) (t := u) (Ok.eq (Ok.cv (nI_eqP (by omega) (by omega)) (Ok.ite (fun c0 => Ok.ret ⟨rfl, by rw [if_pos c0]; rfl⟩) (fun c0 => Ok.ret ⟨rfl, by rw [if_neg c0]; rfl⟩)))) ?_
      refine Ok.ckT (inb_n (by omega) (by omega)) (OkwrE ?_)
      rw [nI_cl (by omega)]
      generalize hF : (fun p => if (!(k - 1).testBit p && okc m L c R (k - 1) p) = true then C ((k - 1) ||| 2 ^ p) else 0) = F
      have hsb : ∀ j, sm j F ≤ j * 400000000 := fun j => sm_le (fun i _ => by
        rw [← hF]
        dsimp only
        have := hCb ((k - 1) ||| 2 ^ i)
        split <;> omega)
      refine Ok.bd (fun _ y => (∀ c, c ≠ 156 → y c = t c) ∧ (∀ S, k ≤ S → S < 2 ^ n → y 156 S = nI (C S)) ∧ y 156 (k - 1) = nI ((if k - 1 = 2 ^ n - 1 then 1 else 0) + sm n F)) ?_ ?_
      · refine Ok.count n (fun j cc y => cc = nI j ∧ (∀ c, c ≠ 156 → y c = t c) ∧ (∀ S, k ≤ S → S < 2 ^ n → y 156 S = nI (C S)) ∧ y 156 (k - 1) = nI ((if k - 1 = 2 ^ n - 1 then 1 else 0) + sm j F)) ?_ ?_ (Nat.zero_le _) ⟨rfl, fun c hc => by rw [wr_off c hc]; exact uf c hc, fun S a1 a2 => by rw [wrn (by omega)]; exact uI S a1 a2, wrs⟩
        · rintro j cc y hj ⟨rfl, yf, yI, yk⟩
          have hy : RN s n w y := h.fr (by rw [yf 150 (by decide)])
          unfold SX12_rowsWithin_31
          have hFj : F j = if (!(k - 1).testBit j && okc m L c R (k - 1) j) = true then C ((k - 1) ||| 2 ^ j) else 0 := by rw [← hF]
          refine Ok.bq (q_points hy hs) (Ok.ifF (by rw [nI_leP (by omega) (by omega)]; omega) (Ok.ckT (inb_n (by omega) (by omega)) ?_))
          rw [nI_cl (by omega)]
          refine Ok.rdE yk (Ok.bq (q_has (by omega) (by omega)) (Ok.bq (a := nI (F j)) (t := y) (Ok.eq ?_) ?_))
          · refine Ok.cv b01 (Ok.ite (fun c0 => ?_) (fun c0 => Ok.ret ⟨rfl, ?_⟩))
            · have hup := set_up (S := k - 1) (n := n) (by omega) hj c0
              have hcj := hc (k - 1) j
              rw [idx9]
              refine Ok.ckT (inb_n (by omega) (by omega)) ?_
              rw [nI_cl (by omega)]
              refine Ok.rdE (x := nI (c (k - 1) j)) (by rw [yf 157 (by decide), hA _ _ (by omega) hj c0, if_pos rfl]) ?_
              refine Ok.cv (nI_ltP (by omega) (by omega)) (Ok.ite (fun c1 => Ok.ret ⟨rfl, ?_⟩) (fun c1 => ?_))
              · have : ¬ okc m L c R (k - 1) j = true := fun q => by
                  have := (okc_g hg).mp q
                  omega
                rw [hFj, if_neg (by simp [this])]
                rfl
              · have : okc m L c R (k - 1) j = true := (okc_g hg).mpr (by omega)
                rw [shl_1 (by omega), nI_or]
                refine Ok.ckT (inb_n (by omega) (by omega)) ?_
                rw [nI_cl (by omega)]
                refine Ok.rdE (yI _ (by omega) hup.2.1) (Ok.ret ⟨rfl, ?_⟩)
                rw [hFj, if_pos (by simp [c0, this])]
            · rw [hFj, if_neg (by simp [bT c0])]
              rfl
          · rw [nI_add]
            refine Ok.ckT (inb_n (by omega) (by omega)) (OkwrE (Ok.ret ⟨nI_1 j, fun c hc => by rw [wr_off c hc]; exact yf c hc, fun S a1 a2 => by rw [wrn (by omega)]; exact yI S a1 a2, ?_⟩))
            rw [wrs, Nat.add_assoc]
            rfl
        · rintro cc y ⟨rfl, yf, yI, yk⟩
          have hy : RN s n w y := h.fr (by rw [yf 150 (by decide)])
          unfold SX12_rowsWithin_31
          exact Ok.bq (q_points hy hs) (Ok.ifT (by rw [nI_leP (by omega) (by omega)]; omega) (Ok.ret ⟨yf, yI, yk⟩))
      · rintro _ y ⟨yf, yI, yk⟩
        refine Ok.ret ⟨k - 1, by omega, k - 1, rfl, by omega, by rw [Int32.sub_eq_add_neg], yf, fun S a1 a2 => ?_⟩
        by_cases e : S = k - 1
        · subst e
          have hpr := crw_pr (C := C) (n := n) (ok := okc m L c R) (fun S => by rw [← hC])
          rw [yk]
          congr 1
          by_cases ef : k - 1 = 2 ^ n - 1
          · rw [if_pos ef, ef, hpr.1]
            have : sm n F = 0 := sm_zero (fun p hp => by
              rw [← hF]
              dsimp only
              refine if_neg ?_
              rw [ef, Nat.testBit_two_pow_sub_one]
              simp [hp])
            omega
          · rw [if_neg ef, Nat.zero_add, hpr.2 _ (by omega), hF]
        · exact yI S (by omega) a2
  · rintro _ u ⟨uf, uI⟩
    refine Ok.ckT (by decide) (Ok.rdE (x := nI (C 0)) (uI 0 h2) (Ok.ret ⟨uf, ?_⟩))
    rw [← hC]
    dsimp only
    rw [cnt_0, Nat.sub_zero]
