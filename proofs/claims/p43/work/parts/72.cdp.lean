/-! the class counts rows, finds the first -/
/-- a step that keeps the limit, or the least -/
def okc (m L : Nat) (c : Nat → Nat → Nat) (R : Nat → Nat) (S p : Nat) : Bool := if m = 0 ∨ m = 1 ∨ m = 5 then decide (c S p ≤ L) else decide (c S p + R (S ||| 2 ^ p) = R S)
theorem q_fits {n m L S p : Nat} {c : Nat → Nat → Nat} {R : Nat → Nat} {t : St} (hn : n < 10) (hm : m < 7) (hL : L < 2147483648) (hc : ∀ S p, c S p ≤ 729) (h85 : STP 85 n c t) (h88 : ¬ (m = 0 ∨ m = 1 ∨ m = 5) → RSA 88 n R t) (hR : ∀ S, R S ≤ 1048576) (hS : S < 2 ^ n) (hp : p < n) (hb : S.testBit p = false) : FX9_fits (nI m) (nI S) (nI p) (nI L) t = some (if okc m L c R S p = true then 1 else 0, t) := by
  have h3 := pow9 (k := n) (by omega)
  have hup := set_up hS hp hb
  have hcp := hc S p
  have r1 := hR S
  have r2 := hR (S ||| 2 ^ p)
  refine Ok.eq ?_
  unfold FX9_fits okc
  rw [li_9, nI_mul, nI_add]
  refine Ok.ckT (inb_n (by omega) (by omega)) ?_
  rw [nI_cl (by omega)]
  refine Ok.rdE (h85 S p hS hp hb) ?_
  have lim : (m = 0 ∨ m = 1 ∨ m = 5) → Ok (if nI L < nI (c S p) then (some ((0 : Int32), t)) else (some ((1 : Int32), t))) (fun r u => t = u ∧ r = if (if m = 0 ∨ m = 1 ∨ m = 5 then decide (c S p ≤ L) else decide (c S p + R (S ||| 2 ^ p) = R S)) = true then 1 else 0) := by
    intro q
    rw [if_pos q]
    refine Ok.cv (nI_ltP (by omega) (by omega)) (Ok.ite (fun c1 => Ok.ret ⟨rfl, ?_⟩) (fun c1 => Ok.ret ⟨rfl, ?_⟩))
    · rw [if_neg (by simp; omega)]
    · rw [if_pos (by simp; omega)]
  refine Ok.cv (nI_eqP (b := 0) (by omega) (by omega)) (Ok.ite (fun c0 => lim (Or.inl c0)) (fun c0 => Ok.cv (nI_eqP (b := 1) (by omega) (by omega)) (Ok.ite (fun c1 => lim (Or.inr (Or.inl c1))) (fun c1 => Ok.cv (nI_eqP (b := 5) (by omega) (by omega)) (Ok.ite (fun c5 => lim (Or.inr (Or.inr c5))) (fun c5 => ?_))))))
  have q : ¬ (m = 0 ∨ m = 1 ∨ m = 5) := by omega
  have h88 := h88 q
  rw [if_neg q, shl_1 (by omega), nI_or]
  refine Ok.ckT (inb_n (by omega) (by omega)) ?_
  rw [nI_cl (by omega)]
  refine Ok.rdE (h88 _ hup.2.1) (Ok.ckT (inb_n (by omega) (by omega)) ?_)
  rw [nI_cl (by omega)]
  refine Ok.rdE (h88 S hS) ?_
  rw [nI_add]
  refine Ok.cv (nI_eqP (by omega) (by omega)) (Ok.ite (fun c1 => Ok.ret ⟨rfl, ?_⟩) (fun c1 => Ok.ret ⟨rfl, ?_⟩))
  · rw [if_pos (by simp [c1])]
  · rw [if_neg (by simp [c1])]
theorem e_countRows {x n l : Nat} {w : Nat → Nat → Nat} {t : St} (h : CN x n l w t) (g : netAt x = true) (hn : n < 10) {m L : Nat} {c : Nat → Nat → Nat} {R : Nat → Nat} (hm : m < 7) (hL : L < 2147483648) (hc : ∀ S p, c S p ≤ 729) (h85 : STP 85 n c t) (h88 : ¬ (m = 0 ∨ m = 1 ∨ m = 5) → RSA 88 n R t) (hR : ∀ S, R S ≤ 1048576) (h89 : 89 ≠ x ∧ 89 ≠ x + 1 ∧ 89 ≠ x + 3) : Ok (FX9_countRows x (nI m) (nI L) t) (fun _ u => (∀ c, c ≠ 89 → u c = t c) ∧ RSA 89 n (fun S => crw n (okc m L c R) (n - cnt S n) S) u) := by
  have h2 := Nat.two_pow_pos n
  have h3 := pow9 (k := n) (by omega)
  generalize hC : (fun S => crw n (okc m L c R) (n - cnt S n) S) = C
  have hCb : ∀ S, C S < 400000000 := fun S => by rw [← hC]; exact crw_b hn (by omega)
  unfold FX9_countRows
  refine Ok.ckT g (Ok.bd (fun r s => t = s ∧ r = nI (2 ^ n - 1)) (e_allBits h hn g ⟨rfl, rfl⟩) ?_)
  rintro _ _ ⟨rfl, rfl⟩
  refine Ok.ckT (inb_n (by omega) (by omega)) (OkwrE ?_)
  rw [nI_cl (by omega)]
  refine Ok.bd (fun _ u => (∀ c, c ≠ 89 → u c = t c) ∧ RSA 89 n C u) ?_ (fun _ u hu => Ok.ret hu)
  refine Ok.loop (fun k cc u => ∃ A, k = A ∧ A ≤ 2 ^ n - 1 ∧ cc = nI A - 1 ∧ (∀ c, c ≠ 89 → u c = t c) ∧ ∀ S, A ≤ S → S < 2 ^ n → u 89 S = nI (C S)) ?_ (2 ^ n - 1) _ _ ⟨2 ^ n - 1, rfl, Nat.le_refl _, rfl, fun c hc => wr_off c hc, fun S a1 a2 => ?_⟩
  · rintro k cc u ⟨A, rfl, hA, rfl, uf, uI⟩
    have hu : CN x n l w u := h.fr (uf _ (by omega)) (uf _ (by omega)) (uf _ (by omega))
    have u85 : STP 85 n c u := fun S p a1 a2 a3 => by rw [uf 85 (by decide)]; exact h85 S p a1 a2 a3
    have u88 : ¬ (m = 0 ∨ m = 1 ∨ m = 5) → RSA 88 n R u := fun q S a => by rw [uf 88 (by decide)]; exact h88 q S a
    unfold SX9_countRows_20
    by_cases e0 : k = 0
    · subst e0
      exact Ok.ifT (by decide) (Ok.ret ⟨uf, fun S a => uI S (Nat.zero_le _) a⟩)
    · rw [li_1, nI_sub (by omega)]
      refine Ok.ifF (by rw [li_0, nI_ltP (by omega) (by omega)]; omega) ?_
      have hk1 : cnt (k - 1) n < n := cnt_ltf (by omega)
      obtain ⟨kk, hkk⟩ : ∃ kk, n - cnt (k - 1) n = kk + 1 := ⟨n - cnt (k - 1) n - 1, by omega⟩
      have eC : C (k - 1) = sm n (fun p => if (!(k - 1).testBit p && okc m L c R (k - 1) p) = true then C ((k - 1) ||| 2 ^ p) else 0) := by
        rw [← hC]
        dsimp only
        rw [hkk]
        refine sm_congr (fun p hp => ?_)
        by_cases hq : (!(k - 1).testBit p && okc m L c R (k - 1) p) = true
        · have hb : (k - 1).testBit p = false := by
            simp only [Bool.and_eq_true, Bool.not_eq_true'] at hq
            exact hq.1
          have := (set_up (S := k - 1) (n := n) (by omega) hp hb).2.2
          rw [if_pos hq, if_pos hq, show n - cnt (k - 1 ||| 2 ^ p) n = kk by omega]
        · rw [if_neg hq, if_neg hq]
      have hsb : ∀ j, sm j (fun p => if (!(k - 1).testBit p && okc m L c R (k - 1) p) = true then C ((k - 1) ||| 2 ^ p) else 0) ≤ j * 400000000 := fun j => sm_le (fun i _ => by
        have := hCb ((k - 1) ||| 2 ^ i)
        split <;> omega)
      refine Ok.bq (a := nI (C (k - 1))) (t := u) ?_ ?_
      · rw [eC]
        refine wq n (fun j => (nI (sm j (fun p => if (!(k - 1).testBit p && okc m L c R (k - 1) p) = true then C ((k - 1) ||| 2 ^ p) else 0)), nI j)) (fun j hj => ?_) ?_
        · unfold SX9_countRows_31
          dsimp only
          refine Ok.rdE hu.1 (Ok.ifF (by rw [nI_leP (by omega) (by omega)]; omega) ?_)
          refine Ok.bq (a := nI (sm (j + 1) (fun p => if (!(k - 1).testBit p && okc m L c R (k - 1) p) = true then C ((k - 1) ||| 2 ^ p) else 0))) (t := u) (Ok.eq ?_) (Ok.ret ⟨rfl, by rw [nI_1]⟩)
          show Ok _ (fun r s => u = s ∧ r = nI (sm j _ + (if (!(k - 1).testBit j && okc m L c R (k - 1) j) = true then C ((k - 1) ||| 2 ^ j) else 0)))
          refine Ok.cv (bitn (by omega) (by omega)) (Ok.ite (fun c0 => ?_) (fun c0 => Ok.ret ⟨rfl, ?_⟩))
          · have hup := set_up (S := k - 1) (n := n) (by omega) hj c0
            refine Ok.bq (q_fits hn hm hL hc u85 u88 hR (by omega) hj c0) ?_
            by_cases q : okc m L c R (k - 1) j = true
            · rw [if_pos q, if_pos (c := (!(k - 1).testBit j && okc m L c R (k - 1) j) = true) (by simp [c0, q]), shl_1 (by omega), nI_or]
              refine Ok.ifF (by decide) (Ok.ckT (inb_n (by omega) (by omega)) ?_)
              rw [nI_cl (by omega)]
              exact Ok.rdE (uI _ (by omega) hup.2.1) (Ok.ret ⟨rfl, nI_add _ _⟩)
            · rw [if_neg q, if_neg (c := (!(k - 1).testBit j && okc m L c R (k - 1) j) = true) (by simp [q]), Nat.add_zero]
              exact Ok.ifT rfl (Ok.ret ⟨rfl, rfl⟩)
          · rw [if_neg (by simp [bT c0]), Nat.add_zero]
        · unfold SX9_countRows_31
          dsimp only
          exact Ok.rdE hu.1 (Ok.ifT (by rw [nI_leP (by omega) (by omega)]; omega) (Ok.ret ⟨rfl, rfl⟩))
      · refine Ok.ckT (inb_n (by omega) (by omega)) (OkwrE (Ok.ret ⟨k - 1, by omega, k - 1, rfl, by omega, ?_, fun c hc => by rw [wr_off c hc]; exact uf c hc, fun S a1 a2 => ?_⟩))
        · rw [Int32.sub_eq_add_neg]
        · rw [nI_cl (by omega)]
          by_cases e : S = k - 1
          · subst e; rw [wrs]
          · rw [wrn e]; exact uI S (by omega) a2
  · have : S = 2 ^ n - 1 := by omega
    subst this
    rw [wrs, ← hC]
    dsimp only
    rw [cnt_fl, Nat.sub_self]
    rfl
/-- those who may come next -/
def ldr (n : Nat) (ok : Nat → Nat → Bool) (C : Nat → Nat) (S : Nat) : Nat := mkm n (fun p => !S.testBit p && (decide (0 < C (S ||| 2 ^ p)) && ok S p))
theorem ldr_lt {n : Nat} {ok : Nat → Nat → Bool} {C : Nat → Nat} {S : Nat} (hn : n < 10) : ldr n ok C S < 512 := Nat.lt_of_lt_of_le mkm_lt (pow9 (by omega))
theorem q_leaders {x n l : Nat} {w : Nat → Nat → Nat} {t : St} (h : CN x n l w t) (g : netAt x = true) (hn : n < 10) {m L S : Nat} {c : Nat → Nat → Nat} {R C : Nat → Nat} (hm : m < 7) (hL : L < 2147483648) (hc : ∀ S p, c S p ≤ 729) (h85 : STP 85 n c t) (h88 : ¬ (m = 0 ∨ m = 1 ∨ m = 5) → RSA 88 n R t) (hR : ∀ S, R S ≤ 1048576) (h89 : RSA 89 n C t) (hC : ∀ S, C S < 400000000) (hS : S < 2 ^ n) : FX9_leadersFrom x (nI m) (nI S) (nI L) t = some (nI (ldr n (okc m L c R) C S), t) := by
  have h3 := pow9 (k := n) (by omega)
  refine Ok.eq ?_
  unfold FX9_leadersFrom ldr
  generalize hP : (fun p => !S.testBit p && (decide (0 < C (S ||| 2 ^ p)) && okc m L c R S p)) = P
  refine Ok.ckT g (Ok.bq (a := nI (mkm n P)) (t := t) (wq n (fun j => (nI (mkm j P), nI j)) (fun j hj => ?_) ?_) (Ok.ret ⟨rfl, rfl⟩))
  · unfold SX9_leadersFrom_6
    dsimp only
    have hPj : P j = (!S.testBit j && (decide (0 < C (S ||| 2 ^ j)) && okc m L c R S j)) := by rw [← hP]
    refine Ok.rdE h.1 (Ok.ifF (by rw [nI_leP (by omega) (by omega)]; omega) ?_)
    refine Ok.bq (a := nI (mkm (j + 1) P)) (t := t) (Ok.eq ?_) (Ok.ret ⟨rfl, by rw [nI_1]⟩)
    show Ok _ (fun r u => t = u ∧ r = nI (mkm j P ||| (if P j = true then 2 ^ j else 0)))
    refine Ok.cv (bitn (by omega) (by omega)) (Ok.ite (fun c0 => ?_) (fun c0 => Ok.ret ⟨rfl, ?_⟩))
    · have hup := set_up hS hj c0
      have hCj := hC (S ||| 2 ^ j)
      rw [shl_1 (by omega), nI_or]
      refine Ok.ckT (inb_n (by omega) (by omega)) ?_
      rw [nI_cl (by omega)]
      refine Ok.rdE (h89 _ hup.2.1) (Ok.cv (nI_leP (b := 0) (by omega) (by omega)) (Ok.ite (fun c1 => Ok.ret ⟨rfl, ?_⟩) (fun c1 => ?_)))
      · rw [hPj, if_neg (by simp [show C (S ||| 2 ^ j) = 0 by omega]), Nat.or_zero]
      · refine Ok.bq (q_fits hn hm hL hc h85 h88 hR hS hj c0) ?_
        by_cases q : okc m L c R S j = true
        · rw [if_pos q]
          refine Ok.ifF (by decide) (Ok.ret ⟨rfl, ?_⟩)
          rw [hPj, if_pos (by simp [c0, q]; omega), nI_or]
        · rw [if_neg q]
          refine Ok.ifT rfl (Ok.ret ⟨rfl, ?_⟩)
          rw [hPj, if_neg (by simp [q]), Nat.or_zero]
    · rw [hPj, if_neg (by simp [bT c0]), Nat.or_zero]
  · unfold SX9_leadersFrom_6
    dsimp only
    exact Ok.rdE h.1 (Ok.ifT (by rw [nI_leP (by omega) (by omega)]; omega) (Ok.ret ⟨rfl, rfl⟩))
/-- o is the row that takes the first of those who may come next -/
def BRW (n : Nat) (ld : Nat → Nat) (o : Nat → Nat) : Prop := ∀ i, i < n → o i < n ∧ (amk o i).testBit (o i) = false ∧ (ld (amk o i)).testBit (o i) = true ∧ ∀ q, q < o i → (ld (amk o i)).testBit q = false
theorem BRW.lt {n : Nat} {ld : Nat → Nat} {o : Nat → Nat} (h : BRW n ld o) : ∀ {i : Nat}, i ≤ n → amk o i < 2 ^ n
  | 0, _ => Nat.two_pow_pos n
  | i + 1, hi => Nat.or_lt_two_pow (h.lt (by omega)) (Nat.pow_lt_pow_right (by decide) (h i (by omega)).1)
theorem e_find {x z n l : Nat} {w : Nat → Nat → Nat} {t : St} (h : CN x n l w t) (g : netAt x = true) (gz : findAt z = true) (hw : WF n w) (hn : n < 10) {m : Nat} (hm : m < 7) (h2m : m ≠ 2) (hx : x + 3 < z ∨ z + 1 < x) (hx8 : x + 3 < 84 ∨ 90 ≤ x) {R C : Nat → Nat} {o : Nat → Nat} (hR : ∀ S, R S = rst n m 1048576 (fun S p => decide (cst n w m S p ≤ 1048576)) (cst n w m) (n - cnt S n) S) (hC : ∀ S, C S = crw n (okc m (R 0) (cst n w m) R) (n - cnt S n) S) (ho : BRW n (ldr n (okc m (R 0) (cst n w m) R) C) o) : Ok (FX9_find x (nI m) z t) (fun _ u => (∀ c, c ≠ 85 → c ≠ 87 → c ≠ 88 → c ≠ 89 → c ≠ z → c ≠ z + 1 → u c = t c) ∧ u z 0 = t z 0 ∧ u z 1 = nI (R 0) ∧ u z 2 = nI (C 0) ∧ u z 3 = nI (ldr n (okc m (R 0) (cst n w m) R) C 0) ∧ ∀ i, i < n → u (z + 1) i = nI (o i)) := by
  have h3 := pow9 (k := n) (by omega)
  have hp2 := Nat.two_pow_pos n
  have hz := find_q gz
  have hcb : ∀ S p, cst n w m S p ≤ 729 := fun S p => cst_le hw hn
  have hRb : ∀ S, R S ≤ 1048576 := fun S => by rw [hR]; exact rst_bd hcb (by omega) (by omega)
  have hCb : ∀ S, C S < 400000000 := fun S => by rw [hC]; exact crw_b hn (by omega)
  have hR0 := hRb 0
  unfold FX9_find
  refine Ok.ckT g (Ok.ckT gz (Ok.bd _ (e_fillSteps (ta := 85) h g hw hn hm (by decide +kernel) (by omega) (by omega)) ?_))
  rintro _ t1 ⟨f1, s1⟩
  have h1 : CN x n l w t1 := h.fr (f1 _ (by omega) (by omega)) (f1 _ (by omega) (by omega)) (f1 _ (by omega) (by omega))
  refine Ok.bd _ (e_fillRest (ta := 85) (L := 1048576) h1 g hn hm h2m hcb hcb (by omega) (by decide +kernel) s1 s1 (by omega)) ?_
  rintro _ t2 ⟨f2, r2⟩
  have r2 : RSA 88 n R t2 := fun S hS => by rw [r2 S hS, hR]
  have h2 : CN x n l w t2 := h1.fr (f2 _ (by omega)) (f2 _ (by omega)) (f2 _ (by omega))
  refine Ok.ckT (by decide) (Ok.rdE (x := nI (R 0)) (r2 0 hp2) (OkwrE ?_))
  refine Ok.ckT (by decide) (Ok.rdE (x := nI (R 0)) (by rw [wrf (by omega)]; exact r2 0 hp2) ?_)
  have a3 : ∀ c, c ≠ z → wr t2 z 1 (nI (R 0)) c = t2 c := fun c hc => wr_off c hc
  have z3 : wr t2 z 1 (nI (R 0)) z 1 = nI (R 0) := wrs
  have y3 : wr t2 z 1 (nI (R 0)) z 0 = t2 z 0 := wrn (by decide)
  generalize wr t2 z 1 (nI (R 0)) = t3 at a3 z3 y3 ⊢
  have h3' : CN x n l w t3 := h2.fr (a3 _ (by omega)) (a3 _ (by omega)) (a3 _ (by omega))
  have s3 : STP 85 n (cst n w m) t3 := fun S p q1 q2 q3 => by rw [a3 85 (by omega), f2 85 (by decide)]; exact s1 S p q1 q2 q3
  have r3 : RSA 88 n R t3 := fun S q => by rw [a3 88 (by omega)]; exact r2 S q
  refine Ok.bd _ (e_countRows (L := R 0) h3' g hn hm (by omega) hcb s3 (fun _ => r3) hRb (by omega)) ?_
  rintro _ t4 ⟨f4, c4⟩
  have c4 : RSA 89 n C t4 := fun S hS => by rw [c4 S hS, hC]
  refine Ok.ckT (by decide) (Ok.rdE (x := nI (C 0)) (c4 0 hp2) (OkwrE ?_))
  refine Ok.ckT (by decide) (Ok.rdE (x := nI (R 0)) (by rw [wrf (by omega), f4 88 (by decide)]; exact r3 0 hp2) ?_)
  have a5 : ∀ c, c ≠ z → wr t4 z 2 (nI (C 0)) c = t4 c := fun c hc => wr_off c hc
  have z5 : wr t4 z 2 (nI (C 0)) z 2 = nI (C 0) := wrs
  have y5 : ∀ j, j ≠ 2 → wr t4 z 2 (nI (C 0)) z j = t4 z j := fun j hj => wrn hj
  generalize wr t4 z 2 (nI (C 0)) = t5 at a5 z5 y5 ⊢
  have h5 : CN x n l w t5 := h3'.fr (by rw [a5 _ (by omega), f4 _ (by omega)]) (by rw [a5 _ (by omega), f4 _ (by omega)]) (by rw [a5 _ (by omega), f4 _ (by omega)])
  have s5 : STP 85 n (cst n w m) t5 := fun S p q1 q2 q3 => by rw [a5 85 (by omega), f4 85 (by decide)]; exact s3 S p q1 q2 q3
  have r5 : RSA 88 n R t5 := fun S q => by rw [a5 88 (by omega), f4 88 (by decide)]; exact r3 S q
  have c5 : RSA 89 n C t5 := fun S q => by rw [a5 89 (by omega)]; exact c4 S q
  refine Ok.bq (q_leaders (S := 0) h5 g hn hm (L := R 0) (by omega) hcb s5 (fun _ => r5) hRb c5 hCb hp2) (OkwrE ?_)
  have a6 : ∀ c, c ≠ z → wr t5 z 3 (nI (ldr n (okc m (R 0) (cst n w m) R) C 0)) c = t5 c := fun c hc => wr_off c hc
  have z6 : wr t5 z 3 (nI (ldr n (okc m (R 0) (cst n w m) R) C 0)) z 3 = nI (ldr n (okc m (R 0) (cst n w m) R) C 0) := wrs
  have y6 : ∀ j, j ≠ 3 → wr t5 z 3 (nI (ldr n (okc m (R 0) (cst n w m) R) C 0)) z j = t5 z j := fun j hj => wrn hj
  generalize wr t5 z 3 (nI (ldr n (okc m (R 0) (cst n w m) R) C 0)) = t6 at a6 z6 y6 ⊢
  refine Ok.bd (fun _ u => (∀ c, c ≠ z + 1 → u c = t6 c) ∧ ∀ i, i < n → u (z + 1) i = nI (o i)) ?_ ?_
  · refine Ok.count n (fun j c u => c = (nI (amk o j), nI j) ∧ (∀ c, c ≠ z + 1 → u c = t6 c) ∧ ∀ i, i < j → u (z + 1) i = nI (o i)) ?_ ?_ (Nat.zero_le _) ⟨rfl, fun _ _ => rfl, fun i hi => by omega⟩
    · rintro j c u hj ⟨rfl, uf, uI⟩
      have e6 : ∀ c, c ≠ z → c ≠ z + 1 → u c = t5 c := fun c q1 q2 => by rw [uf c q2, a6 c q1]
      have hu : CN x n l w u := h5.fr (e6 _ (by omega) (by omega)) (e6 _ (by omega) (by omega)) (e6 _ (by omega) (by omega))
      have su : STP 85 n (cst n w m) u := fun S p q1 q2 q3 => by rw [e6 85 (by omega) (by omega)]; exact s5 S p q1 q2 q3
      have ru : RSA 88 n R u := fun S q => by rw [e6 88 (by omega) (by omega)]; exact r5 S q
      have cu : RSA 89 n C u := fun S q => by rw [e6 89 (by omega) (by omega)]; exact c5 S q
      obtain ⟨o1, o2, o3, o4⟩ := ho j hj
      unfold SX9_find_77
      dsimp only
      refine Ok.rdE hu.1 (Ok.ifF (by rw [nI_leP (by omega) (by omega)]; omega) (Ok.ckT (by decide) (Ok.rdE (x := nI (R 0)) (ru 0 hp2) ?_)))
      refine Ok.bq (q_leaders hu g hn hm (L := R 0) (by omega) hcb su (fun _ => ru) hRb cu hCb (ho.lt (by omega))) (Ok.bq (q_lowest (ldr_lt hn) (by omega) o3 o4) (Ok.ckT (inb_n (by omega) (by omega)) (OkwrE (Ok.ret ⟨?_, fun c hc => by rw [wr_off c hc]; exact uf c hc, fun i hi => ?_⟩))))
      · rw [shl_1 (by omega), nI_or, nI_1]
        rfl
      · rw [nI_cl (by omega)]
        by_cases e : i = j
        · subst e; rw [wrs]
        · rw [wrn e]; exact uI i (by omega)
    · rintro c u ⟨rfl, uf, uI⟩
      have hu : u x 0 = nI n := by rw [uf x (by omega), a6 x (by omega)]; exact h5.1
      unfold SX9_find_77
      exact Ok.rdE hu (Ok.ifT (by rw [nI_leP (by omega) (by omega)]; omega) (Ok.ret ⟨uf, uI⟩))
  · rintro _ u ⟨uf, uI⟩
    refine Ok.ret ⟨fun c c1 c2 c3 c4 c5 c6 => ?_, ?_, ?_, ?_, ?_, uI⟩
    · rw [uf c c6, a6 c c5, a5 c c5, f4 c c4, a3 c c5, f2 c c3, f1 c c1 c2]
    · rw [uf z (by omega), y6 0 (by decide), y5 0 (by decide), f4 z (by omega), y3, f2 z (by omega), f1 z (by omega) (by omega)]
    · rw [uf z (by omega), y6 1 (by decide), y5 1 (by decide), f4 z (by omega)]; exact z3
    · rw [uf z (by omega), y6 2 (by decide)]; exact z5
    · rw [uf z (by omega)]; exact z6
