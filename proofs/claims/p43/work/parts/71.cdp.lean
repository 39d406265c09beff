/-! the class's search over all sets -/
theorem q_newLines9 {x n l : Nat} {w : Nat → Nat → Nat} {t : St} (h : CN x n l w t) (g : netAt x = true) (hn : n < 10) (hA : STP 87 n (nbm w) t) {S p : Nat} (hS : S < 2 ^ n) (hp : p < n) (hb : S.testBit p = false) : FX9_newLines x (nI S) (nI (nbm w S p)) t = some (nI (fil n w S p), t) := by
  have h3 := pow9 (k := n) (by omega)
  refine Ok.eq ?_
  unfold FX9_newLines
  generalize hF : (fun a => if (nbm w S p).testBit a = true then cnt (dif (dif (nbm w S p) (nbm w S a)) (2 ^ (a + 1) - 1)) 9 else 0) = F
  have eF : fil n w S p = sm n F := by unfold fil; rw [hF]
  rw [eF]
  refine Ok.ckT g (Ok.bq (a := nI (sm n F)) (t := t) (wq n (fun j => (nI (sm j F), nI j)) (fun j hj => ?_) ?_) (Ok.ret ⟨rfl, rfl⟩))
  · unfold SX9_newLines_6
    dsimp only
    have hFj : F j = if (nbm w S p).testBit j = true then cnt (dif (dif (nbm w S p) (nbm w S j)) (2 ^ (j + 1) - 1)) 9 else 0 := by rw [← hF]
    have hnb := nbm_lt (w := w) (S := S) (p := p)
    refine Ok.rdE h.1 (Ok.ifF (by rw [nI_leP (by omega) (by omega)]; omega) ?_)
    refine Ok.bq (a := nI (sm (j + 1) F)) (t := t) (Ok.eq ?_) (Ok.ret ⟨rfl, by rw [nI_1]⟩)
    show Ok _ (fun r u => t = u ∧ r = nI (sm j F + F j))
    refine Ok.cv (bitn (by omega) (by omega)) (Ok.ite (fun c => Ok.ret ⟨rfl, ?_⟩) (fun c => ?_))
    · rw [hFj, if_neg (by rw [c]; decide), Nat.add_zero]
    · have c := bT c
      have hj2 : S.testBit j = false := ((nbm_bit (by omega)).mp c).2.1
      unfold FX6_aboveOf
      refine Ok.bq rfl ?_
      rw [li_9, nI_mul, nI_add, abv_all _ hnb _ (by omega)]
      refine Ok.ckT (inb_n (by omega) (by omega)) ?_
      rw [nI_cl (by omega)]
      refine Ok.rdE (hA S j hS hj hj2) ?_
      rw [nI_dif (dif_lt hnb) nbm_lt]
      refine Ok.bq (q_bitCount (dif_lt (dif_lt hnb))) (Ok.ret ⟨rfl, ?_⟩)
      rw [hFj, if_pos c, nI_add, dif_sw hnb]
  · unfold SX9_newLines_6
    dsimp only
    exact Ok.rdE h.1 (Ok.ifT (by rw [nI_leP (by omega) (by omega)]; omega) (Ok.ret ⟨rfl, rfl⟩))
theorem e_takings {x n l ta : Nat} {w : Nat → Nat → Nat} {t : St} (h : CN x n l w t) (g : netAt x = true) (hw : WF n w) (hn : n < 10) {m : Nat} (h56 : m = 5 ∨ m = 6) (hl : ilen ta = 4608) (hta : ta ≠ x ∧ ta ≠ x + 1 ∧ ta ≠ x + 3 ∧ ta ≠ 87) (h87 : 87 ≠ x ∧ 87 ≠ x + 1 ∧ 87 ≠ x + 3) : Ok (FX9_fillTakings x (nI m) ta t) (fun _ u => (∀ c, c ≠ ta → c ≠ 87 → u c = t c) ∧ STP ta n (cst n w m) u) := by
  have h2 := Nat.two_pow_pos n
  have h3 := pow9 (k := n) (by omega)
  unfold FX9_fillTakings
  refine Ok.ckT g (Ok.bd _ (e_around h g hw hn h87) ?_)
  rintro _ t1 ⟨f1, A1⟩
  have h1 : CN x n l w t1 := h.fr (f1 _ (by omega)) (f1 _ (by omega)) (f1 _ (by omega))
  refine Ok.bd (fun _ u => (∀ c, c ≠ ta → u c = t1 c) ∧ STP ta n (cst n w m) u) ?_ (fun _ u hu => Ok.ret ⟨fun c c1 c2 => (hu.1 c c1).trans (f1 c c2), hu.2⟩)
  refine Ok.count (2 ^ n) (fun A c u => c = nI A ∧ (∀ c, c ≠ ta → u c = t1 c) ∧ ∀ S p, S < A → S < 2 ^ n → p < n → S.testBit p = false → u ta (S * 9 + p) = nI (cst n w m S p)) ?_ ?_ (Nat.zero_le _) ⟨rfl, fun _ _ => rfl, fun S p hh => by omega⟩
  · rintro A c u hA ⟨rfl, uf, uI⟩
    have hu : CN x n l w u := h1.fr (uf _ (by omega)) (uf _ (by omega)) (uf _ (by omega))
    unfold SX9_fillTakings_8
    refine Ok.bd (fun r s => u = s ∧ r = nI (2 ^ n - 1)) (e_allBits hu hn g ⟨rfl, rfl⟩) ?_
    rintro _ _ ⟨rfl, rfl⟩
    refine Ok.ifF (by rw [nI_ltP (by omega) (by omega)]; omega) ?_
    refine Ok.bd (fun _ s => (∀ c, c ≠ ta → s c = t1 c) ∧ ∀ S p, S < A + 1 → S < 2 ^ n → p < n → S.testBit p = false → s ta (S * 9 + p) = nI (cst n w m S p)) ?_ (fun _ s hs => Ok.ret ⟨nI_1 A, hs⟩)
    refine Ok.count n (fun j c s => c = nI j ∧ (∀ c, c ≠ ta → s c = t1 c) ∧ ∀ S p, (S < A ∨ (S = A ∧ p < j)) → S < 2 ^ n → p < n → S.testBit p = false → s ta (S * 9 + p) = nI (cst n w m S p)) ?_ ?_ (Nat.zero_le _) ⟨rfl, uf, fun S p a1 => uI S p (by omega)⟩
    · rintro j c s hj ⟨rfl, sf, sI⟩
      have hs : CN x n l w s := h1.fr (sf _ (by omega)) (sf _ (by omega)) (sf _ (by omega))
      have sA : STP 87 n (nbm w) s := fun S p a1 a2 a3 => by rw [sf 87 (by omega)]; exact A1 S p a1 a2 a3
      unfold SX9_fillTakings_20
      refine Ok.rdE hs.1 (Ok.ifF (by rw [nI_leP (by omega) (by omega)]; omega) ?_)
      refine Ok.bd (fun _ y => (∀ c, c ≠ ta → y c = t1 c) ∧ ∀ S p, (S < A ∨ (S = A ∧ p < j + 1)) → S < 2 ^ n → p < n → S.testBit p = false → y ta (S * 9 + p) = nI (cst n w m S p)) ?_ (fun _ y hy => Ok.ret ⟨nI_1 j, hy⟩)
      rw [li_9, nI_mul, nI_add]
      refine Ok.cv (bitn (by omega) (by omega)) (Ok.ite (fun c0 => Ok.ckT (inb_n (by omega) (by omega)) ?_) (fun c0 => Ok.ret ⟨sf, fun S p a1 a2 a3 a4 => ?_⟩))
      · rw [nI_cl (by omega)]
        refine Ok.rdE (sA A j hA hj c0) (Ok.bq (a := nI (cst n w m A j)) (t := s) (Ok.eq ?_) ?_)
        · have hm7 : m < 7 := by omega
          rw [li_5]
          refine Ok.cv (nI_lit hm7 (by omega)) (Ok.ite (fun c5 => Ok.bq (q_bitCount nbm_lt) (Ok.ret ⟨rfl, ?_⟩)) (fun c5 => Ok.bq (q_newLines9 hs g hn sA hA hj c0) (Ok.ret ⟨rfl, ?_⟩)))
          · unfold cst prc ast
            rw [if_pos c5, if_pos (Or.inl c5)]
          · unfold cst prc ast
            rw [if_neg c5, if_pos (by omega), if_pos (by omega)]
        · rw [hl]
          refine Ok.ckT (inb_n (by omega) (by omega)) (OkwrE (Ok.ret ⟨fun c hc => by rw [wr_off c hc]; exact sf c hc, fun S p a1 a2 a3 a4 => ?_⟩))
          by_cases e : S = A ∧ p = j
          · obtain ⟨rfl, rfl⟩ := e
            rw [wrs]
          · rw [wrn (by omega)]
            exact sI S p (by omega) a2 a3 a4
      · refine sI S p ?_ a2 a3 a4
        rcases a1 with a1 | ⟨rfl, a1⟩
        · exact Or.inl a1
        · refine Or.inr ⟨rfl, ?_⟩
          by_cases e : p = j
          · subst e; exact absurd a4 c0
          · omega
    · rintro c s ⟨rfl, sf, sI⟩
      have hs : CN x n l w s := h1.fr (sf _ (by omega)) (sf _ (by omega)) (sf _ (by omega))
      unfold SX9_fillTakings_20
      exact Ok.rdE hs.1 (Ok.ifT (by rw [nI_leP (by omega) (by omega)]; omega) (Ok.ret ⟨sf, fun S p a1 a2 a3 => sI S p (by omega) a2 a3⟩))
  · rintro c u ⟨rfl, uf, uI⟩
    have hu : CN x n l w u := h1.fr (uf _ (by omega)) (uf _ (by omega)) (uf _ (by omega))
    unfold SX9_fillTakings_8
    refine Ok.bd (fun r s => u = s ∧ r = nI (2 ^ n - 1)) (e_allBits hu hn g ⟨rfl, rfl⟩) ?_
    rintro _ _ ⟨rfl, rfl⟩
    exact Ok.ifT (by rw [nI_ltP (by omega) (by omega)]; omega) (Ok.ret ⟨uf, fun S p a1 a2 a3 => uI S p a1 a1 a2 a3⟩)
theorem e_fillSteps {x n l ta : Nat} {w : Nat → Nat → Nat} {t : St} (h : CN x n l w t) (g : netAt x = true) (hw : WF n w) (hn : n < 10) {m : Nat} (hm : m < 7) (hl : ilen ta = 4608) (hta : ta ≠ x ∧ ta ≠ x + 1 ∧ ta ≠ x + 3 ∧ ta ≠ 87) (h87 : 87 ≠ x ∧ 87 ≠ x + 1 ∧ 87 ≠ x + 3) : Ok (FX9_fillSteps x (nI m) ta t) (fun _ u => (∀ c, c ≠ ta → c ≠ 87 → u c = t c) ∧ STP ta n (cst n w m) u) := by
  unfold FX9_fillSteps
  refine Ok.ckT g (Ok.bq (q_taken hm) ?_)
  by_cases c : m = 5 ∨ m = 6
  · rw [if_pos c]
    exact Ok.ifF (by decide) (Ok.bd _ (e_takings h g hw hn c hl hta h87) (fun _ u hu => Ok.ret hu))
  · rw [if_neg c]
    exact Ok.ifT rfl (Ok.bd _ (e_steps0 h g hw hn hm c hl ⟨hta.1, hta.2.1, hta.2.2.1⟩) (fun _ u hu => Ok.ret ⟨fun c c1 _ => hu.1 c c1, hu.2⟩))
theorem jn_comm {m a b : Nat} : jn m a b = jn m b a := by
  unfold jn
  split
  · exact Nat.max_comm a b
  · exact Nat.add_comm a b
/-- the least from each set on lies in the array ta -/
def RSA (ta n : Nat) (f : Nat → Nat) (t : St) : Prop := ∀ S, S < 2 ^ n → t ta S = nI (f S)
theorem nI_m1 {a : Nat} (h : 1 ≤ a) : nI a + (-1) = nI (a - 1) := by
  have e : nI a + (-1) = nI a - nI 1 := by
    show nI a + (-1) = nI a - 1
    rw [Int32.sub_eq_add_neg]
  rw [e, nI_sub h]
theorem m1_lt : ((-1 : Int32) < 0) := by decide
theorem rst_bd {n m T : Nat} {al : Nat → Nat → Bool} {c : Nat → Nat → Nat} (hc : ∀ S p, c S p ≤ 729) (hT : 7000 < T) {k S : Nat} (hk : k ≤ 9) : rst n m T al c k S ≤ T := by
  rcases rst_T (n := n) (m := m) (al := al) hc hT hT (k := k) (S := S) hk with ⟨-, h⟩ | ⟨h, -⟩ <;> omega
theorem e_fillRest {x n l ta : Nat} {w : Nat → Nat → Nat} {t : St} (h : CN x n l w t) (g : netAt x = true) (hn : n < 10) {m L : Nat} (hm : m < 7) (h2m : m ≠ 2) {c gd : Nat → Nat → Nat} (hc : ∀ S p, c S p ≤ 729) (hgd : ∀ S p, gd S p ≤ 729) (hL : L < 2000000) (hl : ilen ta = 4608) (h85 : STP 85 n c t) (hta : STP ta n gd t) (h88 : ta ≠ 88 ∧ 88 ≠ x ∧ 88 ≠ x + 1 ∧ 88 ≠ x + 3) : Ok (FX9_fillRest x (nI m) ta (nI L) t) (fun _ u => (∀ c, c ≠ 88 → u c = t c) ∧ RSA 88 n (fun S => rst n m 1048576 (fun S p => decide (gd S p ≤ L)) c (n - cnt S n) S) u) := by
  have h2 := Nat.two_pow_pos n
  have h3 := pow9 (k := n) (by omega)
  generalize hR : (fun S => rst n m 1048576 (fun S p => decide (gd S p ≤ L)) c (n - cnt S n) S) = R
  have hRb : ∀ S, R S ≤ 1048576 := fun S => by rw [← hR]; exact rst_bd hc (by omega) (by omega)
  unfold FX9_fillRest
  refine Ok.ckT g (Ok.bd (fun r s => t = s ∧ r = nI (2 ^ n - 1)) (e_allBits h hn g ⟨rfl, rfl⟩) ?_)
  rintro _ _ ⟨rfl, rfl⟩
  refine Ok.ckT (inb_n (by omega) (by omega)) (OkwrE ?_)
  rw [nI_cl (by omega)]
  refine Ok.bd (fun _ u => (∀ c, c ≠ 88 → u c = t c) ∧ RSA 88 n R u) ?_ (fun _ u hu => Ok.ret hu)
  refine Ok.loop (fun k cc u => ∃ A, k = A ∧ A ≤ 2 ^ n - 1 ∧ cc = nI A - 1 ∧ (∀ c, c ≠ 88 → u c = t c) ∧ ∀ S, A ≤ S → S < 2 ^ n → u 88 S = nI (R S)) ?_ (2 ^ n - 1) _ _ ⟨2 ^ n - 1, rfl, Nat.le_refl _, rfl, fun c hc => wr_off c hc, fun S a1 a2 => ?_⟩
  · rintro k cc u ⟨A, rfl, hA, rfl, uf, uI⟩
    have hu : CN x n l w u := h.fr (uf _ (by omega)) (uf _ (by omega)) (uf _ (by omega))
    unfold SX9_fillRest_20
    by_cases e0 : k = 0
    · subst e0
      refine Ok.ifT (by decide) (Ok.ret ⟨uf, fun S a => uI S (Nat.zero_le _) a⟩)
    · rw [li_1, nI_sub (by omega)]
      refine Ok.ifF (by rw [li_0, nI_ltP (by omega) (by omega)]; omega) ?_
      have hk1 : cnt (k - 1) n < n := cnt_ltf (by omega)
      obtain ⟨kk, hkk⟩ : ∃ kk, n - cnt (k - 1) n = kk + 1 := ⟨n - cnt (k - 1) n - 1, by omega⟩
      have eR : R (k - 1) = mns (fun p => !(k - 1).testBit p && decide (gd (k - 1) p ≤ L)) (fun p => jn m (c (k - 1) p) (R ((k - 1) ||| 2 ^ p))) 1048576 n := by
        rw [← hR]
        dsimp only
        rw [hkk]
        refine mns_congr (fun _ _ => rfl) (fun p hp hq => ?_)
        have hb : (k - 1).testBit p = false := by
          simp only [Bool.and_eq_true, Bool.not_eq_true'] at hq
          exact hq.1
        have := (set_up (S := k - 1) (n := n) (by omega) hp hb).2.2
        rw [show n - cnt (k - 1 ||| 2 ^ p) n = kk by omega]
      refine Ok.bq (a := nI (R (k - 1))) (t := u) ?_ ?_
      · rw [eR]
        refine wq n (fun j => (nI (mns (fun p => !(k - 1).testBit p && decide (gd (k - 1) p ≤ L)) (fun p => jn m (c (k - 1) p) (R ((k - 1) ||| 2 ^ p))) 1048576 j), nI j)) (fun j hj => ?_) ?_
        · unfold SX9_fillRest_32
          dsimp only
          refine Ok.rdE hu.1 (Ok.ifF (by rw [nI_leP (by omega) (by omega)]; omega) ?_)
          refine Ok.bq (a := nI (mns (fun p => !(k - 1).testBit p && decide (gd (k - 1) p ≤ L)) (fun p => jn m (c (k - 1) p) (R ((k - 1) ||| 2 ^ p))) 1048576 (j + 1))) (t := u) (Ok.eq ?_) (Ok.ret ⟨rfl, by rw [nI_1]⟩)
          show Ok _ (fun r s => u = s ∧ r = nI (if (!(k - 1).testBit j && decide (gd (k - 1) j ≤ L)) = true then Nat.min (mns _ _ 1048576 j) (jn m (c (k - 1) j) (R ((k - 1) ||| 2 ^ j))) else mns _ _ 1048576 j))
          have hmb := mns_le (P := fun p => !(k - 1).testBit p && decide (gd (k - 1) p ≤ L)) (f := fun p => jn m (c (k - 1) p) (R ((k - 1) ||| 2 ^ p))) (T := 1048576) (n := j)
          refine Ok.cv (bitn (by omega) (by omega)) (Ok.ite (fun c0 => ?_) (fun c0 => Ok.ret ⟨rfl, ?_⟩))
          · rw [li_9, nI_mul, nI_add, hl]
            have hg1 := hgd (k - 1) j
            have hc1 := hc (k - 1) j
            have hup := set_up (S := k - 1) (n := n) (by omega) hj c0
            have hRj := hRb ((k - 1) ||| 2 ^ j)
            refine Ok.ckT (inb_n (by omega) (by omega)) ?_
            rw [nI_cl (by omega)]
            refine Ok.rdE (x := nI (gd (k - 1) j)) (by rw [uf ta h88.1]; exact hta _ _ (by omega) hj c0) ?_
            refine Ok.cv (nI_ltP (by omega) (by omega)) (Ok.ite (fun c1 => Ok.ret ⟨rfl, ?_⟩) (fun c1 => ?_))
            · rw [if_neg (by simp; omega)]
            · rw [shl_1 (by omega), nI_or]
              refine Ok.ckT (inb_n (by omega) (by omega)) ?_
              rw [nI_cl (by omega)]
              refine Ok.rdE (uI _ (by omega) hup.2.1) (Ok.ckT (inb_n (by omega) (by omega)) ?_)
              refine Ok.rdE (x := nI (c (k - 1) j)) (by rw [uf 85 (by decide)]; exact h85 _ _ (by omega) hj c0) ?_
              have hjl := jn_le (m := m) hc1 hRj
              refine Ok.bq (q_joined hm h2m (by omega) (by omega)) (Ok.ret ⟨rfl, ?_⟩)
              rw [jn_comm, mnI_n (by omega) (by omega), if_pos (by simp [c0]; omega)]
          · rw [if_neg (by simp [bT c0])]
        · unfold SX9_fillRest_32
          dsimp only
          exact Ok.rdE hu.1 (Ok.ifT (by rw [nI_leP (by omega) (by omega)]; omega) (Ok.ret ⟨rfl, rfl⟩))
      · refine Ok.ckT (inb_n (by omega) (by omega)) (OkwrE (Ok.ret ⟨k - 1, by omega, k - 1, rfl, by omega, ?_, fun c hc => by rw [wr_off c hc]; exact uf c hc, fun S a1 a2 => ?_⟩))
        · rw [Int32.sub_eq_add_neg]
        · rw [nI_cl (by omega)]
          by_cases e : S = k - 1
          · subst e; rw [wrs]
          · rw [wrn e]; exact uI S (by omega) a2
  · have : S = 2 ^ n - 1 := by omega
    subst this
    rw [wrs, ← hR]
    dsimp only
    rw [cnt_fl, Nat.sub_self]
    rfl
