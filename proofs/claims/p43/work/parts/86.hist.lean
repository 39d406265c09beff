/-! slots, and slots as they were -/
abbrev V4 := Nat × Nat × (Nat → Nat → Nat) × (Nat → Nat)
def GV (v : V4) : Prop := GN v.1 v.2.1 v.2.2.1 ∧ v.2.1 ≤ 30 ∧ PFX v.1 v.1 v.2.2.2 ∧ ∀ i, v.1 ≤ i → v.2.2.2 i = 0
def CS (x : Nat) (v : V4) (t : St) : Prop := CN x v.1 v.2.1 v.2.2.1 t ∧ CO x v.1 v.2.2.2 t
theorem CS.fr {x : Nat} {v : V4} {t u : St} (h : CS x v t) (e0 : u x = t x) (e1 : u (x + 1) = t (x + 1)) (e2 : u (x + 2) = t (x + 2)) (e3 : u (x + 3) = t (x + 3)) : CS x v u := ⟨h.1.fr e0 e1 e3, fun i hi => by rw [e2]; exact h.2 i hi⟩
theorem CS.fr4 {x : Nat} {v : V4} {t u : St} (h : CS x v t) (e : ∀ c, x ≤ c → c ≤ x + 3 → u c = t c) : CS x v u := h.fr (e _ (by omega) (by omega)) (e _ (by omega) (by omega)) (e _ (by omega) (by omega)) (e _ (by omega) (by omega))
theorem CS.cp {x y : Nat} {v : V4} {t u : St} (h : CS y v t) (hn : v.1 < 10) (e0 : u x 0 = t y 0) (e1 : u x 1 = t y 1) (e2 : ∀ i, i < 9 → u (x + 1) i = t (y + 1) i) (e4 : ∀ i, i < 9 → u (x + 2) i = t (y + 2) i) (e3 : ∀ i, i < 81 → u (x + 3) i = t (y + 3) i) : CS x v u := ⟨h.1.cp e0 e1 e2 e3, fun i hi => (e4 i (by omega)).trans (h.2 i hi)⟩
/-- the 91 numbers of a slot -/
def enc (v : V4) (k : Nat) : Nat := if k = 0 then v.1 else if k < 82 then v.2.2.1 ((k - 1) / 9) ((k - 1) % 9) else v.2.2.2 (k - 82)
theorem GV.o9 {v : V4} (h : GV v) (i : Nat) : v.2.2.2 i < 9 := by
  by_cases c : i < v.1
  · have := h.2.2.1.1 i c
    have := h.1.1
    omega
  · rw [h.2.2.2 i (by omega)]; omega
theorem GV.on {v : V4} (h : GV v) {i : Nat} (hi : i < v.1) : v.2.2.2 i < v.1 := h.2.2.1.1 i hi
theorem enc_lt {v : V4} (h : GV v) (k : Nat) : enc v k < 10 := by
  unfold enc
  have a1 := h.1.1
  have a2 := h.1.2.1.1 ((k - 1) / 9) ((k - 1) % 9)
  have a3 := h.o9 (k - 82)
  split
  · exact a1
  · split
    · exact a2
    · omega
theorem enc_inj {v u : V4} (h : GV v) (g : GV u) (e : ∀ k, k < 91 → enc v k = enc u k) : v = u := by
  obtain ⟨n, l, w, o⟩ := v
  obtain ⟨n', l', w', o'⟩ := u
  have e0 : n = n' := e 0 (by omega)
  subst e0
  obtain ⟨⟨hn, hw, hl⟩, -, -, ho⟩ := h
  obtain ⟨⟨-, hw', hl'⟩, -, -, ho'⟩ := g
  dsimp only at hn hw hl ho hw' hl' ho'
  have ew : w = w' := by
    refine hw.ext hw' (fun a b ha hb => ?_)
    have := e (1 + 9 * a + b) (by omega)
    unfold enc at this
    rw [if_neg (by omega), if_pos (by omega), if_neg (by omega), if_pos (by omega)] at this
    rw [show (1 + 9 * a + b - 1) / 9 = a by omega, show (1 + 9 * a + b - 1) % 9 = b by omega] at this
    exact this
  subst ew
  have el : l = l' := by omega
  subst el
  have eo : o = o' := by
    funext i
    by_cases c : i < 9
    · have := e (82 + i) (by omega)
      unfold enc at this
      rw [if_neg (by omega), if_neg (by omega), if_neg (by omega), if_neg (by omega), show 82 + i - 82 = i by omega] at this
      exact this
    · rw [ho i (by omega), ho' i (by omega)]
  rw [eo]
def RA (b e : Nat) (A : Nat → V4) (t : St) : Prop := ∀ k, k < 273 → t b (e + k) = nI (enc (A (k / 91)) (k % 91))
theorem RA.fr {b e : Nat} {A : Nat → V4} {t u : St} (h : RA b e A t) (g : ∀ k, k < 273 → u b (e + k) = t b (e + k)) : RA b e A u := fun k hk => by rw [g k hk]; exact h k hk
theorem RA.rn {A : Nat → V4} {t : St} (h : RA 150 0 A t) {s : Nat} (hs : s < 3) : RN s (A s).1 (A s).2.2.1 t := by
  refine ⟨?_, fun a b ha hb => ?_⟩
  · have := h (91 * s) (by omega)
    rw [show 91 * s / 91 = s by omega, show 91 * s % 91 = 0 by omega, Nat.zero_add] at this
    exact this
  · have := h (91 * s + 1 + 9 * a + b) (by omega)
    rw [show (91 * s + 1 + 9 * a + b) / 91 = s by omega, show (91 * s + 1 + 9 * a + b) % 91 = 1 + 9 * a + b by omega, Nat.zero_add] at this
    rw [this]
    unfold enc
    rw [if_neg (by omega), if_pos (by omega), show (1 + 9 * a + b - 1) / 9 = a by omega, show (1 + 9 * a + b - 1) % 9 = b by omega]
theorem RA.ro {A : Nat → V4} {t : St} (h : RA 150 0 A t) {s : Nat} (hs : s < 3) (g : GV (A s)) : RO s (A s).1 (A s).2.2.2 t := by
  intro i hi
  have := h (91 * s + 82 + i) (by omega)
  rw [show (91 * s + 82 + i) / 91 = s by omega, show (91 * s + 82 + i) % 91 = 82 + i by omega, Nat.zero_add] at this
  rw [this]
  unfold enc
  rw [if_neg (by omega), if_neg (by omega), show 82 + i - 82 = i by omega]
  by_cases c : i < (A s).1
  · rw [if_pos c]
  · rw [if_neg c, g.2.2.2 i (by omega)]
def upA (A : Nat → V4) (s : Nat) (v : V4) : Nat → V4 := fun r => if r = s then v else A r
theorem upA_s {A : Nat → V4} {s : Nat} {v : V4} : upA A s v s = v := if_pos rfl
theorem upA_n {A : Nat → V4} {s r : Nat} {v : V4} (h : r ≠ s) : upA A s v r = A r := if_neg h
theorem upA_self {A : Nat → V4} {s : Nat} : upA A s (A s) = A := funext (fun r => by
  by_cases e : r = s
  · subst e; exact upA_s
  · exact upA_n e)
theorem RA.up {A : Nat → V4} {t u : St} (h : RA 150 0 A t) {s : Nat} (hs : s < 3) {v : V4} (hn : RN s v.1 v.2.2.1 u) (ho : RO s v.1 v.2.2.2 u) (hv : GV v) (f : ∀ j, (j < 91 * s ∨ 91 * s + 91 ≤ j) → u 150 j = t 150 j) : RA 150 0 (upA A s v) u := by
  intro k hk
  rw [Nat.zero_add]
  by_cases e : k / 91 = s
  · rw [e, upA_s]
    unfold enc
    by_cases c0 : k % 91 = 0
    · rw [if_pos c0, ← hn.1]
      congr 1
      omega
    · rw [if_neg c0]
      by_cases c1 : k % 91 < 82
      · rw [if_pos c1, ← hn.2 ((k % 91 - 1) / 9) ((k % 91 - 1) % 9) (by omega) (by omega)]
        congr 1
        omega
      · rw [if_neg c1]
        have := ho (k % 91 - 82) (by omega)
        rw [show 91 * s + 82 + (k % 91 - 82) = k by omega] at this
        rw [this]
        by_cases c : k % 91 - 82 < v.1
        · rw [if_pos c]
        · rw [if_neg c, hv.2.2.2 _ (by omega)]
  · rw [upA_n e, f k (by omega)]
    have := h k hk
    rw [Nat.zero_add] at this
    exact this
/-- one more act behind m -/
def kpu (K : Nat → Nat → V4) (m : Nat) (A : Nat → V4) : Nat → Nat → V4 := fun j => if m = 10 then (if j < 10 then K (j + 1) else A) else (if j ≤ m then K j else A)
def mpu (m : Nat) : Nat := if m = 10 then 10 else m + 1
def NXT (K : Nat → Nat → V4) (m s : Nat) (v : V4) (K' : Nat → Nat → V4) (m' : Nat) : Prop := (v = K m s ∧ K' = K ∧ m' = m) ∨ (v ≠ K m s ∧ K' = kpu K m (upA (K m) s v) ∧ m' = mpu m)
theorem kpu_cur {K : Nat → Nat → V4} {m : Nat} {A : Nat → V4} : kpu K m A (mpu m) = A := by
  unfold kpu mpu
  by_cases c : m = 10
  · rw [if_pos c, if_pos c, if_neg (by omega)]
  · rw [if_neg c, if_neg c, if_neg (by omega)]
theorem NXT.cur {K K' : Nat → Nat → V4} {m m' s : Nat} {v : V4} (h : NXT K m s v K' m') : K' m' = upA (K m) s v := by
  rcases h with ⟨rfl, rfl, rfl⟩ | ⟨-, rfl, rfl⟩
  · exact upA_self.symm
  · exact kpu_cur
def GK (K : Nat → Nat → V4) (m : Nat) : Prop := m ≤ 10 ∧ ∀ j, j ≤ m → ∀ s, s < 3 → GV (K j s)
theorem GK.nx {K K' : Nat → Nat → V4} {m m' s : Nat} {v : V4} (h : GK K m) (hv : GV v) (g : NXT K m s v K' m') : GK K' m' := by
  rcases g with ⟨rfl, rfl, rfl⟩ | ⟨-, rfl, rfl⟩
  · exact h
  · have hm := h.1
    have hA : ∀ r, r < 3 → GV (upA (K m) s v r) := fun r hr => by
      by_cases e : r = s
      · rw [e, upA_s]; exact hv
      · rw [upA_n e]; exact h.2 m (Nat.le_refl _) r hr
    refine ⟨by unfold mpu; split <;> omega, fun j hj r hr => ?_⟩
    unfold kpu
    unfold mpu at hj
    by_cases c : m = 10
    · rw [if_pos c] at hj ⊢
      by_cases c2 : j < 10
      · rw [if_pos c2]; exact h.2 (j + 1) (by omega) r hr
      · rw [if_neg c2]; exact hA r hr
    · rw [if_neg c] at hj ⊢
      by_cases c2 : j ≤ m
      · rw [if_pos c2]; exact h.2 j c2 r hr
      · rw [if_neg c2]; exact hA r hr
/-! the class -/
def HCs (K : Nat → Nat → V4) (m : Nat) (t : St) : Prop := t 98 0 = nI m ∧ ∃ nx, nx < 10 ∧ t 98 1 = nI nx ∧ ∀ j, j < m → ∃ s, s < 3 ∧ t 99 ((nx + 10 - m + j) % 10) = nI s ∧ CS (101 + 4 * ((nx + 10 - m + j) % 10)) (K j s) t ∧ ∀ r, r < 3 → r ≠ s → K (j + 1) r = K j r
def CST (K : Nat → Nat → V4) (m : Nat) (t : St) : Prop := (∀ s, s < 3 → CS (12 + 24 * s) (K m s) t) ∧ HCs K m t
theorem HCs.fr {K : Nat → Nat → V4} {m : Nat} {t u : St} (h : HCs K m t) (hm : m ≤ 10) (e : ∀ c, 98 ≤ c → c ≤ 140 → u c = t c) : HCs K m u := by
  obtain ⟨h0, nx, h1, h2, h3⟩ := h
  refine ⟨by rw [e 98 (by omega) (by omega)]; exact h0, nx, h1, by rw [e 98 (by omega) (by omega)]; exact h2, fun j hj => ?_⟩
  obtain ⟨s, a1, a2, a3, a4⟩ := h3 j hj
  exact ⟨s, a1, by rw [e 99 (by omega) (by omega)]; exact a2, a3.fr4 (fun c c1 c2 => e c (by omega) (by omega)), a4⟩
theorem CST.fr {K : Nat → Nat → V4} {m : Nat} {t u : St} (h : CST K m t) (hm : m ≤ 10) (e1 : ∀ s, s < 3 → ∀ c, 12 + 24 * s ≤ c → c ≤ 12 + 24 * s + 3 → u c = t c) (e : ∀ c, 98 ≤ c → c ≤ 140 → u c = t c) : CST K m u := ⟨fun s hs => (h.1 s hs).fr4 (e1 s hs), h.2.fr hm e⟩
def dfo (n : Nat) (o o' : Nat → Nat) : Nat := sm n (fun i => if o i = o' i then 0 else 1)
theorem dfo_le {n : Nat} {o o' : Nat → Nat} : dfo n o o' ≤ n := sm_le1 (fun i => by split <;> omega)
theorem dfo_sy {n : Nat} {o o' : Nat → Nat} : dfo n o o' = dfo n o' o := sm_congr (fun i _ => by
  by_cases c : o i = o' i
  · rw [if_pos c, if_pos c.symm]
  · rw [if_neg c, if_neg (fun q => c q.symm)])
theorem dfo_0 {o o' : Nat → Nat} : ∀ {n : Nat}, dfo n o o' = 0 ↔ ∀ i, i < n → o i = o' i
  | 0 => ⟨fun _ i hi => by omega, fun _ => rfl⟩
  | n + 1 => by
    have ih := dfo_0 (o := o) (o' := o') (n := n)
    have e : dfo (n + 1) o o' = dfo n o o' + (if o n = o' n then 0 else 1) := rfl
    rw [e]
    by_cases c : o n = o' n
    · rw [if_pos c, Nat.add_zero, ih]
      refine ⟨fun h i hi => ?_, fun h i hi => h i (by omega)⟩
      by_cases q : i = n
      · rw [q]; exact c
      · exact h i (by omega)
    · rw [if_neg c]
      exact ⟨fun h => by omega, fun h => absurd (h n (Nat.lt_succ_self n)) c⟩
theorem q_placesUnlike {x y n : Nat} {o o' : Nat → Nat} {t : St} (gx : netAt x = true) (gy : netAt y = true) (hn : n < 10) (h0 : t x 0 = nI n) (hx : CO x n o t) (hy : CO y n o' t) (h9 : ∀ i, i < n → o i < 9) (h9' : ∀ i, i < n → o' i < 9) : FX5_placesUnlike x y t = some (nI (dfo n o o'), t) := by
  refine Ok.eq ?_
  unfold FX5_placesUnlike
  refine Ok.ckT gx (Ok.ckT gy (Ok.bq (a := nI (dfo n o o')) (t := t) (wq n (fun j => (nI (dfo j o o'), nI j)) (fun j hj => ?_) ?_) (Ok.ret ⟨rfl, rfl⟩)))
  · unfold SX5_placesUnlike_4
    dsimp only
    refine Ok.rdE h0 (Ok.ifF (by rw [nI_leP (by omega) (by omega)]; omega) (Ok.ckT (inb_n (by omega) (by omega)) ?_))
    rw [nI_cl (by omega)]
    refine Ok.rdE (hx j hj) (Ok.ckT (inb_n (by omega) (by omega)) (Ok.rdE (hy j hj) ?_))
    have a1 := h9 j hj
    have a2 := h9' j hj
    refine Ok.bq (a := nI (dfo (j + 1) o o')) (t := t) (Ok.eq ?_) (Ok.ret ⟨rfl, by rw [nI_1]⟩)
    show Ok _ (fun r u => t = u ∧ r = nI (dfo j o o' + (if o j = o' j then 0 else 1)))
    refine Ok.cv (nI_eqP (by omega) (by omega)) (Ok.ite (fun c => Ok.ret ⟨rfl, ?_⟩) (fun c => Ok.ret ⟨rfl, ?_⟩))
    · rw [if_pos c, Nat.add_zero]
    · rw [if_neg c, nI_1]
  · unfold SX5_placesUnlike_4
    dsimp only
    exact Ok.rdE h0 (Ok.ifT (by rw [nI_leP (by omega) (by omega)]; omega) (Ok.ret ⟨rfl, rfl⟩))
theorem e_sameAs {x y : Nat} {v u : V4} {t : St} (gx : netAt x = true) (gy : netAt y = true) (h : CS x v t) (h' : CS y u t) (G : GV v) (G' : GV u) {Q : Int32 → St → Prop} (q1 : v = u → Q 1 t) (q0 : v ≠ u → Q 0 t) : Ok (FX5_sameAs x y t) Q := by
  unfold FX5_sameAs
  refine Ok.ckT gx (Ok.ckT gy (Ok.bd (fun r z => t = z ∧ ((r = 1 ∧ v.1 = u.1 ∧ v.2.2.1 = u.2.2.1) ∨ (r = 0 ∧ ¬ (v.1 = u.1 ∧ v.2.2.1 = u.2.2.1)))) (e_sameLines h.1 h'.1 gx gy G.1 G'.1 (fun a b => ⟨rfl, Or.inl ⟨rfl, a, b⟩⟩) (fun a => ⟨rfl, Or.inr ⟨rfl, a⟩⟩)) ?_))
  obtain ⟨n, l, w, o⟩ := v
  obtain ⟨n', l', w', o'⟩ := u
  rintro r _ ⟨rfl, ⟨rfl, e1, e2⟩ | ⟨rfl, e⟩⟩
  · dsimp only at e1 e2
    subst e1
    subst e2
    have hn : n < 10 := G.1.1
    have l1 : 2 * l = dcn n w := G.1.2.2
    have l2 : 2 * l' = dcn n w := G'.1.2.2
    have : l = l' := by omega
    subst this
    refine Ok.ifF (by decide) (Ok.bq (q_placesUnlike (o := o) (o' := o') gx gy hn h.1.1 h.2 h'.2 (fun i _ => G.o9 i) (fun i _ => G'.o9 i)) ?_)
    have hd := dfo_le (n := n) (o := o) (o' := o')
    refine Ok.cv (nI_q0 (by omega)) (Ok.ite (fun c => Ok.ret (q1 ?_)) (fun c => Ok.ret (q0 (fun q => c ?_))))
    · have : o = o' := funext (fun i => by
        by_cases q : i < n
        · exact dfo_0.mp c i q
        · have a : o i = 0 := G.2.2.2 i (by show n ≤ i; omega)
          have b : o' i = 0 := G'.2.2.2 i (by show n ≤ i; omega)
          rw [a, b])
      rw [this]
    · have : o = o' := congrArg (fun z : V4 => z.2.2.2) q
      rw [this]
      exact dfo_0.mpr (fun _ _ => rfl)
  · exact Ok.ifT rfl (Ok.ret (q0 (fun q => e (by rw [q]; exact ⟨rfl, rfl⟩))))
theorem el100 {k : Nat} (hk : k < 10) : el 100 (nI k) = 101 + 4 * k := by
  rcases (show k = 0 ∨ k = 1 ∨ k = 2 ∨ k = 3 ∨ k = 4 ∨ k = 5 ∨ k = 6 ∨ k = 7 ∨ k = 8 ∨ k = 9 by omega) with rfl | rfl | rfl | rfl | rfl | rfl | rfl | rfl | rfl | rfl <;> decide +kernel
theorem n_hs {k : Nat} (hk : k < 10) : netAt (101 + 4 * k) = true := by
  rcases (show k = 0 ∨ k = 1 ∨ k = 2 ∨ k = 3 ∨ k = 4 ∨ k = 5 ∨ k = 6 ∨ k = 7 ∨ k = 8 ∨ k = 9 by omega) with rfl | rfl | rfl | rfl | rfl | rfl | rfl | rfl | rfl | rfl <;> decide +kernel
theorem e_remember {K : Nat → Nat → V4} {m s : Nat} {v : V4} {t : St} (hG : GK K m) (hs : s < 3) (h141 : CS 141 (K m s) t) (hH : HCs K m t) : Ok (FX4_remember (nI s) 141 t) (fun _ u => HCs (kpu K m (upA (K m) s v)) (mpu m) u ∧ ∀ c, (c < 98 ∨ 140 < c) → u c = t c) := by
  obtain ⟨h0, nx, hx, h1, h2⟩ := hH
  have hm := hG.1
  unfold FX4_remember
  refine Ok.ckT n_141 (Ok.rdE h1 (Ok.ckT (inb_n hx (by omega)) (OkwrE ?_)))
  rw [nI_cl (by omega)]
  have w1 : ∀ c, c ≠ 99 → wr t 99 nx (nI s) c = t c := fun c hc => wr_off c hc
  refine Ok.rdE (x := nI nx) (by rw [w1 98 (by decide)]; exact h1) ?_
  rw [el100 hx]
  refine Ok.ckT (inb_n hx (by omega)) (Ok.ckT (n_hs hx) (Ok.bd _ (e_copyFrom (n_hs hx) n_141 (by omega)) ?_))
  rintro _ t1 ⟨f1, a0, a1, a2, a4, a3⟩
  have ht1 : CS (101 + 4 * nx) (K m s) t1 := (h141.fr4 (u := wr t 99 nx (nI s)) (fun c c1 c2 => w1 c (by omega))).cp (hG.2 m (Nat.le_refl _) s hs).1.1 a0 a1 a2 a4 a3
  have e98 : t1 98 = t 98 := by rw [f1 98 (by omega), w1 98 (by decide)]
  refine Ok.rdE (x := nI nx) (by rw [e98]; exact h1) (OkwrE (Ok.rdE (x := nI m) (by rw [wrn (by decide), e98]; exact h0) (OkwrE (Ok.ret ?_))))
  have ei : irem (nI nx + 1) (10 : Int32) = nI ((nx + 1) % 10) := by
    rw [nI_1, li_10]
    exact nI_remN (by omega) (by omega) (by omega)
  have em : mnI (10 : Int32) (nI m + 1) = nI (mpu m) := by
    rw [nI_1, li_10, mnI_n (by omega) (by omega)]
    unfold mpu
    by_cases c : m = 10
    · rw [if_pos c, c]; rfl
    · rw [if_neg c, show Nat.min 10 (m + 1) = m + 1 from Nat.min_eq_right (by omega)]
  rw [ei, em]
  have wf : ∀ c, c ≠ 98 → wr (wr t1 98 1 (nI ((nx + 1) % 10))) 98 0 (nI (mpu m)) c = t1 c := fun c hc => by rw [wr_off c hc, wr_off c hc]
  have keep : ∀ k, k < 10 → k ≠ nx → ∀ v', CS (101 + 4 * k) v' t → CS (101 + 4 * k) v' (wr (wr t1 98 1 (nI ((nx + 1) % 10))) 98 0 (nI (mpu m))) := fun k hk hkn v' g => g.fr4 (fun c c1 c2 => by rw [wf c (by omega), f1 c (by omega), w1 c (by omega)])
  have k99 : ∀ k, k < 10 → k ≠ nx → wr (wr t1 98 1 (nI ((nx + 1) % 10))) 98 0 (nI (mpu m)) 99 k = t 99 k := fun k hk hkn => by rw [wf 99 (by decide), f1 99 (by omega), wrn hkn]
  have n99 : wr (wr t1 98 1 (nI ((nx + 1) % 10))) 98 0 (nI (mpu m)) 99 nx = nI s := by rw [wf 99 (by decide), f1 99 (by omega), wrs]
  have nC : CS (101 + 4 * nx) (K m s) (wr (wr t1 98 1 (nI ((nx + 1) % 10))) 98 0 (nI (mpu m))) := ht1.fr4 (fun c c1 c2 => wf c (by omega))
  have y0 : wr (wr t1 98 1 (nI ((nx + 1) % 10))) 98 0 (nI (mpu m)) 98 0 = nI (mpu m) := wrs
  have y1 : wr (wr t1 98 1 (nI ((nx + 1) % 10))) 98 0 (nI (mpu m)) 98 1 = nI ((nx + 1) % 10) := by rw [wrn (by decide), wrs]
  generalize wr (wr t1 98 1 (nI ((nx + 1) % 10))) 98 0 (nI (mpu m)) = y at wf keep k99 n99 nC y0 y1 ⊢
  refine ⟨⟨y0, (nx + 1) % 10, by omega, y1, fun j hj => ?_⟩, fun c hc => by rw [wf c (by omega), f1 c (by omega), w1 c (by omega)]⟩
  unfold mpu at hj ⊢
  by_cases c : m = 10
  · rw [if_pos c] at hj ⊢
    subst c
    by_cases c9 : j = 9
    · subst c9
      rw [show ((nx + 1) % 10 + 10 - 10 + 9) % 10 = nx by omega]
      refine ⟨s, hs, n99, ?_, fun r hr hrs => ?_⟩
      · unfold kpu; rw [if_pos rfl, if_pos (by omega)]; exact nC
      · unfold kpu; rw [if_pos rfl, if_neg (by omega), if_pos rfl, if_pos (by omega)]
        exact upA_n hrs
    · obtain ⟨s', b1, b2, b3, b4⟩ := h2 (j + 1) (by omega)
      rw [show ((nx + 1) % 10 + 10 - 10 + j) % 10 = (nx + 10 - 10 + (j + 1)) % 10 by omega]
      have hk : (nx + 10 - 10 + (j + 1)) % 10 ≠ nx := by omega
      refine ⟨s', b1, by rw [k99 _ (by omega) hk]; exact b2, ?_, fun r hr hrs => ?_⟩
      · unfold kpu; rw [if_pos rfl, if_pos (by omega)]; exact keep _ (by omega) hk _ b3
      · unfold kpu; rw [if_pos rfl, if_pos (by omega), if_pos rfl, if_pos (by omega)]
        exact b4 r hr hrs
  · rw [if_neg c] at hj ⊢
    by_cases c9 : j = m
    · subst c9
      rw [show ((nx + 1) % 10 + 10 - (j + 1) + j) % 10 = nx by omega]
      refine ⟨s, hs, n99, ?_, fun r hr hrs => ?_⟩
      · unfold kpu; rw [if_neg c, if_pos (Nat.le_refl _)]; exact nC
      · unfold kpu; rw [if_neg c, if_neg (by omega), if_neg c, if_pos (Nat.le_refl _)]
        exact upA_n hrs
    · obtain ⟨s', b1, b2, b3, b4⟩ := h2 j (by omega)
      rw [show ((nx + 1) % 10 + 10 - (m + 1) + j) % 10 = (nx + 10 - m + j) % 10 by omega]
      have hk : (nx + 10 - m + j) % 10 ≠ nx := by omega
      refine ⟨s', b1, by rw [k99 _ (by omega) hk]; exact b2, ?_, fun r hr hrs => ?_⟩
      · unfold kpu; rw [if_neg c, if_pos (by omega)]; exact keep _ (by omega) hk _ b3
      · unfold kpu; rw [if_neg c, if_pos (by omega), if_neg c, if_pos (by omega)]
        exact b4 r hr hrs
theorem e_noteAct {K : Nat → Nat → V4} {m s : Nat} {v : V4} {t : St} (hG : GK K m) (hs : s < 3) (hv : GV v) (h141 : CS 141 (K m s) t) (hx : CS (12 + 24 * s) v t) (ho : ∀ r, r < 3 → r ≠ s → CS (12 + 24 * r) (K m r) t) (hH : HCs K m t) : Ok (FX11_noteAct (nI s) t) (fun _ u => (∃ K' m', NXT K m s v K' m' ∧ CST K' m' u) ∧ ∀ c, (c < 98 ∨ 140 < c) → u c = t c) := by
  have gs := n_sl hs
  have hc : ∀ r, r < 3 → CS (12 + 24 * r) (upA (K m) s v r) t := fun r hr => by
    by_cases e : r = s
    · subst e; rw [upA_s]; exact hx
    · rw [upA_n e]; exact ho r hr e
  unfold FX11_noteAct
  rw [el10 hs]
  refine Ok.ckT (inb_n hs (by omega)) (Ok.ckT gs (Ok.bd (fun r u => t = u ∧ ((r = 1 ∧ K m s = v) ∨ (r = 0 ∧ K m s ≠ v))) (e_sameAs n_141 gs h141 hx (hG.2 m (Nat.le_refl _) s hs) hv (fun a => ⟨rfl, Or.inl ⟨rfl, a⟩⟩) (fun a => ⟨rfl, Or.inr ⟨rfl, a⟩⟩)) ?_))
  rintro _ _ ⟨rfl, ⟨rfl, e⟩ | ⟨rfl, e⟩⟩
  · refine Ok.ifF (by decide) (Ok.ret ⟨⟨K, m, Or.inl ⟨e.symm, rfl, rfl⟩, fun r hr => ?_, hH⟩, fun _ _ => rfl⟩)
    have := hc r hr
    rw [← e, upA_self] at this
    exact this
  · refine Ok.ifT rfl (Ok.bd _ (e_remember (v := v) hG hs h141 hH) ?_)
    rintro _ u ⟨u1, u2⟩
    refine Ok.ret ⟨⟨_, _, Or.inr ⟨fun q => e q.symm, rfl, rfl⟩, fun r hr => ?_, u1⟩, u2⟩
    rw [kpu_cur]
    exact (hc r hr).fr4 (fun c c1 c2 => u2 c (by omega))
