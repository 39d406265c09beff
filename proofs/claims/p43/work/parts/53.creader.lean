/-! what a text tells, and how the class reads it -/
theorem li_m1 : (-1 : Int32) = nI 4294967295 := by decide
theorem mnI_n {a b : Nat} (ha : a < 2147483648) (hb : b < 2147483648) : mnI (nI a) (nI b) = nI (Nat.min a b) := by
  show (if nI b < nI a then nI b else nI a) = nI (Nat.min a b)
  by_cases c : b < a
  · rw [if_pos (by rw [nI_ltP hb ha]; exact c)]
    congr 1
    exact (Nat.min_eq_right (by omega)).symm
  · rw [if_neg (by rw [nI_ltP hb ha]; exact c)]
    congr 1
    exact (Nat.min_eq_left (by omega)).symm
def sbn {α β : Type} (x : (Nat × Nat) ⊕ α) (f : α → (Nat × Nat) ⊕ β) : (Nat × Nat) ⊕ β := Sum.elim .inl f x
theorem sbn_l {α β : Type} {x : (Nat × Nat) ⊕ α} {f : α → (Nat × Nat) ⊕ β} {e : Nat × Nat} (h : x = .inl e) : sbn x f = .inl e := by rw [h]; rfl
theorem sbn_r {α β : Type} {x : (Nat × Nat) ⊕ α} {f : α → (Nat × Nat) ⊕ β} {e : α} (h : x = .inr e) : sbn x f = f e := by rw [h]; rfl
def num (k : Nat) (bt : Nat → Nat) (lo hi p : Nat) : (Nat × Nat) ⊕ Nat :=
  if tkc k bt p = 2 then (if lo ≤ vl bt (tkb k bt p) (tke k bt p - tkb k bt p) ∧ vl bt (tkb k bt p) (tke k bt p - tkb k bt p) ≤ hi then .inr (vl bt (tkb k bt p) (tke k bt p - tkb k bt p)) else .inl (2, tkb k bt p)) else .inl (1, tkb k bt p)
theorem num_in {k : Nat} {bt : Nat → Nat} {lo hi p v : Nat} (h : num k bt lo hi p = .inr v) : lo ≤ v ∧ v ≤ hi ∧ tkc k bt p = 2 ∧ v = vl bt (tkb k bt p) (tke k bt p - tkb k bt p) := by
  unfold num at h
  by_cases c : tkc k bt p = 2
  · rw [if_pos c] at h
    by_cases c2 : lo ≤ vl bt (tkb k bt p) (tke k bt p - tkb k bt p) ∧ vl bt (tkb k bt p) (tke k bt p - tkb k bt p) ≤ hi
    · rw [if_pos c2] at h
      have := Sum.inr.inj h
      subst this
      exact ⟨c2.1, c2.2, c, rfl⟩
    · rw [if_neg c2] at h
      cases h
  · rw [if_neg c] at h
    cases h
def sgn (k : Nat) (bt : Nat → Nat) (c p : Nat) : Bool := decide (tkc k bt p = 3 ∧ bt (tkb k bt p) = c)
def wrd (k : Nat) (bt : Nat → Nat) (x y z p : Nat) : Bool := decide (tkc k bt p = 1 ∧ tke k bt p = tkb k bt p + 3 ∧ bt (tkb k bt p) = x ∧ bt (tkb k bt p + 1) = y ∧ bt (tkb k bt p + 2) = z)
def pwt (k : Nat) (bt : Nat → Nat) (w : Nat → Nat → Nat) (a b p : Nat) : (Nat × Nat) ⊕ (Nat × (Nat → Nat → Nat)) :=
  if sgn k bt 61 p = true then sbn (num k bt 1 9 (tke k bt p)) (fun v => .inr (tke k bt (tke k bt p), setw w a b v)) else .inr (p, setw w a b 1)
def pline (k : Nat) (bt : Nat → Nat) (N : Nat) (w : Nat → Nat → Nat) (c p : Nat) : (Nat × Nat) ⊕ (Nat × (Nat → Nat → Nat)) :=
  sbn (num k bt 0 (N - 1) p) (fun a => if c < 30 then (if sgn k bt 45 (tke k bt p) = true then sbn (num k bt 0 (N - 1) (tke k bt (tke k bt p))) (fun b => if a = b then .inl (2, tkb k bt (tke k bt (tke k bt p))) else if w a b = 0 then pwt k bt w a b (tke k bt (tke k bt (tke k bt p))) else .inl (3, tkb k bt (tke k bt (tke k bt p)))) else .inl (1, tkb k bt (tke k bt p))) else .inl (4, tkb k bt p))
def plines (k : Nat) (bt : Nat → Nat) (N : Nat) : Nat → (Nat → Nat → Nat) → Nat → Nat → (Nat × Nat) ⊕ (Nat × Nat × (Nat → Nat → Nat))
  | 0, _, _, _ => .inl (0, 0)
  | f + 1, w, c, p => sbn (pline k bt N w c (tke k bt p)) (fun r => if sgn k bt 44 r.1 = true then plines k bt N f r.2 (c + 1) r.1 else .inr (r.1, c + 1, r.2))
def plns (k : Nat) (bt : Nat → Nat) (N p : Nat) : (Nat × Nat) ⊕ (Nat × Nat × (Nat → Nat → Nat)) :=
  sbn (if sgn k bt 58 p = true then plines k bt N 31 (fun _ _ => 0) 0 p else .inr (p, 0, fun _ _ => 0)) (fun r => if sgn k bt 59 r.1 = true then .inr (tke k bt r.1, r.2.1, r.2.2) else .inl (1, tkb k bt r.1))
/-- the points that digits name -/
def dm (bt : Nat → Nat) (b : Nat) : Nat → Nat
  | 0 => 0
  | m + 1 => dm bt b m ||| 2 ^ (bt (b + m) - 48)
def digs (k : Nat) (bt : Nat → Nat) (N p : Nat) : Bool := decide (tke k bt p = tkb k bt p + N ∧ (∀ i, i < N → bt (tkb k bt p + i) - 48 < N) ∧ dm bt (tkb k bt p) N = 2 ^ N - 1)
def prow (k : Nat) (bt : Nat → Nat) (N p : Nat) : (Nat × Nat) ⊕ (Nat → Nat) :=
  if tkc k bt p = 0 then .inr (fun i => i) else if wrd k bt 114 111 119 p = true then (if tkc k bt (tke k bt p) = 2 then (if digs k bt N (tke k bt p) = true then (if sgn k bt 59 (tke k bt (tke k bt p)) = true then (if tkc k bt (tke k bt (tke k bt (tke k bt p))) = 0 then .inr (fun i => bt (tkb k bt (tke k bt p) + i) - 48) else .inl (1, tkb k bt (tke k bt (tke k bt (tke k bt p))))) else .inl (1, tkb k bt (tke k bt (tke k bt p)))) else .inl (5, tkb k bt (tke k bt p))) else .inl (1, tkb k bt (tke k bt p))) else .inl (1, tkb k bt p)
def ptext (k : Nat) (bt : Nat → Nat) : (Nat × Nat) ⊕ (Nat × Nat × (Nat → Nat → Nat) × (Nat → Nat)) :=
  if wrd k bt 110 101 116 0 = true then sbn (num k bt 1 9 (tke k bt 0)) (fun N => sbn (plns k bt N (tke k bt (tke k bt 0))) (fun r => sbn (prow k bt N r.1) (fun o => .inr (N, r.2.1, r.2.2, o)))) else .inl (1, tkb k bt 0)
/-- the class's reader stands at the token from p on -/
def RC (k : Nat) (bt : Nat → Nat) (p : Nat) (t : St) : Prop := CT k bt t ∧ p ≤ k ∧ t 5 5 = nI (tkb k bt p) ∧ t 5 4 = nI (tkc k bt p) ∧ t 5 6 = nI (tke k bt p)
/-- only what is read changes -/
def KR (t u : St) : Prop := (∀ c, c ≠ 5 → u c = t c) ∧ u 5 1 = t 5 1 ∧ u 5 2 = t 5 2
def DR (t u : St) : Prop := ∀ c, c < 5 ∨ 9 < c → u c = t c
theorem KR.rf {t : St} : KR t t := ⟨fun _ _ => rfl, rfl, rfl⟩
theorem KR.tr {t u v : St} (h : KR t u) (g : KR u v) : KR t v := ⟨fun c hc => (g.1 c hc).trans (h.1 c hc), g.2.1.trans h.2.1, g.2.2.trans h.2.2⟩
theorem KR.dr {t u : St} (h : KR t u) : DR t u := fun c hc => h.1 c (by omega)
theorem DR.tr {t u v : St} (h : DR t u) (g : DR u v) : DR t v := fun c hc => (g c hc).trans (h c hc)
theorem KR.ct {t u : St} (h : KR t u) {k : Nat} {bt : Nat → Nat} (g : CT k bt t) : CT k bt u := g.fr (h.1 1 (by decide)) (h.1 2 (by decide))
theorem KR.cn {t u : St} (h : KR t u) {x n l : Nat} {w : Nat → Nat → Nat} (g : CN x n l w t) (hx : 5 < x) : CN x n l w u := g.fr (h.1 _ (by omega)) (h.1 _ (by omega)) (h.1 _ (by omega))
theorem RC.le {k : Nat} {bt : Nat → Nat} {p : Nat} {t : St} (h : RC k bt p t) : tkb k bt p ≤ k ∧ tke k bt p ≤ k ∧ tkb k bt p ≤ tke k bt p ∧ k < 401 := by
  have h1 := tkb_le (bt := bt) h.1.1 h.2.1
  have h2 := tke_le (bt := bt) h.1.1 h.2.1
  have h3 := h.1.1
  omega
theorem tkc_lt {k : Nat} {bt : Nat → Nat} {p : Nat} : tkc k bt p < 4 := by
  unfold tkc
  by_cases c : tkb k bt p < k
  · rw [if_pos c]
    have := kd_r (bt (tkb k bt p))
    omega
  · rw [if_neg c]
    omega
theorem e_kindOf {v : Nat} (hv : v < 256) {t : St} {Q : Int32 → St → Prop} (q : Q (nI (kd v)) t) : Ok (FX7_kindOf (nI v) t) Q := by
  unfold FX7_kindOf
  refine Ok.ifF (by rw [li_m1, nI_eqP (by omega) (by omega)]; omega) ?_
  rw [li_97, li_48, li_57, li_122]
  unfold kd at q
  refine Ok.cv (nI_ltP (by omega) (by omega)) (Ok.ite (fun c1 => Ok.cv (nI_ltP (by omega) (by omega)) (Ok.ite (fun c2 => ?_) (fun c2 => Ok.cv (nI_ltP (by omega) (by omega)) (Ok.ite (fun c3 => ?_) (fun c3 => ?_))))) (fun c1 => Ok.cv (nI_ltP (by omega) (by omega)) (Ok.ite (fun c2 => Ok.cv (nI_ltP (by omega) (by omega)) (Ok.ite (fun c3 => ?_) (fun c3 => Ok.cv (nI_ltP (by omega) (by omega)) (Ok.ite (fun c4 => ?_) (fun c4 => ?_))))) (fun c2 => ?_))))
  · rw [if_neg (by omega), if_neg (by omega)] at q
    exact Ok.ret q
  · rw [if_neg (by omega), if_neg (by omega)] at q
    exact Ok.ret q
  · rw [if_neg (by omega), if_pos (by omega)] at q
    exact Ok.ret q
  · rw [if_neg (by omega), if_neg (by omega)] at q
    exact Ok.ret q
  · rw [if_neg (by omega), if_neg (by omega)] at q
    exact Ok.ret q
  · omega
  · rw [if_pos (by omega)] at q
    exact Ok.ret q
theorem e_kindOf_m1 {t : St} {Q : Int32 → St → Prop} (q : Q 0 t) : Ok (FX7_kindOf (-1) t) Q := by
  unfold FX7_kindOf
  exact Ok.ifT rfl (Ok.ret q)
theorem e_isBlank {v : Nat} (hv : v < 256) {t : St} {Q : Int32 → St → Prop} (q1 : bl v = true → Q 1 t) (q0 : bl v = false → Q 0 t) : Ok (FX7_isBlank (nI v) t) Q := by
  unfold FX7_isBlank
  rw [li_32, li_10]
  refine Ok.cv (nI_eqP (by omega) (by omega)) (Ok.ite (fun c => Ok.ret (q1 ?_)) (fun c => Ok.cv (nI_eqP (by omega) (by omega)) (Ok.ite (fun c2 => Ok.ret (q1 ?_)) (fun c2 => Ok.ret (q0 ?_)))))
  · simp [bl, c]
  · simp [bl, c2]
  · simp [bl, c, c2]
theorem e_step {k : Nat} {bt : Nat → Nat} {t : St} (h : CT k bt t) {p : Nat} (hp : p ≤ k) (e6 : t 5 6 = nI p) : Ok (FX7_step t) (fun _ u => RC k bt p u ∧ KR t u) := by
  have hk := h.1
  unfold FX7_step
  refine Ok.rdE e6 (OkwrE (Ok.bd (fun _ s => s 5 5 = nI (tkb k bt p) ∧ KR t s) ?_ ?_))
  · refine Ok.loop (fun m _ s => ∃ j, m = k - j ∧ p ≤ j ∧ j ≤ k ∧ (∀ i, p ≤ i → i < j → bl (bt i) = true) ∧ s 5 5 = nI j ∧ KR t s) ?_ (k - p) _ _ ⟨p, rfl, Nat.le_refl _, hp, fun i a b => by omega, wrs, fun c hc => wr_off c hc, wrn (by decide), wrn (by decide)⟩
    rintro m ⟨⟩ s ⟨j, rfl, h1, h2, h3, e5, hK⟩
    have hC := hK.ct h
    unfold SX7_step_8
    refine Ok.rdE e5 (Ok.rdE hC.2.1 ?_)
    by_cases c : k ≤ j
    · refine Ok.ifT (by rw [nI_leP (by omega) (by omega)]; exact c) (Ok.ret ⟨?_, hK⟩)
      rw [e5]
      congr 1
      exact AV.uq (P := fun j => bl (bt j)) ⟨h1, h2, h3, fun q => by omega⟩ (tkb_AV hk hp)
    · refine Ok.ifF (by rw [nI_leP (by omega) (by omega)]; exact c) (Ok.rdE e5 ?_)
      refine Ok.bd _ (e_at hC (by omega) (Q := fun r u => s = u ∧ r = nI (bt j) ∧ bt j < 256) (fun _ a => ⟨rfl, rfl, a⟩) (fun a => by omega)) ?_
      rintro _ _ ⟨rfl, rfl, hb⟩
      refine Ok.bd _ (e_isBlank hb (Q := fun r u => s = u ∧ ((r = 1 ∧ bl (bt j) = true) ∨ (r = 0 ∧ bl (bt j) = false))) (fun a => ⟨rfl, Or.inl ⟨rfl, a⟩⟩) (fun a => ⟨rfl, Or.inr ⟨rfl, a⟩⟩)) ?_
      rintro r _ ⟨rfl, ⟨rfl, hb2⟩ | ⟨rfl, hb2⟩⟩
      · skip
        refine Ok.ifF (by decide) (Ok.rdE e5 (OkwrE (Ok.ret ⟨k - (j + 1), by omega, j + 1, rfl, by omega, by omega, fun i a b => ?_, ?_, ?_⟩)))
        · by_cases e : i = j
          · rw [e]; exact hb2
          · exact h3 i a (by omega)
        · rw [wrs, nI_1]
        · exact hK.tr ⟨fun c hc => wr_off c hc, wrn (by decide), wrn (by decide)⟩
      · refine Ok.ifT rfl (Ok.ret ⟨?_, hK⟩)
        rw [e5]
        congr 1
        exact AV.uq (P := fun j => bl (bt j)) ⟨h1, h2, h3, fun _ => hb2⟩ (tkb_AV hk hp)
  · rintro _ s ⟨e5, hK⟩
    have hC := hK.ct h
    have hle := tkb_le (bt := bt) hk hp
    refine Ok.rdE e5 (Ok.bd (fun r u => s = u ∧ ((tkb k bt p < k ∧ r = nI (bt (tkb k bt p)) ∧ bt (tkb k bt p) < 256) ∨ (k ≤ tkb k bt p ∧ r = -1))) (e_at hC (by omega) (fun a b => ⟨rfl, Or.inl ⟨a, rfl, b⟩⟩) (fun a => ⟨rfl, Or.inr ⟨a, rfl⟩⟩)) ?_)
    rintro r _ ⟨rfl, hr⟩
    refine Ok.bd (fun r u => s = u ∧ r = nI (tkc k bt p)) ?_ ?_
    · rcases hr with ⟨a, rfl, b⟩ | ⟨a, rfl⟩
      · refine e_kindOf b ⟨rfl, ?_⟩
        unfold tkc
        rw [if_pos a]
      · refine e_kindOf_m1 ⟨rfl, ?_⟩
        unfold tkc
        rw [if_neg (by omega)]
        rfl
    rintro _ _ ⟨rfl, rfl⟩
    refine OkwrE (Ok.rdE wrs ?_)
    have hc4 := tkc_lt (k := k) (bt := bt) (p := p)
    have hK2 : KR t (wr s 5 4 (nI (tkc k bt p))) := hK.tr ⟨fun c hc => wr_off c hc, wrn (by decide), wrn (by decide)⟩
    have e52 : wr s 5 4 (nI (tkc k bt p)) 5 5 = nI (tkb k bt p) := by rw [wrn (by decide)]; exact e5
    by_cases c0 : tkc k bt p = 0
    · have hb : ¬ tkb k bt p < k := fun q => by
        unfold tkc at c0
        rw [if_pos q] at c0
        have := kd_r (bt (tkb k bt p))
        omega
      have he : tke k bt p = tkb k bt p := by unfold tke; rw [if_neg hb]
      refine Ok.bd (fun r u => u = wr s 5 4 (nI (tkc k bt p)) ∧ r = nI (tkb k bt p)) (Ok.ifT (by rw [c0]; rfl) (Ok.rdE e52 (Ok.ret ⟨rfl, rfl⟩))) ?_
      rintro _ _ ⟨rfl, rfl⟩
      refine OkwrE (Ok.rdE (x := nI (tkc k bt p)) (by rw [wrn (by decide), wrs]) ?_)
      refine Ok.ifF (by rw [c0]; decide) (Ok.rdE (x := nI (tkc k bt p)) (by rw [wrn (by decide), wrs]) (Ok.ifF (by rw [c0]; decide) (Ok.ret ⟨⟨?_, hp, ?_, ?_, ?_⟩, ?_⟩)))
      · exact hC.fr (by rw [wr_off 1 (by decide), wr_off 1 (by decide)]) (by rw [wr_off 2 (by decide), wr_off 2 (by decide)])
      · rw [wrn (by decide)]; exact e52
      · rw [wrn (by decide), wrs]
      · rw [wrs, he]
      · exact hK2.tr ⟨fun c hc => wr_off c hc, wrn (by decide), wrn (by decide)⟩
    have hb : tkb k bt p < k := by
      refine Decidable.byContradiction (fun q => c0 ?_)
      unfold tkc
      rw [if_neg q]
    have ec : tkc k bt p = kd (bt (tkb k bt p)) := by unfold tkc; rw [if_pos hb]
    refine Ok.bd (fun r u => u = wr s 5 4 (nI (tkc k bt p)) ∧ r = nI (tkb k bt p + 1)) (Ok.ifF (by rw [li_0, nI_eqP (by omega) (by omega)]; exact c0) (Ok.rdE e52 (Ok.ret ⟨rfl, nI_1 _⟩))) ?_
    rintro _ _ ⟨rfl, rfl⟩
    refine OkwrE (Ok.rdE (x := nI (tkc k bt p)) (by rw [wrn (by decide), wrs]) ?_)
    have hK3 : KR t (wr (wr s 5 4 (nI (tkc k bt p))) 5 6 (nI (tkb k bt p + 1))) := hK2.tr ⟨fun c hc => wr_off c hc, wrn (by decide), wrn (by decide)⟩
    have f5 : wr (wr s 5 4 (nI (tkc k bt p))) 5 6 (nI (tkb k bt p + 1)) 5 5 = nI (tkb k bt p) := by rw [wrn (by decide)]; exact e52
    have f4 : wr (wr s 5 4 (nI (tkc k bt p))) 5 6 (nI (tkb k bt p + 1)) 5 4 = nI (tkc k bt p) := by rw [wrn (by decide), wrs]
    have f6 : wr (wr s 5 4 (nI (tkc k bt p))) 5 6 (nI (tkb k bt p + 1)) 5 6 = nI (tkb k bt p + 1) := wrs
    generalize wr (wr s 5 4 (nI (tkc k bt p))) 5 6 (nI (tkb k bt p + 1)) = y at hK3 f5 f4 f6 ⊢
    have loop : ¬ tkc k bt p = 3 → Ok (wh (SX7_step_110) () y) (fun _ u => RC k bt p u ∧ KR t u) := by
      intro h3
      refine Ok.loop (fun m _ s => ∃ j, m = k - j ∧ tkb k bt p + 1 ≤ j ∧ j ≤ k ∧ (∀ i, tkb k bt p + 1 ≤ i → i < j → (kd (bt i) == kd (bt (tkb k bt p))) = true) ∧ s 5 6 = nI j ∧ s 5 5 = nI (tkb k bt p) ∧ s 5 4 = nI (tkc k bt p) ∧ KR t s) ?_ (k - (tkb k bt p + 1)) _ _ ⟨_, rfl, Nat.le_refl _, by omega, fun i a b => by omega, f6, f5, f4, hK3⟩
      rintro m ⟨⟩ s ⟨j, rfl, h1, h2, h4, g6, g5, g4, gK⟩
      have hC := gK.ct h
      unfold SX7_step_110
      refine Ok.rdE g6 (Ok.rdE hC.2.1 ?_)
      by_cases c : k ≤ j
      · refine Ok.ifT (by rw [nI_leP (by omega) (by omega)]; exact c) (Ok.ret ⟨⟨hC, hp, g5, g4, ?_⟩, gK⟩)
        rw [g6]
        congr 1
        exact AV.uq (P := fun j => kd (bt j) == kd (bt (tkb k bt p))) ⟨h1, h2, h4, fun q => by omega⟩ (tke_AV hk hp hb (by rw [← ec]; exact h3))
      · refine Ok.ifF (by rw [nI_leP (by omega) (by omega)]; exact c) (Ok.rdE g6 ?_)
        refine Ok.bd _ (e_at hC (by omega) (Q := fun r u => s = u ∧ r = nI (bt j) ∧ bt j < 256) (fun _ a => ⟨rfl, rfl, a⟩) (fun a => by omega)) ?_
        rintro _ _ ⟨rfl, rfl, hb3⟩
        refine Ok.bd _ (e_kindOf hb3 (Q := fun r u => s = u ∧ r = nI (kd (bt j))) ⟨rfl, rfl⟩) ?_
        rintro _ _ ⟨rfl, rfl⟩
        refine Ok.rdE g4 ?_
        have k4 := kd_r (bt j)
        rw [ec]
        refine Ok.cv (nI_eqP (by omega) (by omega)) (Ok.ite (fun q => ?_) (fun q => ?_))
        · refine Ok.rdE g6 (OkwrE (Ok.ret ⟨k - (j + 1), by omega, j + 1, rfl, by omega, by omega, fun i a b => ?_, ?_, ?_, ?_, ?_⟩))
          · by_cases e : i = j
            · rw [e, q]; exact beq_self_eq_true _
            · exact h4 i a (by omega)
          · rw [wrs, nI_1]
          · rw [wrn (by decide)]; exact g5
          · rw [wrn (by decide), g4, ec]
          · exact gK.tr ⟨fun c hc => wr_off c hc, wrn (by decide), wrn (by decide)⟩
        · refine Ok.ret ⟨⟨hC, hp, g5, g4, ?_⟩, gK⟩
          rw [g6]
          congr 1
          refine AV.uq (P := fun j => kd (bt j) == kd (bt (tkb k bt p))) ⟨h1, h2, h4, fun _ => ?_⟩ (tke_AV hk hp hb (by rw [← ec]; exact h3))
          exact beq_eq_false_iff_ne.mpr q
    by_cases c1 : tkc k bt p = 1
    · refine Ok.ifT (by rw [c1]; rfl) (Ok.bd _ (loop (by omega)) (fun _ u hu => Ok.ret hu))
    · refine Ok.ifF (by rw [li_1, nI_eqP (by omega) (by omega)]; exact c1) (Ok.rdE f4 ?_)
      by_cases c2 : tkc k bt p = 2
      · refine Ok.ifT (by rw [c2]; rfl) (Ok.bd _ (loop (by omega)) (fun _ u hu => Ok.ret hu))
      · refine Ok.ifF (by rw [li_2, nI_eqP (by omega) (by omega)]; exact c2) (Ok.ret ⟨⟨hK3.ct h, hp, f5, f4, ?_⟩, hK3⟩)
        rw [f6]
        congr 1
        unfold tke
        rw [if_pos hb, if_pos (by omega)]
/-- from a token to the next -/
theorem e_nx {k : Nat} {bt : Nat → Nat} {t : St} {p : Nat} (h : RC k bt p t) : Ok (FX7_step t) (fun _ u => RC k bt (tke k bt p) u ∧ KR t u) := e_step h.1 h.le.2.1 h.2.2.2.2
/-- a fault, or what was read -/
def PFx {α : Type} (t : St) (x : (Nat × Nat) ⊕ α) (P : α → St → Prop) (r : Int32) (u : St) : Prop := Sum.elim (fun f => r = 0 ∧ u 5 1 = nI f.1 ∧ u 5 2 = nI f.2 ∧ DR t u) (fun v => r = 1 ∧ P v u) x
theorem PFx.l {α : Type} {t u : St} {x : (Nat × Nat) ⊕ α} {P : α → St → Prop} {f : Nat × Nat} {r : Int32} (e : x = .inl f) (h : r = 0 ∧ u 5 1 = nI f.1 ∧ u 5 2 = nI f.2 ∧ DR t u) : PFx t x P r u := by rw [e]; exact h
theorem PFx.r {α : Type} {t u : St} {x : (Nat × Nat) ⊕ α} {P : α → St → Prop} {v : α} {r : Int32} (e : x = .inr v) (h : r = 1 ∧ P v u) : PFx t x P r u := by rw [e]; exact h
theorem PFx.gl {α : Type} {t u : St} {x : (Nat × Nat) ⊕ α} {P : α → St → Prop} {f : Nat × Nat} {r : Int32} (h : PFx t x P r u) (e : x = .inl f) : r = 0 ∧ u 5 1 = nI f.1 ∧ u 5 2 = nI f.2 ∧ DR t u := by rw [e] at h; exact h
theorem PFx.gr {α : Type} {t u : St} {x : (Nat × Nat) ⊕ α} {P : α → St → Prop} {v : α} {r : Int32} (h : PFx t x P r u) (e : x = .inr v) : r = 1 ∧ P v u := by rw [e] at h; exact h
theorem e_blame {k : Nat} {bt : Nat → Nat} {t : St} {p f : Nat} (h : RC k bt p t) : Ok (FX7_blame (nI f) t) (fun r u => r = 0 ∧ u 5 1 = nI f ∧ u 5 2 = nI (tkb k bt p) ∧ DR t u) := by
  unfold FX7_blame
  refine OkwrE (Ok.rdE (x := nI (tkb k bt p)) ?_ (OkwrE (Ok.ret ⟨rfl, ?_, wrs, fun c hc => ?_⟩)))
  · rw [wrn (by decide)]; exact h.2.2.1
  · rw [wrn (by decide), wrs]
  · rw [wr_off c (by omega), wr_off c (by omega)]
theorem RC.w7 {k : Nat} {bt : Nat → Nat} {p : Nat} {t : St} (h : RC k bt p t) {v : Int32} : RC k bt p (wr t 5 7 v) ∧ KR t (wr t 5 7 v) := by
  refine ⟨⟨h.1.fr (wr_off 1 (by decide)) (wr_off 2 (by decide)), h.2.1, ?_, ?_, ?_⟩, fun c hc => wr_off c hc, wrn (by decide), wrn (by decide)⟩
  · rw [wrn (by decide)]; exact h.2.2.1
  · rw [wrn (by decide)]; exact h.2.2.2.1
  · rw [wrn (by decide)]; exact h.2.2.2.2
theorem tk2 {k : Nat} {bt : Nat → Nat} {p : Nat} (hk : k < 401) (hp : p ≤ k) (c : tkc k bt p = 2) : tkb k bt p < k ∧ ∀ j, tkb k bt p ≤ j → j < tke k bt p → 48 ≤ bt j ∧ bt j ≤ 57 := by
  have hb : tkb k bt p < k := by
    refine Decidable.byContradiction (fun q => ?_)
    unfold tkc at c
    rw [if_neg q] at c
    cases c
  refine ⟨hb, fun j h1 h2 => ?_⟩
  have h3 := tke_kd hk hp hb j h1 h2
  have ec : tkc k bt p = kd (bt (tkb k bt p)) := by unfold tkc; rw [if_pos hb]
  rw [← ec, c] at h3
  unfold kd at h3
  by_cases q1 : 97 ≤ bt j ∧ bt j ≤ 122
  · rw [if_pos q1] at h3; cases h3
  · rw [if_neg q1] at h3
    by_cases q2 : 48 ≤ bt j ∧ bt j ≤ 57
    · exact q2
    · rw [if_neg q2] at h3; cases h3
theorem e_num {k : Nat} {bt : Nat → Nat} {t : St} {p lo hi : Nat} (h : RC k bt p t) (hlo : lo < 1001) (hhi : hi < 1001) : Ok (FX7_isNumberFrom (nI lo) (nI hi) t) (PFx t (num k bt lo hi p) (fun v u => u 5 7 = nI v ∧ RC k bt p u ∧ KR t u)) := by
  have hk := h.1.1
  have hle := h.le
  have hc4 := tkc_lt (k := k) (bt := bt) (p := p)
  unfold FX7_isNumberFrom
  refine Ok.rdE h.2.2.2.1 ?_
  by_cases c : tkc k bt p = 2
  · refine Ok.ifT (by rw [c]; rfl) (OkwrE (Ok.rdE (x := nI (tkb k bt p)) h.w7.1.2.2.1 ?_))
    obtain ⟨hb, hd⟩ := tk2 hk h.2.1 c
    refine Ok.bd (fun _ s => s 5 7 = nI (vl bt (tkb k bt p) (tke k bt p - tkb k bt p)) ∧ RC k bt p s ∧ KR t s) ?_ ?_
    · refine Ok.count (tke k bt p - tkb k bt p) (fun j c s => c = nI (tkb k bt p + j) ∧ s 5 7 = nI (vl bt (tkb k bt p) j) ∧ RC k bt p s ∧ KR t s) ?_ ?_ (Nat.zero_le _) ⟨rfl, wrs, h.w7.1, h.w7.2⟩
      · rintro j c s hj ⟨rfl, e7, hR, hK⟩
        unfold SX7_isNumberFrom_24
        refine Ok.rdE hR.2.2.2.2 (Ok.ifF (by rw [nI_leP (by omega) (by omega)]; omega) (Ok.rdE e7 ?_))
        refine Ok.bd _ (e_at hR.1 (by omega) (Q := fun r u => s = u ∧ r = nI (bt (tkb k bt p + j)) ∧ bt (tkb k bt p + j) < 256) (fun _ a => ⟨rfl, rfl, a⟩) (fun a => by omega)) ?_
        rintro _ _ ⟨rfl, rfl, hb3⟩
        have hd2 := hd (tkb k bt p + j) (by omega) (by omega)
        have hv := vl_le (bt := bt) (b := tkb k bt p) j
        refine OkwrE (Ok.ret ⟨?_, ?_, hR.w7.1, hK.tr hR.w7.2⟩)
        · rw [nI_1]; rfl
        · rw [wrs, li_10, li_48, li_1000, nI_mul, nI_add, nI_sub (by omega), mnI_n (by omega) (by omega)]
          congr 1
          show _ = Nat.min 1000 (10 * vl bt (tkb k bt p) j + bt (tkb k bt p + j) - 48)
          rw [Nat.mul_comm]
      · rintro c s ⟨rfl, e7, hR, hK⟩
        unfold SX7_isNumberFrom_24
        exact Ok.rdE hR.2.2.2.2 (Ok.ifT (by rw [nI_leP (by omega) (by omega)]; omega) (Ok.ret ⟨e7, hR, hK⟩))
    · rintro _ s ⟨e7, hR, hK⟩
      have hv := vl_le (bt := bt) (b := tkb k bt p) (tke k bt p - tkb k bt p)
      refine Ok.rdE e7 ?_
      by_cases c1 : vl bt (tkb k bt p) (tke k bt p - tkb k bt p) < lo
      · have en : num k bt lo hi p = .inl (2, tkb k bt p) := by unfold num; rw [if_pos c, if_neg (by omega)]
        refine Ok.ifT (by rw [nI_ltP (by omega) (by omega)]; exact c1) (Ok.bd _ (e_blame (f := 2) hR) ?_)
        rintro _ u ⟨rfl, h1, h2, h3⟩
        exact Ok.ifT rfl (Ok.ret (PFx.l en ⟨rfl, h1, h2, hK.dr.tr h3⟩))
      refine Ok.ifF (by rw [nI_ltP (by omega) (by omega)]; exact c1) (Ok.rdE e7 ?_)
      by_cases c2 : vl bt (tkb k bt p) (tke k bt p - tkb k bt p) ≤ hi
      · have en : num k bt lo hi p = .inr (vl bt (tkb k bt p) (tke k bt p - tkb k bt p)) := by unfold num; rw [if_pos c, if_pos (by omega)]
        exact Ok.ifT (by rw [nI_leP (by omega) (by omega)]; exact c2) (Ok.ret (PFx.r en ⟨rfl, e7, hR, hK⟩))
      · have en : num k bt lo hi p = .inl (2, tkb k bt p) := by unfold num; rw [if_pos c, if_neg (by omega)]
        refine Ok.ifF (by rw [nI_leP (by omega) (by omega)]; exact c2) (Ok.bd _ (e_blame (f := 2) hR) ?_)
        rintro _ u ⟨rfl, h1, h2, h3⟩
        exact Ok.ifT rfl (Ok.ret (PFx.l en ⟨rfl, h1, h2, hK.dr.tr h3⟩))
  · have en : num k bt lo hi p = .inl (1, tkb k bt p) := by unfold num; rw [if_neg c]
    refine Ok.ifF (by rw [li_2, nI_eqP (by omega) (by omega)]; exact c) (Ok.bd _ (e_blame (f := 1) h) ?_)
    rintro _ u ⟨rfl, h1, h2, h3⟩
    exact Ok.ckT rfl (Ok.ret (PFx.l en ⟨rfl, h1, h2, h3⟩))
theorem e_point {k : Nat} {bt : Nat → Nat} {t : St} {p N l : Nat} {w : Nat → Nat → Nat} (h : RC k bt p t) (hn : CN 6 N l w t) (h1 : 1 ≤ N) (h9 : N < 10) : Ok (FX7_isPoint t) (PFx t (num k bt 0 (N - 1) p) (fun v u => u 5 7 = nI v ∧ RC k bt p u ∧ KR t u)) := by
  unfold FX7_isPoint
  refine Ok.rdE hn.1 ?_
  rw [li_1, nI_sub h1]
  refine Ok.bd _ (e_num (lo := 0) h (by omega) (by omega)) ?_
  intro r u hr
  have hb : isb r = true := by
    cases e : num k bt 0 (N - 1) p with
    | inl f => rw [(hr.gl e).1]; rfl
    | inr v => rw [(hr.gr e).1]; rfl
  exact Ok.ckT hb (Ok.ret hr)
theorem e_sign {k : Nat} {bt : Nat → Nat} {t : St} {p c : Nat} (h : RC k bt p t) (hc : c < 256) {Q : Int32 → St → Prop} (q1 : sgn k bt c p = true → Q 1 t) (q0 : sgn k bt c p = false → Q 0 t) : Ok (FX7_isSign (nI c) t) Q := by
  have hle := h.le
  have hc4 := tkc_lt (k := k) (bt := bt) (p := p)
  unfold FX7_isSign
  refine Ok.rdE h.2.2.2.1 ?_
  by_cases c3 : tkc k bt p = 3
  · refine Ok.ifT (by rw [c3]; rfl) (Ok.rdE h.2.2.1 ?_)
    have hb : tkb k bt p < k := by
      refine Decidable.byContradiction (fun q => ?_)
      unfold tkc at c3
      rw [if_neg q] at c3
      cases c3
    refine Ok.bd _ (e_at h.1 (by omega) (Q := fun r u => t = u ∧ r = nI (bt (tkb k bt p)) ∧ bt (tkb k bt p) < 256) (fun _ a => ⟨rfl, rfl, a⟩) (fun a => by omega)) ?_
    rintro _ _ ⟨rfl, rfl, hb3⟩
    exact Ok.cv (nI_eqP (by omega) (by omega)) (Ok.ite (fun q => Ok.ret (q1 (decide_eq_true ⟨c3, q⟩))) (fun q => Ok.ret (q0 (decide_eq_false (fun a => q a.2)))))
  · exact Ok.ifF (by rw [li_3, nI_eqP (by omega) (by omega)]; exact c3) (Ok.ret (q0 (decide_eq_false (fun a => c3 a.1))))
