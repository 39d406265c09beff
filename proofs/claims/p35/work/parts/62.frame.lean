/-! what a method leaves as it is (printed by wip/sim/g62.py) -/
def Fo (P : Nat → Nat → Prop) {α : Type} (t : St) (m : Option (α × St)) : Prop := ∀ v u, m = some (v, u) → ∀ c i, P c i → u c i = t c i
theorem Fo.ret {P : Nat → Nat → Prop} {α : Type} {t : St} {v : α} : Fo P t (some (v, t)) := by
  intro w u h c i _
  obtain ⟨rfl, rfl⟩ := some_pair h
  rfl
theorem Fo.no {P : Nat → Nat → Prop} {α : Type} {t : St} : Fo P t (none : Option (α × St)) := by
  intro w u h
  cases h
theorem Fo.bd {P : Nat → Nat → Prop} {α β : Type} {t : St} {m : Option (α × St)} {f : α → St → Option (β × St)} (h : Fo P t m) (k : ∀ v s, Fo P s (f v s)) : Fo P t (bnd m f) := by
  intro w u e c i hc
  obtain ⟨v, s, e1, e2⟩ := bnd_some e
  rw [k v s w u e2 c i hc, h v s e1 c i hc]
theorem Fo.ck {P : Nat → Nat → Prop} {α : Type} {t : St} {b : Bool} {m : Option (α × St)} (k : b = true → Fo P t m) : Fo P t (chk b m) := by
  intro w u e c i hc
  obtain ⟨e1, e2⟩ := chk_some e
  exact k e1 w u e2 c i hc
theorem Fo.ite {P : Nat → Nat → Prop} {α : Type} {t : St} {q : Prop} [Decidable q] {x y : Option (α × St)} (a : Fo P t x) (b : Fo P t y) : Fo P t (if q then x else y) := by
  by_cases h : q
  · rw [if_pos h]; exact a
  · rw [if_neg h]; exact b
theorem Fo.rd {P : Nat → Nat → Prop} {α : Type} {t s : St} {a i : Nat} {f : Int32 → Option (α × St)} (k : ∀ v, Fo P t (f v)) : Fo P t (rdb s a i f) := k _
theorem Fo.wr {P : Nat → Nat → Prop} {α : Type} {t : St} {a i : Nat} {v : Int32} {f : St → Option (α × St)} (h : ∀ c j, P c j → c = a → ¬ j = i) (k : ∀ s, Fo P s (f s)) : Fo P t (wrb t a i v f) := by
  intro w u e c j hc
  rw [k _ w u e c j hc]
  by_cases q : c = a
  · subst q
    exact wrn (h c j hc rfl)
  · exact wrf q
theorem Fo.cp {P : Nat → Nat → Prop} {α : Type} {t : St} {a b n : Nat} {f : St → Option (α × St)} (h : ∀ c j, P c j → ¬ c = b) (k : ∀ s, Fo P s (f s)) : Fo P t (cpb t a b n f) := by
  intro w u e c j hc
  rw [k _ w u e c j hc]
  unfold cpy
  rw [if_neg (h c j hc)]
theorem Fo.oe {P : Nat → Nat → Prop} {α : Type} {t : St} {o : Option Nat} {x : Option (α × St)} {f : Nat → Option (α × St)} (a : Fo P t x) (b : ∀ v, Fo P t (f v)) : Fo P t (Option.elim o x f) := by
  cases o
  · exact a
  · exact b _
theorem Fo.se {P : Nat → Nat → Prop} {α β γ : Type} {t : St} {o : β ⊕ γ} {x : β → Option (α × St)} {f : γ → Option (α × St)} (a : ∀ v, Fo P t (x v)) (b : ∀ v, Fo P t (f v)) : Fo P t (Sum.elim x f o) := by
  cases o
  · exact a _
  · exact b _
theorem Fo.wh {P : Nat → Nat → Prop} {C R : Type} {f : C → St → Option ((C ⊕ R) × St)} (h : ∀ c s, Fo P s (f c s)) {c : C} {t : St} : Fo P t (wh f c t) := by
  intro w u e
  obtain ⟨k, hk⟩ := wh_itr e
  clear e
  induction k generalizing c t with
  | zero => exact absurd hk (itr_zero _ _ _ _)
  | succ k ih =>
    obtain ⟨x, s, h1, h2⟩ := itr_succ hk
    intro q i hq
    rcases x with d | r
    · rw [ih h2 q i hq, h c t _ _ h1 q i hq]
    · obtain ⟨rfl, rfl⟩ := some_pair h2
      exact h c t _ _ h1 q i hq
theorem net_q {x : Nat} (h : netAt x = true) : 5 < x ∧ x + 3 < 149 := by
  have hx : x < 163 := by have := net_pl h; omega
  exact (by decide +kernel : ∀ x, x < 163 → netAt x = true → 5 < x ∧ x + 3 < 149) x hx h
theorem find_q {x : Nat} (h : findAt x = true) : 21 < x ∧ x + 1 < 84 := by
  have hx : x < 163 := by have := find_pl h; omega
  exact (by decide +kernel : ∀ x, x < 163 → findAt x = true → 21 < x ∧ x + 1 < 84) x hx h
theorem finds_q {x : Nat} (h : findsAt x = true) : 15 < x ∧ x + 19 < 84 := by
  have hx : x < 163 := by
    have := (List.getElem?_eq_some_iff.mp (findsAt_0 h)).1
    have e : SH.length = 163 := by decide +kernel
    omega
  exact (by decide +kernel : ∀ x, x < 163 → findsAt x = true → 15 < x ∧ x + 19 < 84) x hx h
set_option maxHeartbeats 4000000 in
theorem fo_FJ6_bitCount_0f7a4 {P : Nat → Nat → Prop} {t : St} (a : Int32) : Fo P t (FJ6_bitCount_0f7a4 a t) := by
  unfold FJ6_bitCount_0f7a4
  repeat' first
    | with_reducible exact Fo.ret
    | with_reducible exact Fo.no
    | with_reducible refine Fo.bd ?_ (fun _ _ => ?_)
    | with_reducible refine Fo.ck (fun _ => ?_)
    | with_reducible refine Fo.ite ?_ ?_
    | with_reducible refine Fo.rd (fun _ => ?_)
    | with_reducible refine Fo.oe ?_ (fun _ => ?_)
    | with_reducible refine Fo.se (fun _ => ?_) (fun _ => ?_)
set_option maxHeartbeats 4000000 in
theorem fo_SJ7_fill_53178_5 {P : Nat → Nat → Prop} {t : St} (x0 : Nat) (w1 : Int32) (w3 : Int32) (c : Int32) (hP : ∀ c i, P c i → c ≠ x0) : Fo P t (SJ7_fill_53178_5 x0 w1 w3 c t) := by
  unfold SJ7_fill_53178_5
  repeat' first
    | with_reducible exact Fo.ret
    | with_reducible exact Fo.no
    | with_reducible refine Fo.bd ?_ (fun _ _ => ?_)
    | with_reducible refine Fo.ck (fun _ => ?_)
    | with_reducible refine Fo.ite ?_ ?_
    | with_reducible refine Fo.rd (fun _ => ?_)
    | with_reducible refine Fo.wr (fun c i h => by have hh := hP c i h; first | exact hh | (intro e; exact absurd e hh) | omega | (have := net_q (by assumption); omega) | (have := net_q (x := el 10 _) (by assumption); omega) | (have := find_q (by assumption); omega) | (have := finds_q (by assumption); omega)) (fun _ => ?_)
    | with_reducible refine Fo.cp (fun c i h => by have hh := hP c i h; first | exact hh | (intro e; exact absurd e hh) | omega | (have := net_q (by assumption); omega) | (have := net_q (x := el 10 _) (by assumption); omega)) (fun _ => ?_)
    | with_reducible refine Fo.oe ?_ (fun _ => ?_)
    | with_reducible refine Fo.se (fun _ => ?_) (fun _ => ?_)
set_option maxHeartbeats 4000000 in
theorem fo_FJ7_fill_53178 {P : Nat → Nat → Prop} {t : St} (ta : Nat) (a : Int32) (hP : ∀ c i, P c i → c ≠ ta) : Fo P t (FJ7_fill_53178 ta a t) := by
  unfold FJ7_fill_53178
  repeat' first
    | with_reducible exact Fo.ret
    | with_reducible exact Fo.no
    | with_reducible refine Fo.wh (fun cc ss => fo_SJ7_fill_53178_5 _ _ _ cc (fun c i h => by have hh := hP c i h; first | exact hh | (intro e; exact absurd e hh) | omega | (have := net_q (by assumption); omega) | (have := net_q (x := el 10 _) (by assumption); omega) | (have := find_q (by assumption); omega) | (have := finds_q (by assumption); omega)))
    | with_reducible refine Fo.bd ?_ (fun _ _ => ?_)
    | with_reducible refine Fo.ck (fun _ => ?_)
    | with_reducible refine Fo.ite ?_ ?_
    | with_reducible refine Fo.rd (fun _ => ?_)
    | with_reducible refine Fo.wr (fun c i h => by have hh := hP c i h; first | exact hh | (intro e; exact absurd e hh) | omega | (have := net_q (by assumption); omega) | (have := net_q (x := el 10 _) (by assumption); omega) | (have := find_q (by assumption); omega) | (have := finds_q (by assumption); omega)) (fun _ => ?_)
    | with_reducible refine Fo.cp (fun c i h => by have hh := hP c i h; first | exact hh | (intro e; exact absurd e hh) | omega | (have := net_q (by assumption); omega) | (have := net_q (x := el 10 _) (by assumption); omega)) (fun _ => ?_)
    | with_reducible refine Fo.oe ?_ (fun _ => ?_)
    | with_reducible refine Fo.se (fun _ => ?_) (fun _ => ?_)
set_option maxHeartbeats 4000000 in
theorem fo_FX1_at_1 {P : Nat → Nat → Prop} {t : St} (a : Int32) : Fo P t (FX1_at_1 a t) := by
  unfold FX1_at_1
  repeat' first
    | with_reducible exact Fo.ret
    | with_reducible exact Fo.no
    | with_reducible refine Fo.bd ?_ (fun _ _ => ?_)
    | with_reducible refine Fo.ck (fun _ => ?_)
    | with_reducible refine Fo.ite ?_ ?_
    | with_reducible refine Fo.rd (fun _ => ?_)
    | with_reducible refine Fo.oe ?_ (fun _ => ?_)
    | with_reducible refine Fo.se (fun _ => ?_) (fun _ => ?_)
set_option maxHeartbeats 4000000 in
theorem fo_FX1_at_3 {P : Nat → Nat → Prop} {t : St} (a : Int32) : Fo P t (FX1_at_3 a t) := by
  unfold FX1_at_3
  repeat' first
    | with_reducible exact Fo.ret
    | with_reducible exact Fo.no
    | with_reducible refine Fo.bd ?_ (fun _ _ => ?_)
    | with_reducible refine Fo.ck (fun _ => ?_)
    | with_reducible refine Fo.ite ?_ ?_
    | with_reducible refine Fo.rd (fun _ => ?_)
    | with_reducible refine Fo.oe ?_ (fun _ => ?_)
    | with_reducible refine Fo.se (fun _ => ?_) (fun _ => ?_)
set_option maxHeartbeats 4000000 in
theorem fo_FX1_hasRoom_1 {P : Nat → Nat → Prop} {t : St} (a : Int32) : Fo P t (FX1_hasRoom_1 a t) := by
  unfold FX1_hasRoom_1
  repeat' first
    | with_reducible exact Fo.ret
    | with_reducible exact Fo.no
    | with_reducible refine Fo.bd ?_ (fun _ _ => ?_)
    | with_reducible refine Fo.ck (fun _ => ?_)
    | with_reducible refine Fo.ite ?_ ?_
    | with_reducible refine Fo.rd (fun _ => ?_)
    | with_reducible refine Fo.oe ?_ (fun _ => ?_)
    | with_reducible refine Fo.se (fun _ => ?_) (fun _ => ?_)
set_option maxHeartbeats 4000000 in
theorem fo_FX1_hasRoom_3 {P : Nat → Nat → Prop} {t : St} (a : Int32) : Fo P t (FX1_hasRoom_3 a t) := by
  unfold FX1_hasRoom_3
  repeat' first
    | with_reducible exact Fo.ret
    | with_reducible exact Fo.no
    | with_reducible refine Fo.bd ?_ (fun _ _ => ?_)
    | with_reducible refine Fo.ck (fun _ => ?_)
    | with_reducible refine Fo.ite ?_ ?_
    | with_reducible refine Fo.rd (fun _ => ?_)
    | with_reducible refine Fo.oe ?_ (fun _ => ?_)
    | with_reducible refine Fo.se (fun _ => ?_) (fun _ => ?_)
set_option maxHeartbeats 4000000 in
theorem fo_FX1_put_3 {P : Nat → Nat → Prop} {t : St} (a : Int32) (hP : ∀ c i, P c i → c ≠ 3 ∧ c ≠ 4) : Fo P t (FX1_put_3 a t) := by
  unfold FX1_put_3
  repeat' first
    | with_reducible exact Fo.ret
    | with_reducible exact Fo.no
    | with_reducible exact fo_FX1_hasRoom_3 _
    | with_reducible refine Fo.bd ?_ (fun _ _ => ?_)
    | with_reducible refine Fo.ck (fun _ => ?_)
    | with_reducible refine Fo.ite ?_ ?_
    | with_reducible refine Fo.rd (fun _ => ?_)
    | with_reducible refine Fo.wr (fun c i h => by have hh := hP c i h; first | exact hh | (obtain ⟨g0, g1⟩ := hh; and_intros <;> first | assumption | (intro e; exact absurd e (by assumption))) | omega | (have := net_q (by assumption); omega) | (have := net_q (x := el 10 _) (by assumption); omega) | (have := find_q (by assumption); omega) | (have := finds_q (by assumption); omega)) (fun _ => ?_)
    | with_reducible refine Fo.cp (fun c i h => by have hh := hP c i h; first | exact hh | (obtain ⟨g0, g1⟩ := hh; and_intros <;> first | assumption | (intro e; exact absurd e (by assumption))) | omega | (have := net_q (by assumption); omega) | (have := net_q (x := el 10 _) (by assumption); omega)) (fun _ => ?_)
    | with_reducible refine Fo.oe ?_ (fun _ => ?_)
    | with_reducible refine Fo.se (fun _ => ?_) (fun _ => ?_)
set_option maxHeartbeats 4000000 in
theorem fo_FX1_putNumber_3 {P : Nat → Nat → Prop} {t : St} (a : Int32) (hP : ∀ c i, P c i → c ≠ 3 ∧ c ≠ 4) : Fo P t (FX1_putNumber_3 a t) := by
  unfold FX1_putNumber_3
  repeat' first
    | with_reducible exact Fo.ret
    | with_reducible exact Fo.no
    | with_reducible exact fo_FX1_put_3 _ (fun c i h => by have hh := hP c i h; first | exact hh | (obtain ⟨g0, g1⟩ := hh; and_intros <;> first | assumption | (intro e; exact absurd e (by assumption))) | omega | (have := net_q (by assumption); omega) | (have := net_q (x := el 10 _) (by assumption); omega) | (have := find_q (by assumption); omega) | (have := finds_q (by assumption); omega))
    | with_reducible refine Fo.bd ?_ (fun _ _ => ?_)
    | with_reducible refine Fo.ck (fun _ => ?_)
    | with_reducible refine Fo.ite ?_ ?_
    | with_reducible refine Fo.rd (fun _ => ?_)
    | with_reducible refine Fo.wr (fun c i h => by have hh := hP c i h; first | exact hh | (obtain ⟨g0, g1⟩ := hh; and_intros <;> first | assumption | (intro e; exact absurd e (by assumption))) | omega | (have := net_q (by assumption); omega) | (have := net_q (x := el 10 _) (by assumption); omega) | (have := find_q (by assumption); omega) | (have := finds_q (by assumption); omega)) (fun _ => ?_)
    | with_reducible refine Fo.cp (fun c i h => by have hh := hP c i h; first | exact hh | (obtain ⟨g0, g1⟩ := hh; and_intros <;> first | assumption | (intro e; exact absurd e (by assumption))) | omega | (have := net_q (by assumption); omega) | (have := net_q (x := el 10 _) (by assumption); omega)) (fun _ => ?_)
    | with_reducible refine Fo.oe ?_ (fun _ => ?_)
    | with_reducible refine Fo.se (fun _ => ?_) (fun _ => ?_)
set_option maxHeartbeats 4000000 in
theorem fo_SX1_putText_3_s2_2 {P : Nat → Nat → Prop} {t : St} (c : Int32) (hP : ∀ c i, P c i → c ≠ 3 ∧ c ≠ 4) : Fo P t (SX1_putText_3_s2_2 c t) := by
  unfold SX1_putText_3_s2_2
  repeat' first
    | with_reducible exact Fo.ret
    | with_reducible exact Fo.no
    | with_reducible exact fo_FX1_put_3 _ (fun c i h => by have hh := hP c i h; first | exact hh | (obtain ⟨g0, g1⟩ := hh; and_intros <;> first | assumption | (intro e; exact absurd e (by assumption))) | omega | (have := net_q (by assumption); omega) | (have := net_q (x := el 10 _) (by assumption); omega) | (have := find_q (by assumption); omega) | (have := finds_q (by assumption); omega))
    | with_reducible refine Fo.bd ?_ (fun _ _ => ?_)
    | with_reducible refine Fo.ck (fun _ => ?_)
    | with_reducible refine Fo.ite ?_ ?_
    | with_reducible refine Fo.rd (fun _ => ?_)
    | with_reducible refine Fo.wr (fun c i h => by have hh := hP c i h; first | exact hh | (obtain ⟨g0, g1⟩ := hh; and_intros <;> first | assumption | (intro e; exact absurd e (by assumption))) | omega | (have := net_q (by assumption); omega) | (have := net_q (x := el 10 _) (by assumption); omega) | (have := find_q (by assumption); omega) | (have := finds_q (by assumption); omega)) (fun _ => ?_)
    | with_reducible refine Fo.cp (fun c i h => by have hh := hP c i h; first | exact hh | (obtain ⟨g0, g1⟩ := hh; and_intros <;> first | assumption | (intro e; exact absurd e (by assumption))) | omega | (have := net_q (by assumption); omega) | (have := net_q (x := el 10 _) (by assumption); omega)) (fun _ => ?_)
    | with_reducible refine Fo.oe ?_ (fun _ => ?_)
    | with_reducible refine Fo.se (fun _ => ?_) (fun _ => ?_)
set_option maxHeartbeats 4000000 in
theorem fo_FX1_putText_3_s2 {P : Nat → Nat → Prop} {t : St} (hP : ∀ c i, P c i → c ≠ 3 ∧ c ≠ 4) : Fo P t (FX1_putText_3_s2 t) := by
  unfold FX1_putText_3_s2
  repeat' first
    | with_reducible exact Fo.ret
    | with_reducible exact Fo.no
    | with_reducible refine Fo.wh (fun cc ss => fo_SX1_putText_3_s2_2 cc (fun c i h => by have hh := hP c i h; first | exact hh | (obtain ⟨g0, g1⟩ := hh; and_intros <;> first | assumption | (intro e; exact absurd e (by assumption))) | omega | (have := net_q (by assumption); omega) | (have := net_q (x := el 10 _) (by assumption); omega) | (have := find_q (by assumption); omega) | (have := finds_q (by assumption); omega)))
    | with_reducible refine Fo.bd ?_ (fun _ _ => ?_)
    | with_reducible refine Fo.ck (fun _ => ?_)
    | with_reducible refine Fo.ite ?_ ?_
    | with_reducible refine Fo.rd (fun _ => ?_)
    | with_reducible refine Fo.wr (fun c i h => by have hh := hP c i h; first | exact hh | (obtain ⟨g0, g1⟩ := hh; and_intros <;> first | assumption | (intro e; exact absurd e (by assumption))) | omega | (have := net_q (by assumption); omega) | (have := net_q (x := el 10 _) (by assumption); omega) | (have := find_q (by assumption); omega) | (have := finds_q (by assumption); omega)) (fun _ => ?_)
    | with_reducible refine Fo.cp (fun c i h => by have hh := hP c i h; first | exact hh | (obtain ⟨g0, g1⟩ := hh; and_intros <;> first | assumption | (intro e; exact absurd e (by assumption))) | omega | (have := net_q (by assumption); omega) | (have := net_q (x := el 10 _) (by assumption); omega)) (fun _ => ?_)
    | with_reducible refine Fo.oe ?_ (fun _ => ?_)
    | with_reducible refine Fo.se (fun _ => ?_) (fun _ => ?_)
set_option maxHeartbeats 4000000 in
theorem fo_SX1_putText_3_s3_2 {P : Nat → Nat → Prop} {t : St} (c : Int32) (hP : ∀ c i, P c i → c ≠ 3 ∧ c ≠ 4) : Fo P t (SX1_putText_3_s3_2 c t) := by
  unfold SX1_putText_3_s3_2
  repeat' first
    | with_reducible exact Fo.ret
    | with_reducible exact Fo.no
    | with_reducible exact fo_FX1_put_3 _ (fun c i h => by have hh := hP c i h; first | exact hh | (obtain ⟨g0, g1⟩ := hh; and_intros <;> first | assumption | (intro e; exact absurd e (by assumption))) | omega | (have := net_q (by assumption); omega) | (have := net_q (x := el 10 _) (by assumption); omega) | (have := find_q (by assumption); omega) | (have := finds_q (by assumption); omega))
    | with_reducible refine Fo.bd ?_ (fun _ _ => ?_)
    | with_reducible refine Fo.ck (fun _ => ?_)
    | with_reducible refine Fo.ite ?_ ?_
    | with_reducible refine Fo.rd (fun _ => ?_)
    | with_reducible refine Fo.wr (fun c i h => by have hh := hP c i h; first | exact hh | (obtain ⟨g0, g1⟩ := hh; and_intros <;> first | assumption | (intro e; exact absurd e (by assumption))) | omega | (have := net_q (by assumption); omega) | (have := net_q (x := el 10 _) (by assumption); omega) | (have := find_q (by assumption); omega) | (have := finds_q (by assumption); omega)) (fun _ => ?_)
    | with_reducible refine Fo.cp (fun c i h => by have hh := hP c i h; first | exact hh | (obtain ⟨g0, g1⟩ := hh; and_intros <;> first | assumption | (intro e; exact absurd e (by assumption))) | omega | (have := net_q (by assumption); omega) | (have := net_q (x := el 10 _) (by assumption); omega)) (fun _ => ?_)
    | with_reducible refine Fo.oe ?_ (fun _ => ?_)
    | with_reducible refine Fo.se (fun _ => ?_) (fun _ => ?_)
set_option maxHeartbeats 4000000 in
theorem fo_FX1_putText_3_s3 {P : Nat → Nat → Prop} {t : St} (hP : ∀ c i, P c i → c ≠ 3 ∧ c ≠ 4) : Fo P t (FX1_putText_3_s3 t) := by
  unfold FX1_putText_3_s3
  repeat' first
    | with_reducible exact Fo.ret
    | with_reducible exact Fo.no
    | with_reducible refine Fo.wh (fun cc ss => fo_SX1_putText_3_s3_2 cc (fun c i h => by have hh := hP c i h; first | exact hh | (obtain ⟨g0, g1⟩ := hh; and_intros <;> first | assumption | (intro e; exact absurd e (by assumption))) | omega | (have := net_q (by assumption); omega) | (have := net_q (x := el 10 _) (by assumption); omega) | (have := find_q (by assumption); omega) | (have := finds_q (by assumption); omega)))
    | with_reducible refine Fo.bd ?_ (fun _ _ => ?_)
    | with_reducible refine Fo.ck (fun _ => ?_)
    | with_reducible refine Fo.ite ?_ ?_
    | with_reducible refine Fo.rd (fun _ => ?_)
    | with_reducible refine Fo.wr (fun c i h => by have hh := hP c i h; first | exact hh | (obtain ⟨g0, g1⟩ := hh; and_intros <;> first | assumption | (intro e; exact absurd e (by assumption))) | omega | (have := net_q (by assumption); omega) | (have := net_q (x := el 10 _) (by assumption); omega) | (have := find_q (by assumption); omega) | (have := finds_q (by assumption); omega)) (fun _ => ?_)
    | with_reducible refine Fo.cp (fun c i h => by have hh := hP c i h; first | exact hh | (obtain ⟨g0, g1⟩ := hh; and_intros <;> first | assumption | (intro e; exact absurd e (by assumption))) | omega | (have := net_q (by assumption); omega) | (have := net_q (x := el 10 _) (by assumption); omega)) (fun _ => ?_)
    | with_reducible refine Fo.oe ?_ (fun _ => ?_)
    | with_reducible refine Fo.se (fun _ => ?_) (fun _ => ?_)
set_option maxHeartbeats 4000000 in
theorem fo_SX5_aheadOf_4 {P : Nat → Nat → Prop} {t : St} (x0 : Nat) (w1 : Int32) (c : Int32 × Int32) : Fo P t (SX5_aheadOf_4 x0 w1 c t) := by
  unfold SX5_aheadOf_4
  repeat' first
    | with_reducible exact Fo.ret
    | with_reducible exact Fo.no
    | with_reducible refine Fo.bd ?_ (fun _ _ => ?_)
    | with_reducible refine Fo.ck (fun _ => ?_)
    | with_reducible refine Fo.ite ?_ ?_
    | with_reducible refine Fo.rd (fun _ => ?_)
    | with_reducible refine Fo.oe ?_ (fun _ => ?_)
    | with_reducible refine Fo.se (fun _ => ?_) (fun _ => ?_)
set_option maxHeartbeats 4000000 in
theorem fo_FX5_aheadOf {P : Nat → Nat → Prop} {t : St} (x : Nat) (a : Int32) : Fo P t (FX5_aheadOf x a t) := by
  unfold FX5_aheadOf
  repeat' first
    | with_reducible exact Fo.ret
    | with_reducible exact Fo.no
    | with_reducible refine Fo.wh (fun cc ss => fo_SX5_aheadOf_4 _ _ cc)
    | with_reducible refine Fo.bd ?_ (fun _ _ => ?_)
    | with_reducible refine Fo.ck (fun _ => ?_)
    | with_reducible refine Fo.ite ?_ ?_
    | with_reducible refine Fo.rd (fun _ => ?_)
    | with_reducible refine Fo.oe ?_ (fun _ => ?_)
    | with_reducible refine Fo.se (fun _ => ?_) (fun _ => ?_)
set_option maxHeartbeats 4000000 in
theorem fo_FX5_allBits {P : Nat → Nat → Prop} {t : St} (x : Nat) : Fo P t (FX5_allBits x t) := by
  unfold FX5_allBits
  repeat' first
    | with_reducible exact Fo.ret
    | with_reducible exact Fo.no
    | with_reducible refine Fo.bd ?_ (fun _ _ => ?_)
    | with_reducible refine Fo.ck (fun _ => ?_)
    | with_reducible refine Fo.ite ?_ ?_
    | with_reducible refine Fo.rd (fun _ => ?_)
    | with_reducible refine Fo.oe ?_ (fun _ => ?_)
    | with_reducible refine Fo.se (fun _ => ?_) (fun _ => ?_)
set_option maxHeartbeats 4000000 in
theorem fo_SX5_begin_28 {P : Nat → Nat → Prop} {t : St} (x0 : Nat) (c : Int32) (hP : ∀ c i, P c i → c ≠ x0 + 2) : Fo P t (SX5_begin_28 x0 c t) := by
  unfold SX5_begin_28
  repeat' first
    | with_reducible exact Fo.ret
    | with_reducible exact Fo.no
    | with_reducible refine Fo.bd ?_ (fun _ _ => ?_)
    | with_reducible refine Fo.ck (fun _ => ?_)
    | with_reducible refine Fo.ite ?_ ?_
    | with_reducible refine Fo.rd (fun _ => ?_)
    | with_reducible refine Fo.wr (fun c i h => by have hh := hP c i h; first | exact hh | (intro e; exact absurd e hh) | omega | (have := net_q (by assumption); omega) | (have := net_q (x := el 10 _) (by assumption); omega) | (have := find_q (by assumption); omega) | (have := finds_q (by assumption); omega)) (fun _ => ?_)
    | with_reducible refine Fo.cp (fun c i h => by have hh := hP c i h; first | exact hh | (intro e; exact absurd e hh) | omega | (have := net_q (by assumption); omega) | (have := net_q (x := el 10 _) (by assumption); omega)) (fun _ => ?_)
    | with_reducible refine Fo.oe ?_ (fun _ => ?_)
    | with_reducible refine Fo.se (fun _ => ?_) (fun _ => ?_)
set_option maxHeartbeats 4000000 in
theorem fo_FX5_begin {P : Nat → Nat → Prop} {t : St} (x : Nat) (a : Int32) (hP : ∀ c i, P c i → c ≠ x ∧ c ≠ x + 1 ∧ c ≠ x + 2 ∧ c ≠ x + 3) : Fo P t (FX5_begin x a t) := by
  unfold FX5_begin
  repeat' first
    | with_reducible exact Fo.ret
    | with_reducible exact Fo.no
    | with_reducible exact fo_FJ7_fill_53178 _ _ (fun c i h => by have hh := hP c i h; first | exact hh | (obtain ⟨g0, g1, g2, g3⟩ := hh; and_intros <;> first | assumption | (intro e; exact absurd e (by assumption))) | omega | (have := net_q (by assumption); omega) | (have := net_q (x := el 10 _) (by assumption); omega) | (have := find_q (by assumption); omega) | (have := finds_q (by assumption); omega))
    | with_reducible refine Fo.wh (fun cc ss => fo_SX5_begin_28 _ cc (fun c i h => by have hh := hP c i h; first | exact hh | (obtain ⟨g0, g1, g2, g3⟩ := hh; and_intros <;> first | assumption | (intro e; exact absurd e (by assumption))) | omega | (have := net_q (by assumption); omega) | (have := net_q (x := el 10 _) (by assumption); omega) | (have := find_q (by assumption); omega) | (have := finds_q (by assumption); omega)))
    | with_reducible refine Fo.bd ?_ (fun _ _ => ?_)
    | with_reducible refine Fo.ck (fun _ => ?_)
    | with_reducible refine Fo.ite ?_ ?_
    | with_reducible refine Fo.rd (fun _ => ?_)
    | with_reducible refine Fo.wr (fun c i h => by have hh := hP c i h; first | exact hh | (obtain ⟨g0, g1, g2, g3⟩ := hh; and_intros <;> first | assumption | (intro e; exact absurd e (by assumption))) | omega | (have := net_q (by assumption); omega) | (have := net_q (x := el 10 _) (by assumption); omega) | (have := find_q (by assumption); omega) | (have := finds_q (by assumption); omega)) (fun _ => ?_)
    | with_reducible refine Fo.cp (fun c i h => by have hh := hP c i h; first | exact hh | (obtain ⟨g0, g1, g2, g3⟩ := hh; and_intros <;> first | assumption | (intro e; exact absurd e (by assumption))) | omega | (have := net_q (by assumption); omega) | (have := net_q (x := el 10 _) (by assumption); omega)) (fun _ => ?_)
    | with_reducible refine Fo.oe ?_ (fun _ => ?_)
    | with_reducible refine Fo.se (fun _ => ?_) (fun _ => ?_)
set_option maxHeartbeats 4000000 in
theorem fo_FX5_changeOver {P : Nat → Nat → Prop} {t : St} (x : Nat) (a : Int32) (b : Int32) (hP : ∀ c i, P c i → c ≠ x + 2) : Fo P t (FX5_changeOver x a b t) := by
  unfold FX5_changeOver
  repeat' first
    | with_reducible exact Fo.ret
    | with_reducible exact Fo.no
    | with_reducible refine Fo.bd ?_ (fun _ _ => ?_)
    | with_reducible refine Fo.ck (fun _ => ?_)
    | with_reducible refine Fo.ite ?_ ?_
    | with_reducible refine Fo.rd (fun _ => ?_)
    | with_reducible refine Fo.wr (fun c i h => by have hh := hP c i h; first | exact hh | (intro e; exact absurd e hh) | omega | (have := net_q (by assumption); omega) | (have := net_q (x := el 10 _) (by assumption); omega) | (have := find_q (by assumption); omega) | (have := finds_q (by assumption); omega)) (fun _ => ?_)
    | with_reducible refine Fo.cp (fun c i h => by have hh := hP c i h; first | exact hh | (intro e; exact absurd e hh) | omega | (have := net_q (by assumption); omega) | (have := net_q (x := el 10 _) (by assumption); omega)) (fun _ => ?_)
    | with_reducible refine Fo.oe ?_ (fun _ => ?_)
    | with_reducible refine Fo.se (fun _ => ?_) (fun _ => ?_)
set_option maxHeartbeats 4000000 in
theorem fo_FX5_copyFrom {P : Nat → Nat → Prop} {t : St} (x : Nat) (y : Nat) (hP : ∀ c i, P c i → c ≠ x ∧ c ≠ x + 1 ∧ c ≠ x + 2 ∧ c ≠ x + 3) : Fo P t (FX5_copyFrom x y t) := by
  unfold FX5_copyFrom
  repeat' first
    | with_reducible exact Fo.ret
    | with_reducible exact Fo.no
    | with_reducible refine Fo.bd ?_ (fun _ _ => ?_)
    | with_reducible refine Fo.ck (fun _ => ?_)
    | with_reducible refine Fo.ite ?_ ?_
    | with_reducible refine Fo.rd (fun _ => ?_)
    | with_reducible refine Fo.wr (fun c i h => by have hh := hP c i h; first | exact hh | (obtain ⟨g0, g1, g2, g3⟩ := hh; and_intros <;> first | assumption | (intro e; exact absurd e (by assumption))) | omega | (have := net_q (by assumption); omega) | (have := net_q (x := el 10 _) (by assumption); omega) | (have := find_q (by assumption); omega) | (have := finds_q (by assumption); omega)) (fun _ => ?_)
    | with_reducible refine Fo.cp (fun c i h => by have hh := hP c i h; first | exact hh | (obtain ⟨g0, g1, g2, g3⟩ := hh; and_intros <;> first | assumption | (intro e; exact absurd e (by assumption))) | omega | (have := net_q (by assumption); omega) | (have := net_q (x := el 10 _) (by assumption); omega)) (fun _ => ?_)
    | with_reducible refine Fo.oe ?_ (fun _ => ?_)
    | with_reducible refine Fo.se (fun _ => ?_) (fun _ => ?_)
set_option maxHeartbeats 4000000 in
theorem fo_FX5_weightOf {P : Nat → Nat → Prop} {t : St} (x : Nat) (a : Int32) (b : Int32) : Fo P t (FX5_weightOf x a b t) := by
  unfold FX5_weightOf
  repeat' first
    | with_reducible exact Fo.ret
    | with_reducible exact Fo.no
    | with_reducible refine Fo.bd ?_ (fun _ _ => ?_)
    | with_reducible refine Fo.ck (fun _ => ?_)
    | with_reducible refine Fo.ite ?_ ?_
    | with_reducible refine Fo.rd (fun _ => ?_)
    | with_reducible refine Fo.oe ?_ (fun _ => ?_)
    | with_reducible refine Fo.se (fun _ => ?_) (fun _ => ?_)
set_option maxHeartbeats 4000000 in
theorem fo_FX5_setWeight {P : Nat → Nat → Prop} {t : St} (x : Nat) (a : Int32) (b : Int32) (c : Int32) (hP : ∀ c i, P c i → c ≠ x ∧ c ≠ x + 1 ∧ c ≠ x + 3) : Fo P t (FX5_setWeight x a b c t) := by
  unfold FX5_setWeight
  repeat' first
    | with_reducible exact Fo.ret
    | with_reducible exact Fo.no
    | with_reducible exact fo_FX5_weightOf _ _ _
    | with_reducible refine Fo.bd ?_ (fun _ _ => ?_)
    | with_reducible refine Fo.ck (fun _ => ?_)
    | with_reducible refine Fo.ite ?_ ?_
    | with_reducible refine Fo.rd (fun _ => ?_)
    | with_reducible refine Fo.wr (fun c i h => by have hh := hP c i h; first | exact hh | (obtain ⟨g0, g1, g2⟩ := hh; and_intros <;> first | assumption | (intro e; exact absurd e (by assumption))) | omega | (have := net_q (by assumption); omega) | (have := net_q (x := el 10 _) (by assumption); omega) | (have := find_q (by assumption); omega) | (have := finds_q (by assumption); omega)) (fun _ => ?_)
    | with_reducible refine Fo.cp (fun c i h => by have hh := hP c i h; first | exact hh | (obtain ⟨g0, g1, g2⟩ := hh; and_intros <;> first | assumption | (intro e; exact absurd e (by assumption))) | omega | (have := net_q (by assumption); omega) | (have := net_q (x := el 10 _) (by assumption); omega)) (fun _ => ?_)
    | with_reducible refine Fo.oe ?_ (fun _ => ?_)
    | with_reducible refine Fo.se (fun _ => ?_) (fun _ => ?_)
set_option maxHeartbeats 4000000 in
theorem fo_SX5_takeFromRow_4 {P : Nat → Nat → Prop} {t : St} (x0 : Nat) (w1 : Int32) (c : Int32 × Int32) (hP : ∀ c i, P c i → c ≠ x0 + 2) : Fo P t (SX5_takeFromRow_4 x0 w1 c t) := by
  unfold SX5_takeFromRow_4
  repeat' first
    | with_reducible exact Fo.ret
    | with_reducible exact Fo.no
    | with_reducible refine Fo.bd ?_ (fun _ _ => ?_)
    | with_reducible refine Fo.ck (fun _ => ?_)
    | with_reducible refine Fo.ite ?_ ?_
    | with_reducible refine Fo.rd (fun _ => ?_)
    | with_reducible refine Fo.wr (fun c i h => by have hh := hP c i h; first | exact hh | (intro e; exact absurd e hh) | omega | (have := net_q (by assumption); omega) | (have := net_q (x := el 10 _) (by assumption); omega) | (have := find_q (by assumption); omega) | (have := finds_q (by assumption); omega)) (fun _ => ?_)
    | with_reducible refine Fo.cp (fun c i h => by have hh := hP c i h; first | exact hh | (intro e; exact absurd e hh) | omega | (have := net_q (by assumption); omega) | (have := net_q (x := el 10 _) (by assumption); omega)) (fun _ => ?_)
    | with_reducible refine Fo.oe ?_ (fun _ => ?_)
    | with_reducible refine Fo.se (fun _ => ?_) (fun _ => ?_)
set_option maxHeartbeats 4000000 in
theorem fo_FX5_takeFromRow {P : Nat → Nat → Prop} {t : St} (x : Nat) (a : Int32) (hP : ∀ c i, P c i → c ≠ x + 2) : Fo P t (FX5_takeFromRow x a t) := by
  unfold FX5_takeFromRow
  repeat' first
    | with_reducible exact Fo.ret
    | with_reducible exact Fo.no
    | with_reducible refine Fo.wh (fun cc ss => fo_SX5_takeFromRow_4 _ _ cc (fun c i h => by have hh := hP c i h; first | exact hh | (intro e; exact absurd e hh) | omega | (have := net_q (by assumption); omega) | (have := net_q (x := el 10 _) (by assumption); omega) | (have := find_q (by assumption); omega) | (have := finds_q (by assumption); omega)))
    | with_reducible refine Fo.bd ?_ (fun _ _ => ?_)
    | with_reducible refine Fo.ck (fun _ => ?_)
    | with_reducible refine Fo.ite ?_ ?_
    | with_reducible refine Fo.rd (fun _ => ?_)
    | with_reducible refine Fo.wr (fun c i h => by have hh := hP c i h; first | exact hh | (intro e; exact absurd e hh) | omega | (have := net_q (by assumption); omega) | (have := net_q (x := el 10 _) (by assumption); omega) | (have := find_q (by assumption); omega) | (have := finds_q (by assumption); omega)) (fun _ => ?_)
    | with_reducible refine Fo.cp (fun c i h => by have hh := hP c i h; first | exact hh | (intro e; exact absurd e hh) | omega | (have := net_q (by assumption); omega) | (have := net_q (x := el 10 _) (by assumption); omega)) (fun _ => ?_)
    | with_reducible refine Fo.oe ?_ (fun _ => ?_)
    | with_reducible refine Fo.se (fun _ => ?_) (fun _ => ?_)
set_option maxHeartbeats 4000000 in
theorem fo_SX5_takeOut_19 {P : Nat → Nat → Prop} {t : St} (x0 : Nat) (w1 : Int32) (w2 : Int32) (w3 : Int32) (c : Int32) (hP : ∀ c i, P c i → c ≠ x0 ∧ c ≠ x0 + 1 ∧ c ≠ x0 + 3) : Fo P t (SX5_takeOut_19 x0 w1 w2 w3 c t) := by
  unfold SX5_takeOut_19
  repeat' first
    | with_reducible exact Fo.ret
    | with_reducible exact Fo.no
    | with_reducible exact fo_FX5_weightOf _ _ _
    | with_reducible exact fo_FX5_setWeight _ _ _ _ (fun c i h => by have hh := hP c i h; first | exact hh | (obtain ⟨g0, g1, g2⟩ := hh; and_intros <;> first | assumption | (intro e; exact absurd e (by assumption))) | omega | (have := net_q (by assumption); omega) | (have := net_q (x := el 10 _) (by assumption); omega) | (have := find_q (by assumption); omega) | (have := finds_q (by assumption); omega))
    | with_reducible refine Fo.bd ?_ (fun _ _ => ?_)
    | with_reducible refine Fo.ck (fun _ => ?_)
    | with_reducible refine Fo.ite ?_ ?_
    | with_reducible refine Fo.rd (fun _ => ?_)
    | with_reducible refine Fo.wr (fun c i h => by have hh := hP c i h; first | exact hh | (obtain ⟨g0, g1, g2⟩ := hh; and_intros <;> first | assumption | (intro e; exact absurd e (by assumption))) | omega | (have := net_q (by assumption); omega) | (have := net_q (x := el 10 _) (by assumption); omega) | (have := find_q (by assumption); omega) | (have := finds_q (by assumption); omega)) (fun _ => ?_)
    | with_reducible refine Fo.cp (fun c i h => by have hh := hP c i h; first | exact hh | (obtain ⟨g0, g1, g2⟩ := hh; and_intros <;> first | assumption | (intro e; exact absurd e (by assumption))) | omega | (have := net_q (by assumption); omega) | (have := net_q (x := el 10 _) (by assumption); omega)) (fun _ => ?_)
    | with_reducible refine Fo.oe ?_ (fun _ => ?_)
    | with_reducible refine Fo.se (fun _ => ?_) (fun _ => ?_)
set_option maxHeartbeats 4000000 in
theorem fo_SX5_takeOut_9 {P : Nat → Nat → Prop} {t : St} (x0 : Nat) (w1 : Int32) (w2 : Int32) (c : Int32) (hP : ∀ c i, P c i → c ≠ x0 ∧ c ≠ x0 + 1 ∧ c ≠ x0 + 3) : Fo P t (SX5_takeOut_9 x0 w1 w2 c t) := by
  unfold SX5_takeOut_9
  repeat' first
    | with_reducible exact Fo.ret
    | with_reducible exact Fo.no
    | with_reducible refine Fo.wh (fun cc ss => fo_SX5_takeOut_19 _ _ _ _ cc (fun c i h => by have hh := hP c i h; first | exact hh | (obtain ⟨g0, g1, g2⟩ := hh; and_intros <;> first | assumption | (intro e; exact absurd e (by assumption))) | omega | (have := net_q (by assumption); omega) | (have := net_q (x := el 10 _) (by assumption); omega) | (have := find_q (by assumption); omega) | (have := finds_q (by assumption); omega)))
    | with_reducible refine Fo.bd ?_ (fun _ _ => ?_)
    | with_reducible refine Fo.ck (fun _ => ?_)
    | with_reducible refine Fo.ite ?_ ?_
    | with_reducible refine Fo.rd (fun _ => ?_)
    | with_reducible refine Fo.wr (fun c i h => by have hh := hP c i h; first | exact hh | (obtain ⟨g0, g1, g2⟩ := hh; and_intros <;> first | assumption | (intro e; exact absurd e (by assumption))) | omega | (have := net_q (by assumption); omega) | (have := net_q (x := el 10 _) (by assumption); omega) | (have := find_q (by assumption); omega) | (have := finds_q (by assumption); omega)) (fun _ => ?_)
    | with_reducible refine Fo.cp (fun c i h => by have hh := hP c i h; first | exact hh | (obtain ⟨g0, g1, g2⟩ := hh; and_intros <;> first | assumption | (intro e; exact absurd e (by assumption))) | omega | (have := net_q (by assumption); omega) | (have := net_q (x := el 10 _) (by assumption); omega)) (fun _ => ?_)
    | with_reducible refine Fo.oe ?_ (fun _ => ?_)
    | with_reducible refine Fo.se (fun _ => ?_) (fun _ => ?_)
set_option maxHeartbeats 4000000 in
theorem fo_SX5_takeOut_77 {P : Nat → Nat → Prop} {t : St} (x0 : Nat) (w1 : Int32) (w2 : Int32) (c : Int32) (hP : ∀ c i, P c i → c ≠ x0 ∧ c ≠ x0 + 1 ∧ c ≠ x0 + 3) : Fo P t (SX5_takeOut_77 x0 w1 w2 c t) := by
  unfold SX5_takeOut_77
  repeat' first
    | with_reducible exact Fo.ret
    | with_reducible exact Fo.no
    | with_reducible exact fo_FX5_setWeight _ _ _ _ (fun c i h => by have hh := hP c i h; first | exact hh | (obtain ⟨g0, g1, g2⟩ := hh; and_intros <;> first | assumption | (intro e; exact absurd e (by assumption))) | omega | (have := net_q (by assumption); omega) | (have := net_q (x := el 10 _) (by assumption); omega) | (have := find_q (by assumption); omega) | (have := finds_q (by assumption); omega))
    | with_reducible refine Fo.bd ?_ (fun _ _ => ?_)
    | with_reducible refine Fo.ck (fun _ => ?_)
    | with_reducible refine Fo.ite ?_ ?_
    | with_reducible refine Fo.rd (fun _ => ?_)
    | with_reducible refine Fo.wr (fun c i h => by have hh := hP c i h; first | exact hh | (obtain ⟨g0, g1, g2⟩ := hh; and_intros <;> first | assumption | (intro e; exact absurd e (by assumption))) | omega | (have := net_q (by assumption); omega) | (have := net_q (x := el 10 _) (by assumption); omega) | (have := find_q (by assumption); omega) | (have := finds_q (by assumption); omega)) (fun _ => ?_)
    | with_reducible refine Fo.cp (fun c i h => by have hh := hP c i h; first | exact hh | (obtain ⟨g0, g1, g2⟩ := hh; and_intros <;> first | assumption | (intro e; exact absurd e (by assumption))) | omega | (have := net_q (by assumption); omega) | (have := net_q (x := el 10 _) (by assumption); omega)) (fun _ => ?_)
    | with_reducible refine Fo.oe ?_ (fun _ => ?_)
    | with_reducible refine Fo.se (fun _ => ?_) (fun _ => ?_)
set_option maxHeartbeats 4000000 in
theorem fo_FX5_takeOut {P : Nat → Nat → Prop} {t : St} (x : Nat) (a : Int32) (hP : ∀ c i, P c i → c ≠ x ∧ c ≠ x + 1 ∧ c ≠ x + 2 ∧ c ≠ x + 3) : Fo P t (FX5_takeOut x a t) := by
  unfold FX5_takeOut
  repeat' first
    | with_reducible exact Fo.ret
    | with_reducible exact Fo.no
    | with_reducible refine Fo.wh (fun cc ss => fo_SX5_takeOut_9 _ _ _ cc (fun c i h => by have hh := hP c i h; first | exact hh | (obtain ⟨g0, g1, g2, g3⟩ := hh; and_intros <;> first | assumption | (intro e; exact absurd e (by assumption))) | omega | (have := net_q (by assumption); omega) | (have := net_q (x := el 10 _) (by assumption); omega) | (have := find_q (by assumption); omega) | (have := finds_q (by assumption); omega)))
    | with_reducible refine Fo.wh (fun cc ss => fo_SX5_takeOut_77 _ _ _ cc (fun c i h => by have hh := hP c i h; first | exact hh | (obtain ⟨g0, g1, g2, g3⟩ := hh; and_intros <;> first | assumption | (intro e; exact absurd e (by assumption))) | omega | (have := net_q (by assumption); omega) | (have := net_q (x := el 10 _) (by assumption); omega) | (have := find_q (by assumption); omega) | (have := finds_q (by assumption); omega)))
    | with_reducible exact fo_FX5_takeFromRow _ _ (fun c i h => by have hh := hP c i h; first | exact hh | (obtain ⟨g0, g1, g2, g3⟩ := hh; and_intros <;> first | assumption | (intro e; exact absurd e (by assumption))) | omega | (have := net_q (by assumption); omega) | (have := net_q (x := el 10 _) (by assumption); omega) | (have := find_q (by assumption); omega) | (have := finds_q (by assumption); omega))
    | with_reducible refine Fo.bd ?_ (fun _ _ => ?_)
    | with_reducible refine Fo.ck (fun _ => ?_)
    | with_reducible refine Fo.ite ?_ ?_
    | with_reducible refine Fo.rd (fun _ => ?_)
    | with_reducible refine Fo.wr (fun c i h => by have hh := hP c i h; first | exact hh | (obtain ⟨g0, g1, g2, g3⟩ := hh; and_intros <;> first | assumption | (intro e; exact absurd e (by assumption))) | omega | (have := net_q (by assumption); omega) | (have := net_q (x := el 10 _) (by assumption); omega) | (have := find_q (by assumption); omega) | (have := finds_q (by assumption); omega)) (fun _ => ?_)
    | with_reducible refine Fo.cp (fun c i h => by have hh := hP c i h; first | exact hh | (obtain ⟨g0, g1, g2, g3⟩ := hh; and_intros <;> first | assumption | (intro e; exact absurd e (by assumption))) | omega | (have := net_q (by assumption); omega) | (have := net_q (x := el 10 _) (by assumption); omega)) (fun _ => ?_)
    | with_reducible refine Fo.oe ?_ (fun _ => ?_)
    | with_reducible refine Fo.se (fun _ => ?_) (fun _ => ?_)
set_option maxHeartbeats 4000000 in
theorem fo_SX5_drawTogether_16 {P : Nat → Nat → Prop} {t : St} (x0 : Nat) (w3 : Int32) (w4 : Int32) (c : Int32) (hP : ∀ c i, P c i → c ≠ x0 ∧ c ≠ x0 + 1 ∧ c ≠ x0 + 3) : Fo P t (SX5_drawTogether_16 x0 w3 w4 c t) := by
  unfold SX5_drawTogether_16
  repeat' first
    | with_reducible exact Fo.ret
    | with_reducible exact Fo.no
    | with_reducible exact fo_FX5_weightOf _ _ _
    | with_reducible exact fo_FX5_setWeight _ _ _ _ (fun c i h => by have hh := hP c i h; first | exact hh | (obtain ⟨g0, g1, g2⟩ := hh; and_intros <;> first | assumption | (intro e; exact absurd e (by assumption))) | omega | (have := net_q (by assumption); omega) | (have := net_q (x := el 10 _) (by assumption); omega) | (have := find_q (by assumption); omega) | (have := finds_q (by assumption); omega))
    | with_reducible refine Fo.bd ?_ (fun _ _ => ?_)
    | with_reducible refine Fo.ck (fun _ => ?_)
    | with_reducible refine Fo.ite ?_ ?_
    | with_reducible refine Fo.rd (fun _ => ?_)
    | with_reducible refine Fo.wr (fun c i h => by have hh := hP c i h; first | exact hh | (obtain ⟨g0, g1, g2⟩ := hh; and_intros <;> first | assumption | (intro e; exact absurd e (by assumption))) | omega | (have := net_q (by assumption); omega) | (have := net_q (x := el 10 _) (by assumption); omega) | (have := find_q (by assumption); omega) | (have := finds_q (by assumption); omega)) (fun _ => ?_)
    | with_reducible refine Fo.cp (fun c i h => by have hh := hP c i h; first | exact hh | (obtain ⟨g0, g1, g2⟩ := hh; and_intros <;> first | assumption | (intro e; exact absurd e (by assumption))) | omega | (have := net_q (by assumption); omega) | (have := net_q (x := el 10 _) (by assumption); omega)) (fun _ => ?_)
    | with_reducible refine Fo.oe ?_ (fun _ => ?_)
    | with_reducible refine Fo.se (fun _ => ?_) (fun _ => ?_)
set_option maxHeartbeats 4000000 in
theorem fo_FX5_drawTogether {P : Nat → Nat → Prop} {t : St} (x : Nat) (a : Int32) (b : Int32) (hP : ∀ c i, P c i → c ≠ x ∧ c ≠ x + 1 ∧ c ≠ x + 2 ∧ c ≠ x + 3) : Fo P t (FX5_drawTogether x a b t) := by
  unfold FX5_drawTogether
  repeat' first
    | with_reducible exact Fo.ret
    | with_reducible exact Fo.no
    | with_reducible refine Fo.wh (fun cc ss => fo_SX5_drawTogether_16 _ _ _ cc (fun c i h => by have hh := hP c i h; first | exact hh | (obtain ⟨g0, g1, g2, g3⟩ := hh; and_intros <;> first | assumption | (intro e; exact absurd e (by assumption))) | omega | (have := net_q (by assumption); omega) | (have := net_q (x := el 10 _) (by assumption); omega) | (have := find_q (by assumption); omega) | (have := finds_q (by assumption); omega)))
    | with_reducible exact fo_FX5_takeOut _ _ (fun c i h => by have hh := hP c i h; first | exact hh | (obtain ⟨g0, g1, g2, g3⟩ := hh; and_intros <;> first | assumption | (intro e; exact absurd e (by assumption))) | omega | (have := net_q (by assumption); omega) | (have := net_q (x := el 10 _) (by assumption); omega) | (have := find_q (by assumption); omega) | (have := finds_q (by assumption); omega))
    | with_reducible refine Fo.bd ?_ (fun _ _ => ?_)
    | with_reducible refine Fo.ck (fun _ => ?_)
    | with_reducible refine Fo.ite ?_ ?_
    | with_reducible refine Fo.rd (fun _ => ?_)
    | with_reducible refine Fo.wr (fun c i h => by have hh := hP c i h; first | exact hh | (obtain ⟨g0, g1, g2, g3⟩ := hh; and_intros <;> first | assumption | (intro e; exact absurd e (by assumption))) | omega | (have := net_q (by assumption); omega) | (have := net_q (x := el 10 _) (by assumption); omega) | (have := find_q (by assumption); omega) | (have := finds_q (by assumption); omega)) (fun _ => ?_)
    | with_reducible refine Fo.cp (fun c i h => by have hh := hP c i h; first | exact hh | (obtain ⟨g0, g1, g2, g3⟩ := hh; and_intros <;> first | assumption | (intro e; exact absurd e (by assumption))) | omega | (have := net_q (by assumption); omega) | (have := net_q (x := el 10 _) (by assumption); omega)) (fun _ => ?_)
    | with_reducible refine Fo.oe ?_ (fun _ => ?_)
    | with_reducible refine Fo.se (fun _ => ?_) (fun _ => ?_)
set_option maxHeartbeats 4000000 in
theorem fo_FX5_has {P : Nat → Nat → Prop} {t : St} (x : Nat) (a : Int32) : Fo P t (FX5_has x a t) := by
  unfold FX5_has
  repeat' first
    | with_reducible exact Fo.ret
    | with_reducible exact Fo.no
    | with_reducible refine Fo.bd ?_ (fun _ _ => ?_)
    | with_reducible refine Fo.ck (fun _ => ?_)
    | with_reducible refine Fo.ite ?_ ?_
    | with_reducible refine Fo.rd (fun _ => ?_)
    | with_reducible refine Fo.oe ?_ (fun _ => ?_)
    | with_reducible refine Fo.se (fun _ => ?_) (fun _ => ?_)
set_option maxHeartbeats 4000000 in
theorem fo_FX5_hasTwo {P : Nat → Nat → Prop} {t : St} (x : Nat) (a : Int32) (b : Int32) : Fo P t (FX5_hasTwo x a b t) := by
  unfold FX5_hasTwo
  repeat' first
    | with_reducible exact Fo.ret
    | with_reducible exact Fo.no
    | with_reducible exact fo_FX5_has _ _
    | with_reducible refine Fo.bd ?_ (fun _ _ => ?_)
    | with_reducible refine Fo.ck (fun _ => ?_)
    | with_reducible refine Fo.ite ?_ ?_
    | with_reducible refine Fo.rd (fun _ => ?_)
    | with_reducible refine Fo.oe ?_ (fun _ => ?_)
    | with_reducible refine Fo.se (fun _ => ?_) (fun _ => ?_)
set_option maxHeartbeats 4000000 in
theorem fo_FX5_lineCount {P : Nat → Nat → Prop} {t : St} (x : Nat) (a : Int32) : Fo P t (FX5_lineCount x a t) := by
  unfold FX5_lineCount
  repeat' first
    | with_reducible exact Fo.ret
    | with_reducible exact Fo.no
    | with_reducible exact fo_FJ6_bitCount_0f7a4 _
    | with_reducible refine Fo.bd ?_ (fun _ _ => ?_)
    | with_reducible refine Fo.ck (fun _ => ?_)
    | with_reducible refine Fo.ite ?_ ?_
    | with_reducible refine Fo.rd (fun _ => ?_)
    | with_reducible refine Fo.oe ?_ (fun _ => ?_)
    | with_reducible refine Fo.se (fun _ => ?_) (fun _ => ?_)
set_option maxHeartbeats 4000000 in
theorem fo_SX5_placeOf_2 {P : Nat → Nat → Prop} {t : St} (x0 : Nat) (w1 : Int32) (c : Int32) : Fo P t (SX5_placeOf_2 x0 w1 c t) := by
  unfold SX5_placeOf_2
  repeat' first
    | with_reducible exact Fo.ret
    | with_reducible exact Fo.no
    | with_reducible refine Fo.bd ?_ (fun _ _ => ?_)
    | with_reducible refine Fo.ck (fun _ => ?_)
    | with_reducible refine Fo.ite ?_ ?_
    | with_reducible refine Fo.rd (fun _ => ?_)
    | with_reducible refine Fo.oe ?_ (fun _ => ?_)
    | with_reducible refine Fo.se (fun _ => ?_) (fun _ => ?_)
set_option maxHeartbeats 4000000 in
theorem fo_FX5_placeOf {P : Nat → Nat → Prop} {t : St} (x : Nat) (a : Int32) : Fo P t (FX5_placeOf x a t) := by
  unfold FX5_placeOf
  repeat' first
    | with_reducible exact Fo.ret
    | with_reducible exact Fo.no
    | with_reducible refine Fo.wh (fun cc ss => fo_SX5_placeOf_2 _ _ cc)
    | with_reducible refine Fo.bd ?_ (fun _ _ => ?_)
    | with_reducible refine Fo.ck (fun _ => ?_)
    | with_reducible refine Fo.ite ?_ ?_
    | with_reducible refine Fo.rd (fun _ => ?_)
    | with_reducible refine Fo.oe ?_ (fun _ => ?_)
    | with_reducible refine Fo.se (fun _ => ?_) (fun _ => ?_)
set_option maxHeartbeats 4000000 in
theorem fo_SX5_placesUnlike_4 {P : Nat → Nat → Prop} {t : St} (x0 : Nat) (x1 : Nat) (c : Int32 × Int32) : Fo P t (SX5_placesUnlike_4 x0 x1 c t) := by
  unfold SX5_placesUnlike_4
  repeat' first
    | with_reducible exact Fo.ret
    | with_reducible exact Fo.no
    | with_reducible refine Fo.bd ?_ (fun _ _ => ?_)
    | with_reducible refine Fo.ck (fun _ => ?_)
    | with_reducible refine Fo.ite ?_ ?_
    | with_reducible refine Fo.rd (fun _ => ?_)
    | with_reducible refine Fo.oe ?_ (fun _ => ?_)
    | with_reducible refine Fo.se (fun _ => ?_) (fun _ => ?_)
set_option maxHeartbeats 4000000 in
theorem fo_FX5_placesUnlike {P : Nat → Nat → Prop} {t : St} (x : Nat) (y : Nat) : Fo P t (FX5_placesUnlike x y t) := by
  unfold FX5_placesUnlike
  repeat' first
    | with_reducible exact Fo.ret
    | with_reducible exact Fo.no
    | with_reducible refine Fo.wh (fun cc ss => fo_SX5_placesUnlike_4 _ _ cc)
    | with_reducible refine Fo.bd ?_ (fun _ _ => ?_)
    | with_reducible refine Fo.ck (fun _ => ?_)
    | with_reducible refine Fo.ite ?_ ?_
    | with_reducible refine Fo.rd (fun _ => ?_)
    | with_reducible refine Fo.oe ?_ (fun _ => ?_)
    | with_reducible refine Fo.se (fun _ => ?_) (fun _ => ?_)
set_option maxHeartbeats 4000000 in
theorem fo_SX5_sameLines_36 {P : Nat → Nat → Prop} {t : St} (x0 : Nat) (x1 : Nat) (w2 : Int32) (c : Int32) : Fo P t (SX5_sameLines_36 x0 x1 w2 c t) := by
  unfold SX5_sameLines_36
  repeat' first
    | with_reducible exact Fo.ret
    | with_reducible exact Fo.no
    | with_reducible exact fo_FX5_weightOf _ _ _
    | with_reducible refine Fo.bd ?_ (fun _ _ => ?_)
    | with_reducible refine Fo.ck (fun _ => ?_)
    | with_reducible refine Fo.ite ?_ ?_
    | with_reducible refine Fo.rd (fun _ => ?_)
    | with_reducible refine Fo.oe ?_ (fun _ => ?_)
    | with_reducible refine Fo.se (fun _ => ?_) (fun _ => ?_)
set_option maxHeartbeats 4000000 in
theorem fo_SX5_sameLines_26 {P : Nat → Nat → Prop} {t : St} (x0 : Nat) (x1 : Nat) (c : Int32) : Fo P t (SX5_sameLines_26 x0 x1 c t) := by
  unfold SX5_sameLines_26
  repeat' first
    | with_reducible exact Fo.ret
    | with_reducible exact Fo.no
    | with_reducible refine Fo.wh (fun cc ss => fo_SX5_sameLines_36 _ _ _ cc)
    | with_reducible refine Fo.bd ?_ (fun _ _ => ?_)
    | with_reducible refine Fo.ck (fun _ => ?_)
    | with_reducible refine Fo.ite ?_ ?_
    | with_reducible refine Fo.rd (fun _ => ?_)
    | with_reducible refine Fo.oe ?_ (fun _ => ?_)
    | with_reducible refine Fo.se (fun _ => ?_) (fun _ => ?_)
set_option maxHeartbeats 4000000 in
theorem fo_FX5_sameLines {P : Nat → Nat → Prop} {t : St} (x : Nat) (y : Nat) : Fo P t (FX5_sameLines x y t) := by
  unfold FX5_sameLines
  repeat' first
    | with_reducible exact Fo.ret
    | with_reducible exact Fo.no
    | with_reducible refine Fo.wh (fun cc ss => fo_SX5_sameLines_26 _ _ cc)
    | with_reducible refine Fo.bd ?_ (fun _ _ => ?_)
    | with_reducible refine Fo.ck (fun _ => ?_)
    | with_reducible refine Fo.ite ?_ ?_
    | with_reducible refine Fo.rd (fun _ => ?_)
    | with_reducible refine Fo.oe ?_ (fun _ => ?_)
    | with_reducible refine Fo.se (fun _ => ?_) (fun _ => ?_)
set_option maxHeartbeats 4000000 in
theorem fo_FX5_sameAs {P : Nat → Nat → Prop} {t : St} (x : Nat) (y : Nat) : Fo P t (FX5_sameAs x y t) := by
  unfold FX5_sameAs
  repeat' first
    | with_reducible exact Fo.ret
    | with_reducible exact Fo.no
    | with_reducible exact fo_FX5_sameLines _ _
    | with_reducible exact fo_FX5_placesUnlike _ _
    | with_reducible refine Fo.bd ?_ (fun _ _ => ?_)
    | with_reducible refine Fo.ck (fun _ => ?_)
    | with_reducible refine Fo.ite ?_ ?_
    | with_reducible refine Fo.rd (fun _ => ?_)
    | with_reducible refine Fo.oe ?_ (fun _ => ?_)
    | with_reducible refine Fo.se (fun _ => ?_) (fun _ => ?_)
set_option maxHeartbeats 4000000 in
theorem fo_SX5_shift_2 {P : Nat → Nat → Prop} {t : St} (x0 : Nat) (w1 : Int32) (w2 : Int32) (c : Int32) (hP : ∀ c i, P c i → c ≠ x0 + 2) : Fo P t (SX5_shift_2 x0 w1 w2 c t) := by
  unfold SX5_shift_2
  repeat' first
    | with_reducible exact Fo.ret
    | with_reducible exact Fo.no
    | with_reducible exact fo_FX5_changeOver _ _ _ (fun c i h => by have hh := hP c i h; first | exact hh | (intro e; exact absurd e hh) | omega | (have := net_q (by assumption); omega) | (have := net_q (x := el 10 _) (by assumption); omega) | (have := find_q (by assumption); omega) | (have := finds_q (by assumption); omega))
    | with_reducible refine Fo.bd ?_ (fun _ _ => ?_)
    | with_reducible refine Fo.ck (fun _ => ?_)
    | with_reducible refine Fo.ite ?_ ?_
    | with_reducible refine Fo.rd (fun _ => ?_)
    | with_reducible refine Fo.wr (fun c i h => by have hh := hP c i h; first | exact hh | (intro e; exact absurd e hh) | omega | (have := net_q (by assumption); omega) | (have := net_q (x := el 10 _) (by assumption); omega) | (have := find_q (by assumption); omega) | (have := finds_q (by assumption); omega)) (fun _ => ?_)
    | with_reducible refine Fo.cp (fun c i h => by have hh := hP c i h; first | exact hh | (intro e; exact absurd e hh) | omega | (have := net_q (by assumption); omega) | (have := net_q (x := el 10 _) (by assumption); omega)) (fun _ => ?_)
    | with_reducible refine Fo.oe ?_ (fun _ => ?_)
    | with_reducible refine Fo.se (fun _ => ?_) (fun _ => ?_)
set_option maxHeartbeats 4000000 in
theorem fo_SX5_shift_23 {P : Nat → Nat → Prop} {t : St} (x0 : Nat) (w2 : Int32) (c : Int32) (hP : ∀ c i, P c i → c ≠ x0 + 2) : Fo P t (SX5_shift_23 x0 w2 c t) := by
  unfold SX5_shift_23
  repeat' first
    | with_reducible exact Fo.ret
    | with_reducible exact Fo.no
    | with_reducible exact fo_FX5_changeOver _ _ _ (fun c i h => by have hh := hP c i h; first | exact hh | (intro e; exact absurd e hh) | omega | (have := net_q (by assumption); omega) | (have := net_q (x := el 10 _) (by assumption); omega) | (have := find_q (by assumption); omega) | (have := finds_q (by assumption); omega))
    | with_reducible refine Fo.bd ?_ (fun _ _ => ?_)
    | with_reducible refine Fo.ck (fun _ => ?_)
    | with_reducible refine Fo.ite ?_ ?_
    | with_reducible refine Fo.rd (fun _ => ?_)
    | with_reducible refine Fo.wr (fun c i h => by have hh := hP c i h; first | exact hh | (intro e; exact absurd e hh) | omega | (have := net_q (by assumption); omega) | (have := net_q (x := el 10 _) (by assumption); omega) | (have := find_q (by assumption); omega) | (have := finds_q (by assumption); omega)) (fun _ => ?_)
    | with_reducible refine Fo.cp (fun c i h => by have hh := hP c i h; first | exact hh | (intro e; exact absurd e hh) | omega | (have := net_q (by assumption); omega) | (have := net_q (x := el 10 _) (by assumption); omega)) (fun _ => ?_)
    | with_reducible refine Fo.oe ?_ (fun _ => ?_)
    | with_reducible refine Fo.se (fun _ => ?_) (fun _ => ?_)
set_option maxHeartbeats 4000000 in
theorem fo_FX5_shift {P : Nat → Nat → Prop} {t : St} (x : Nat) (a : Int32) (b : Int32) (hP : ∀ c i, P c i → c ≠ x + 2) : Fo P t (FX5_shift x a b t) := by
  unfold FX5_shift
  repeat' first
    | with_reducible exact Fo.ret
    | with_reducible exact Fo.no
    | with_reducible refine Fo.wh (fun cc ss => fo_SX5_shift_2 _ _ _ cc (fun c i h => by have hh := hP c i h; first | exact hh | (intro e; exact absurd e hh) | omega | (have := net_q (by assumption); omega) | (have := net_q (x := el 10 _) (by assumption); omega) | (have := find_q (by assumption); omega) | (have := finds_q (by assumption); omega)))
    | with_reducible refine Fo.wh (fun cc ss => fo_SX5_shift_23 _ _ cc (fun c i h => by have hh := hP c i h; first | exact hh | (intro e; exact absurd e hh) | omega | (have := net_q (by assumption); omega) | (have := net_q (x := el 10 _) (by assumption); omega) | (have := find_q (by assumption); omega) | (have := finds_q (by assumption); omega)))
    | with_reducible refine Fo.bd ?_ (fun _ _ => ?_)
    | with_reducible refine Fo.ck (fun _ => ?_)
    | with_reducible refine Fo.ite ?_ ?_
    | with_reducible refine Fo.rd (fun _ => ?_)
    | with_reducible refine Fo.wr (fun c i h => by have hh := hP c i h; first | exact hh | (intro e; exact absurd e hh) | omega | (have := net_q (by assumption); omega) | (have := net_q (x := el 10 _) (by assumption); omega) | (have := find_q (by assumption); omega) | (have := finds_q (by assumption); omega)) (fun _ => ?_)
    | with_reducible refine Fo.cp (fun c i h => by have hh := hP c i h; first | exact hh | (intro e; exact absurd e hh) | omega | (have := net_q (by assumption); omega) | (have := net_q (x := el 10 _) (by assumption); omega)) (fun _ => ?_)
    | with_reducible refine Fo.oe ?_ (fun _ => ?_)
    | with_reducible refine Fo.se (fun _ => ?_) (fun _ => ?_)
set_option maxHeartbeats 4000000 in
theorem fo_SX5_turnRound_2 {P : Nat → Nat → Prop} {t : St} (x0 : Nat) (c : Int32) (hP : ∀ c i, P c i → c ≠ x0 + 2) : Fo P t (SX5_turnRound_2 x0 c t) := by
  unfold SX5_turnRound_2
  repeat' first
    | with_reducible exact Fo.ret
    | with_reducible exact Fo.no
    | with_reducible exact fo_FX5_changeOver _ _ _ (fun c i h => by have hh := hP c i h; first | exact hh | (intro e; exact absurd e hh) | omega | (have := net_q (by assumption); omega) | (have := net_q (x := el 10 _) (by assumption); omega) | (have := find_q (by assumption); omega) | (have := finds_q (by assumption); omega))
    | with_reducible refine Fo.bd ?_ (fun _ _ => ?_)
    | with_reducible refine Fo.ck (fun _ => ?_)
    | with_reducible refine Fo.ite ?_ ?_
    | with_reducible refine Fo.rd (fun _ => ?_)
    | with_reducible refine Fo.wr (fun c i h => by have hh := hP c i h; first | exact hh | (intro e; exact absurd e hh) | omega | (have := net_q (by assumption); omega) | (have := net_q (x := el 10 _) (by assumption); omega) | (have := find_q (by assumption); omega) | (have := finds_q (by assumption); omega)) (fun _ => ?_)
    | with_reducible refine Fo.cp (fun c i h => by have hh := hP c i h; first | exact hh | (intro e; exact absurd e hh) | omega | (have := net_q (by assumption); omega) | (have := net_q (x := el 10 _) (by assumption); omega)) (fun _ => ?_)
    | with_reducible refine Fo.oe ?_ (fun _ => ?_)
    | with_reducible refine Fo.se (fun _ => ?_) (fun _ => ?_)
set_option maxHeartbeats 4000000 in
theorem fo_FX5_turnRound {P : Nat → Nat → Prop} {t : St} (x : Nat) (hP : ∀ c i, P c i → c ≠ x + 2) : Fo P t (FX5_turnRound x t) := by
  unfold FX5_turnRound
  repeat' first
    | with_reducible exact Fo.ret
    | with_reducible exact Fo.no
    | with_reducible refine Fo.wh (fun cc ss => fo_SX5_turnRound_2 _ cc (fun c i h => by have hh := hP c i h; first | exact hh | (intro e; exact absurd e hh) | omega | (have := net_q (by assumption); omega) | (have := net_q (x := el 10 _) (by assumption); omega) | (have := find_q (by assumption); omega) | (have := finds_q (by assumption); omega)))
    | with_reducible refine Fo.bd ?_ (fun _ _ => ?_)
    | with_reducible refine Fo.ck (fun _ => ?_)
    | with_reducible refine Fo.ite ?_ ?_
    | with_reducible refine Fo.rd (fun _ => ?_)
    | with_reducible refine Fo.wr (fun c i h => by have hh := hP c i h; first | exact hh | (intro e; exact absurd e hh) | omega | (have := net_q (by assumption); omega) | (have := net_q (x := el 10 _) (by assumption); omega) | (have := find_q (by assumption); omega) | (have := finds_q (by assumption); omega)) (fun _ => ?_)
    | with_reducible refine Fo.cp (fun c i h => by have hh := hP c i h; first | exact hh | (intro e; exact absurd e hh) | omega | (have := net_q (by assumption); omega) | (have := net_q (x := el 10 _) (by assumption); omega)) (fun _ => ?_)
    | with_reducible refine Fo.oe ?_ (fun _ => ?_)
    | with_reducible refine Fo.se (fun _ => ?_) (fun _ => ?_)
set_option maxHeartbeats 4000000 in
theorem fo_SX10_grown_4 {P : Nat → Nat → Prop} {t : St} (x0 : Nat) (w1 : Int32) (c : Int32 × Int32) : Fo P t (SX10_grown_4 x0 w1 c t) := by
  unfold SX10_grown_4
  repeat' first
    | with_reducible exact Fo.ret
    | with_reducible exact Fo.no
    | with_reducible refine Fo.bd ?_ (fun _ _ => ?_)
    | with_reducible refine Fo.ck (fun _ => ?_)
    | with_reducible refine Fo.ite ?_ ?_
    | with_reducible refine Fo.rd (fun _ => ?_)
    | with_reducible refine Fo.oe ?_ (fun _ => ?_)
    | with_reducible refine Fo.se (fun _ => ?_) (fun _ => ?_)
set_option maxHeartbeats 4000000 in
theorem fo_FX10_grown {P : Nat → Nat → Prop} {t : St} (x : Nat) (a : Int32) : Fo P t (FX10_grown x a t) := by
  unfold FX10_grown
  repeat' first
    | with_reducible exact Fo.ret
    | with_reducible exact Fo.no
    | with_reducible refine Fo.wh (fun cc ss => fo_SX10_grown_4 _ _ cc)
    | with_reducible refine Fo.bd ?_ (fun _ _ => ?_)
    | with_reducible refine Fo.ck (fun _ => ?_)
    | with_reducible refine Fo.ite ?_ ?_
    | with_reducible refine Fo.rd (fun _ => ?_)
    | with_reducible refine Fo.oe ?_ (fun _ => ?_)
    | with_reducible refine Fo.se (fun _ => ?_) (fun _ => ?_)
set_option maxHeartbeats 4000000 in
theorem fo_SX10_ballBound_19 {P : Nat → Nat → Prop} {t : St} (x0 : Nat) (w2 : Int32) (c : Int32 × Int32 × Int32) : Fo P t (SX10_ballBound_19 x0 w2 c t) := by
  unfold SX10_ballBound_19
  repeat' first
    | with_reducible exact Fo.ret
    | with_reducible exact Fo.no
    | with_reducible exact fo_FX10_grown _ _
    | with_reducible exact fo_FJ6_bitCount_0f7a4 _
    | with_reducible refine Fo.bd ?_ (fun _ _ => ?_)
    | with_reducible refine Fo.ck (fun _ => ?_)
    | with_reducible refine Fo.ite ?_ ?_
    | with_reducible refine Fo.rd (fun _ => ?_)
    | with_reducible refine Fo.oe ?_ (fun _ => ?_)
    | with_reducible refine Fo.se (fun _ => ?_) (fun _ => ?_)
set_option maxHeartbeats 4000000 in
theorem fo_SX10_ballBound_4 {P : Nat → Nat → Prop} {t : St} (x0 : Nat) (c : Int32 × Int32) : Fo P t (SX10_ballBound_4 x0 c t) := by
  unfold SX10_ballBound_4
  repeat' first
    | with_reducible exact Fo.ret
    | with_reducible exact Fo.no
    | with_reducible refine Fo.wh (fun cc ss => fo_SX10_ballBound_19 _ _ cc)
    | with_reducible refine Fo.bd ?_ (fun _ _ => ?_)
    | with_reducible refine Fo.ck (fun _ => ?_)
    | with_reducible refine Fo.ite ?_ ?_
    | with_reducible refine Fo.rd (fun _ => ?_)
    | with_reducible refine Fo.oe ?_ (fun _ => ?_)
    | with_reducible refine Fo.se (fun _ => ?_) (fun _ => ?_)
set_option maxHeartbeats 4000000 in
theorem fo_FX10_ballBound {P : Nat → Nat → Prop} {t : St} (x : Nat) : Fo P t (FX10_ballBound x t) := by
  unfold FX10_ballBound
  repeat' first
    | with_reducible exact Fo.ret
    | with_reducible exact Fo.no
    | with_reducible refine Fo.wh (fun cc ss => fo_SX10_ballBound_4 _ cc)
    | with_reducible refine Fo.bd ?_ (fun _ _ => ?_)
    | with_reducible refine Fo.ck (fun _ => ?_)
    | with_reducible refine Fo.ite ?_ ?_
    | with_reducible refine Fo.rd (fun _ => ?_)
    | with_reducible refine Fo.oe ?_ (fun _ => ?_)
    | with_reducible refine Fo.se (fun _ => ?_) (fun _ => ?_)
set_option maxHeartbeats 4000000 in
theorem fo_SX10_fewestLines_9 {P : Nat → Nat → Prop} {t : St} (x0 : Nat) (w1 : Int32) (w2 : Int32) (c : Int32 × Int32 × Int32) : Fo P t (SX10_fewestLines_9 x0 w1 w2 c t) := by
  unfold SX10_fewestLines_9
  repeat' first
    | with_reducible exact Fo.ret
    | with_reducible exact Fo.no
    | with_reducible exact fo_FJ6_bitCount_0f7a4 _
    | with_reducible refine Fo.bd ?_ (fun _ _ => ?_)
    | with_reducible refine Fo.ck (fun _ => ?_)
    | with_reducible refine Fo.ite ?_ ?_
    | with_reducible refine Fo.rd (fun _ => ?_)
    | with_reducible refine Fo.oe ?_ (fun _ => ?_)
    | with_reducible refine Fo.se (fun _ => ?_) (fun _ => ?_)
set_option maxHeartbeats 4000000 in
theorem fo_FX10_fewestLines {P : Nat → Nat → Prop} {t : St} (x : Nat) (a : Int32) (b : Int32) : Fo P t (FX10_fewestLines x a b t) := by
  unfold FX10_fewestLines
  repeat' first
    | with_reducible exact Fo.ret
    | with_reducible exact Fo.no
    | with_reducible refine Fo.wh (fun cc ss => fo_SX10_fewestLines_9 _ _ _ cc)
    | with_reducible refine Fo.bd ?_ (fun _ _ => ?_)
    | with_reducible refine Fo.ck (fun _ => ?_)
    | with_reducible refine Fo.ite ?_ ?_
    | with_reducible refine Fo.rd (fun _ => ?_)
    | with_reducible refine Fo.oe ?_ (fun _ => ?_)
    | with_reducible refine Fo.se (fun _ => ?_) (fun _ => ?_)
set_option maxHeartbeats 4000000 in
theorem fo_SX10_core_9 {P : Nat → Nat → Prop} {t : St} (x0 : Nat) (c : Int32 × Int32 × Int32) : Fo P t (SX10_core_9 x0 c t) := by
  unfold SX10_core_9
  repeat' first
    | with_reducible exact Fo.ret
    | with_reducible exact Fo.no
    | with_reducible exact fo_FX10_fewestLines _ _ _
    | with_reducible exact fo_FJ6_bitCount_0f7a4 _
    | with_reducible refine Fo.bd ?_ (fun _ _ => ?_)
    | with_reducible refine Fo.ck (fun _ => ?_)
    | with_reducible refine Fo.ite ?_ ?_
    | with_reducible refine Fo.rd (fun _ => ?_)
    | with_reducible refine Fo.oe ?_ (fun _ => ?_)
    | with_reducible refine Fo.se (fun _ => ?_) (fun _ => ?_)
set_option maxHeartbeats 4000000 in
theorem fo_FX10_core {P : Nat → Nat → Prop} {t : St} (x : Nat) : Fo P t (FX10_core x t) := by
  unfold FX10_core
  repeat' first
    | with_reducible exact Fo.ret
    | with_reducible exact Fo.no
    | with_reducible exact fo_FX5_allBits _
    | with_reducible refine Fo.wh (fun cc ss => fo_SX10_core_9 _ cc)
    | with_reducible refine Fo.bd ?_ (fun _ _ => ?_)
    | with_reducible refine Fo.ck (fun _ => ?_)
    | with_reducible refine Fo.ite ?_ ?_
    | with_reducible refine Fo.rd (fun _ => ?_)
    | with_reducible refine Fo.oe ?_ (fun _ => ?_)
    | with_reducible refine Fo.se (fun _ => ?_) (fun _ => ?_)
set_option maxHeartbeats 4000000 in
theorem fo_SX10_distance_7 {P : Nat → Nat → Prop} {t : St} (x0 : Nat) (w2 : Int32) (c : Int32 × Int32) : Fo P t (SX10_distance_7 x0 w2 c t) := by
  unfold SX10_distance_7
  repeat' first
    | with_reducible exact Fo.ret
    | with_reducible exact Fo.no
    | with_reducible exact fo_FX10_grown _ _
    | with_reducible refine Fo.bd ?_ (fun _ _ => ?_)
    | with_reducible refine Fo.ck (fun _ => ?_)
    | with_reducible refine Fo.ite ?_ ?_
    | with_reducible refine Fo.rd (fun _ => ?_)
    | with_reducible refine Fo.oe ?_ (fun _ => ?_)
    | with_reducible refine Fo.se (fun _ => ?_) (fun _ => ?_)
set_option maxHeartbeats 4000000 in
theorem fo_FX10_distance {P : Nat → Nat → Prop} {t : St} (x : Nat) (a : Int32) (b : Int32) : Fo P t (FX10_distance x a b t) := by
  unfold FX10_distance
  repeat' first
    | with_reducible exact Fo.ret
    | with_reducible exact Fo.no
    | with_reducible refine Fo.wh (fun cc ss => fo_SX10_distance_7 _ _ cc)
    | with_reducible refine Fo.bd ?_ (fun _ _ => ?_)
    | with_reducible refine Fo.ck (fun _ => ?_)
    | with_reducible refine Fo.ite ?_ ?_
    | with_reducible refine Fo.rd (fun _ => ?_)
    | with_reducible refine Fo.oe ?_ (fun _ => ?_)
    | with_reducible refine Fo.se (fun _ => ?_) (fun _ => ?_)
set_option maxHeartbeats 4000000 in
theorem fo_SX10_diameter_14 {P : Nat → Nat → Prop} {t : St} (x0 : Nat) (w2 : Int32) (c : Int32 × Int32) : Fo P t (SX10_diameter_14 x0 w2 c t) := by
  unfold SX10_diameter_14
  repeat' first
    | with_reducible exact Fo.ret
    | with_reducible exact Fo.no
    | with_reducible exact fo_FX10_distance _ _ _
    | with_reducible refine Fo.bd ?_ (fun _ _ => ?_)
    | with_reducible refine Fo.ck (fun _ => ?_)
    | with_reducible refine Fo.ite ?_ ?_
    | with_reducible refine Fo.rd (fun _ => ?_)
    | with_reducible refine Fo.oe ?_ (fun _ => ?_)
    | with_reducible refine Fo.se (fun _ => ?_) (fun _ => ?_)
set_option maxHeartbeats 4000000 in
theorem fo_SX10_diameter_4 {P : Nat → Nat → Prop} {t : St} (x0 : Nat) (c : Int32 × Int32) : Fo P t (SX10_diameter_4 x0 c t) := by
  unfold SX10_diameter_4
  repeat' first
    | with_reducible exact Fo.ret
    | with_reducible exact Fo.no
    | with_reducible refine Fo.wh (fun cc ss => fo_SX10_diameter_14 _ _ cc)
    | with_reducible refine Fo.bd ?_ (fun _ _ => ?_)
    | with_reducible refine Fo.ck (fun _ => ?_)
    | with_reducible refine Fo.ite ?_ ?_
    | with_reducible refine Fo.rd (fun _ => ?_)
    | with_reducible refine Fo.oe ?_ (fun _ => ?_)
    | with_reducible refine Fo.se (fun _ => ?_) (fun _ => ?_)
set_option maxHeartbeats 4000000 in
theorem fo_FX10_diameter {P : Nat → Nat → Prop} {t : St} (x : Nat) : Fo P t (FX10_diameter x t) := by
  unfold FX10_diameter
  repeat' first
    | with_reducible exact Fo.ret
    | with_reducible exact Fo.no
    | with_reducible refine Fo.wh (fun cc ss => fo_SX10_diameter_4 _ cc)
    | with_reducible refine Fo.bd ?_ (fun _ _ => ?_)
    | with_reducible refine Fo.ck (fun _ => ?_)
    | with_reducible refine Fo.ite ?_ ?_
    | with_reducible refine Fo.rd (fun _ => ?_)
    | with_reducible refine Fo.oe ?_ (fun _ => ?_)
    | with_reducible refine Fo.se (fun _ => ?_) (fun _ => ?_)
set_option maxHeartbeats 4000000 in
theorem fo_SX10_mostLinesAtPoint_4 {P : Nat → Nat → Prop} {t : St} (x0 : Nat) (c : Int32 × Int32) : Fo P t (SX10_mostLinesAtPoint_4 x0 c t) := by
  unfold SX10_mostLinesAtPoint_4
  repeat' first
    | with_reducible exact Fo.ret
    | with_reducible exact Fo.no
    | with_reducible exact fo_FX5_lineCount _ _
    | with_reducible refine Fo.bd ?_ (fun _ _ => ?_)
    | with_reducible refine Fo.ck (fun _ => ?_)
    | with_reducible refine Fo.ite ?_ ?_
    | with_reducible refine Fo.rd (fun _ => ?_)
    | with_reducible refine Fo.oe ?_ (fun _ => ?_)
    | with_reducible refine Fo.se (fun _ => ?_) (fun _ => ?_)
set_option maxHeartbeats 4000000 in
theorem fo_FX10_mostLinesAtPoint {P : Nat → Nat → Prop} {t : St} (x : Nat) : Fo P t (FX10_mostLinesAtPoint x t) := by
  unfold FX10_mostLinesAtPoint
  repeat' first
    | with_reducible exact Fo.ret
    | with_reducible exact Fo.no
    | with_reducible refine Fo.wh (fun cc ss => fo_SX10_mostLinesAtPoint_4 _ cc)
    | with_reducible refine Fo.bd ?_ (fun _ _ => ?_)
    | with_reducible refine Fo.ck (fun _ => ?_)
    | with_reducible refine Fo.ite ?_ ?_
    | with_reducible refine Fo.rd (fun _ => ?_)
    | with_reducible refine Fo.oe ?_ (fun _ => ?_)
    | with_reducible refine Fo.se (fun _ => ?_) (fun _ => ?_)
set_option maxHeartbeats 4000000 in
theorem fo_SX10_weightAt_4 {P : Nat → Nat → Prop} {t : St} (x0 : Nat) (w1 : Int32) (c : Int32 × Int32) : Fo P t (SX10_weightAt_4 x0 w1 c t) := by
  unfold SX10_weightAt_4
  repeat' first
    | with_reducible exact Fo.ret
    | with_reducible exact Fo.no
    | with_reducible exact fo_FX5_weightOf _ _ _
    | with_reducible refine Fo.bd ?_ (fun _ _ => ?_)
    | with_reducible refine Fo.ck (fun _ => ?_)
    | with_reducible refine Fo.ite ?_ ?_
    | with_reducible refine Fo.rd (fun _ => ?_)
    | with_reducible refine Fo.oe ?_ (fun _ => ?_)
    | with_reducible refine Fo.se (fun _ => ?_) (fun _ => ?_)
set_option maxHeartbeats 4000000 in
theorem fo_FX10_weightAt {P : Nat → Nat → Prop} {t : St} (x : Nat) (a : Int32) : Fo P t (FX10_weightAt x a t) := by
  unfold FX10_weightAt
  repeat' first
    | with_reducible exact Fo.ret
    | with_reducible exact Fo.no
    | with_reducible refine Fo.wh (fun cc ss => fo_SX10_weightAt_4 _ _ cc)
    | with_reducible refine Fo.bd ?_ (fun _ _ => ?_)
    | with_reducible refine Fo.ck (fun _ => ?_)
    | with_reducible refine Fo.ite ?_ ?_
    | with_reducible refine Fo.rd (fun _ => ?_)
    | with_reducible refine Fo.oe ?_ (fun _ => ?_)
    | with_reducible refine Fo.se (fun _ => ?_) (fun _ => ?_)
set_option maxHeartbeats 4000000 in
theorem fo_SX10_mostWeightAtPoint_4 {P : Nat → Nat → Prop} {t : St} (x0 : Nat) (c : Int32 × Int32) : Fo P t (SX10_mostWeightAtPoint_4 x0 c t) := by
  unfold SX10_mostWeightAtPoint_4
  repeat' first
    | with_reducible exact Fo.ret
    | with_reducible exact Fo.no
    | with_reducible exact fo_FX10_weightAt _ _
    | with_reducible refine Fo.bd ?_ (fun _ _ => ?_)
    | with_reducible refine Fo.ck (fun _ => ?_)
    | with_reducible refine Fo.ite ?_ ?_
    | with_reducible refine Fo.rd (fun _ => ?_)
    | with_reducible refine Fo.oe ?_ (fun _ => ?_)
    | with_reducible refine Fo.se (fun _ => ?_) (fun _ => ?_)
set_option maxHeartbeats 4000000 in
theorem fo_FX10_mostWeightAtPoint {P : Nat → Nat → Prop} {t : St} (x : Nat) : Fo P t (FX10_mostWeightAtPoint x t) := by
  unfold FX10_mostWeightAtPoint
  repeat' first
    | with_reducible exact Fo.ret
    | with_reducible exact Fo.no
    | with_reducible refine Fo.wh (fun cc ss => fo_SX10_mostWeightAtPoint_4 _ cc)
    | with_reducible refine Fo.bd ?_ (fun _ _ => ?_)
    | with_reducible refine Fo.ck (fun _ => ?_)
    | with_reducible refine Fo.ite ?_ ?_
    | with_reducible refine Fo.rd (fun _ => ?_)
    | with_reducible refine Fo.oe ?_ (fun _ => ?_)
    | with_reducible refine Fo.se (fun _ => ?_) (fun _ => ?_)
set_option maxHeartbeats 4000000 in
theorem fo_FX10_lineBound {P : Nat → Nat → Prop} {t : St} (x : Nat) (a : Int32) : Fo P t (FX10_lineBound x a t) := by
  unfold FX10_lineBound
  repeat' first
    | with_reducible exact Fo.ret
    | with_reducible exact Fo.no
    | with_reducible exact fo_FX10_mostWeightAtPoint _
    | with_reducible exact fo_FX10_mostLinesAtPoint _
    | with_reducible exact fo_FX10_core _
    | with_reducible refine Fo.bd ?_ (fun _ _ => ?_)
    | with_reducible refine Fo.ck (fun _ => ?_)
    | with_reducible refine Fo.ite ?_ ?_
    | with_reducible refine Fo.rd (fun _ => ?_)
    | with_reducible refine Fo.oe ?_ (fun _ => ?_)
    | with_reducible refine Fo.se (fun _ => ?_) (fun _ => ?_)
set_option maxHeartbeats 4000000 in
theorem fo_SX10_partOf_6 {P : Nat → Nat → Prop} {t : St} (x0 : Nat) (c : Int32 × Int32) : Fo P t (SX10_partOf_6 x0 c t) := by
  unfold SX10_partOf_6
  repeat' first
    | with_reducible exact Fo.ret
    | with_reducible exact Fo.no
    | with_reducible exact fo_FX10_grown _ _
    | with_reducible refine Fo.bd ?_ (fun _ _ => ?_)
    | with_reducible refine Fo.ck (fun _ => ?_)
    | with_reducible refine Fo.ite ?_ ?_
    | with_reducible refine Fo.rd (fun _ => ?_)
    | with_reducible refine Fo.oe ?_ (fun _ => ?_)
    | with_reducible refine Fo.se (fun _ => ?_) (fun _ => ?_)
set_option maxHeartbeats 4000000 in
theorem fo_FX10_partOf {P : Nat → Nat → Prop} {t : St} (x : Nat) (a : Int32) : Fo P t (FX10_partOf x a t) := by
  unfold FX10_partOf
  repeat' first
    | with_reducible exact Fo.ret
    | with_reducible exact Fo.no
    | with_reducible refine Fo.wh (fun cc ss => fo_SX10_partOf_6 _ cc)
    | with_reducible refine Fo.bd ?_ (fun _ _ => ?_)
    | with_reducible refine Fo.ck (fun _ => ?_)
    | with_reducible refine Fo.ite ?_ ?_
    | with_reducible refine Fo.rd (fun _ => ?_)
    | with_reducible refine Fo.oe ?_ (fun _ => ?_)
    | with_reducible refine Fo.se (fun _ => ?_) (fun _ => ?_)
set_option maxHeartbeats 4000000 in
theorem fo_SX10_partCount_6 {P : Nat → Nat → Prop} {t : St} (x0 : Nat) (c : Int32 × Int32 × Int32) : Fo P t (SX10_partCount_6 x0 c t) := by
  unfold SX10_partCount_6
  repeat' first
    | with_reducible exact Fo.ret
    | with_reducible exact Fo.no
    | with_reducible exact fo_FX10_partOf _ _
    | with_reducible refine Fo.bd ?_ (fun _ _ => ?_)
    | with_reducible refine Fo.ck (fun _ => ?_)
    | with_reducible refine Fo.ite ?_ ?_
    | with_reducible refine Fo.rd (fun _ => ?_)
    | with_reducible refine Fo.oe ?_ (fun _ => ?_)
    | with_reducible refine Fo.se (fun _ => ?_) (fun _ => ?_)
set_option maxHeartbeats 4000000 in
theorem fo_FX10_partCount {P : Nat → Nat → Prop} {t : St} (x : Nat) : Fo P t (FX10_partCount x t) := by
  unfold FX10_partCount
  repeat' first
    | with_reducible exact Fo.ret
    | with_reducible exact Fo.no
    | with_reducible refine Fo.wh (fun cc ss => fo_SX10_partCount_6 _ cc)
    | with_reducible refine Fo.bd ?_ (fun _ _ => ?_)
    | with_reducible refine Fo.ck (fun _ => ?_)
    | with_reducible refine Fo.ite ?_ ?_
    | with_reducible refine Fo.rd (fun _ => ?_)
    | with_reducible refine Fo.oe ?_ (fun _ => ?_)
    | with_reducible refine Fo.se (fun _ => ?_) (fun _ => ?_)
set_option maxHeartbeats 4000000 in
theorem fo_SX10_shrinkAway_9 {P : Nat → Nat → Prop} {t : St} (x0 : Nat) (w2 : Int32) (c : Int32 × Int32) (hP : ∀ c i, P c i → c ≠ x0 ∧ c ≠ x0 + 1 ∧ c ≠ x0 + 2 ∧ c ≠ x0 + 3) : Fo P t (SX10_shrinkAway_9 x0 w2 c t) := by
  unfold SX10_shrinkAway_9
  repeat' first
    | with_reducible exact Fo.ret
    | with_reducible exact Fo.no
    | with_reducible exact fo_FX5_allBits _
    | with_reducible exact fo_FX10_fewestLines _ _ _
    | with_reducible exact fo_FX5_lineCount _ _
    | with_reducible exact fo_FX5_takeOut _ _ (fun c i h => by have hh := hP c i h; first | exact hh | (obtain ⟨g0, g1, g2, g3⟩ := hh; and_intros <;> first | assumption | (intro e; exact absurd e (by assumption))) | omega | (have := net_q (by assumption); omega) | (have := net_q (x := el 10 _) (by assumption); omega) | (have := find_q (by assumption); omega) | (have := finds_q (by assumption); omega))
    | with_reducible exact fo_FX5_drawTogether _ _ _ (fun c i h => by have hh := hP c i h; first | exact hh | (obtain ⟨g0, g1, g2, g3⟩ := hh; and_intros <;> first | assumption | (intro e; exact absurd e (by assumption))) | omega | (have := net_q (by assumption); omega) | (have := net_q (x := el 10 _) (by assumption); omega) | (have := find_q (by assumption); omega) | (have := finds_q (by assumption); omega))
    | with_reducible refine Fo.bd ?_ (fun _ _ => ?_)
    | with_reducible refine Fo.ck (fun _ => ?_)
    | with_reducible refine Fo.ite ?_ ?_
    | with_reducible refine Fo.rd (fun _ => ?_)
    | with_reducible refine Fo.wr (fun c i h => by have hh := hP c i h; first | exact hh | (obtain ⟨g0, g1, g2, g3⟩ := hh; and_intros <;> first | assumption | (intro e; exact absurd e (by assumption))) | omega | (have := net_q (by assumption); omega) | (have := net_q (x := el 10 _) (by assumption); omega) | (have := find_q (by assumption); omega) | (have := finds_q (by assumption); omega)) (fun _ => ?_)
    | with_reducible refine Fo.cp (fun c i h => by have hh := hP c i h; first | exact hh | (obtain ⟨g0, g1, g2, g3⟩ := hh; and_intros <;> first | assumption | (intro e; exact absurd e (by assumption))) | omega | (have := net_q (by assumption); omega) | (have := net_q (x := el 10 _) (by assumption); omega)) (fun _ => ?_)
    | with_reducible refine Fo.oe ?_ (fun _ => ?_)
    | with_reducible refine Fo.se (fun _ => ?_) (fun _ => ?_)
set_option maxHeartbeats 4000000 in
theorem fo_FX10_shrinkAway {P : Nat → Nat → Prop} {t : St} (x : Nat) (hP : ∀ c i, P c i → c ≠ x ∧ c ≠ x + 1 ∧ c ≠ x + 2 ∧ c ≠ x + 3) : Fo P t (FX10_shrinkAway x t) := by
  unfold FX10_shrinkAway
  repeat' first
    | with_reducible exact Fo.ret
    | with_reducible exact Fo.no
    | with_reducible refine Fo.wh (fun cc ss => fo_SX10_shrinkAway_9 _ _ cc (fun c i h => by have hh := hP c i h; first | exact hh | (obtain ⟨g0, g1, g2, g3⟩ := hh; and_intros <;> first | assumption | (intro e; exact absurd e (by assumption))) | omega | (have := net_q (by assumption); omega) | (have := net_q (x := el 10 _) (by assumption); omega) | (have := find_q (by assumption); omega) | (have := finds_q (by assumption); omega)))
    | with_reducible refine Fo.bd ?_ (fun _ _ => ?_)
    | with_reducible refine Fo.ck (fun _ => ?_)
    | with_reducible refine Fo.ite ?_ ?_
    | with_reducible refine Fo.rd (fun _ => ?_)
    | with_reducible refine Fo.wr (fun c i h => by have hh := hP c i h; first | exact hh | (obtain ⟨g0, g1, g2, g3⟩ := hh; and_intros <;> first | assumption | (intro e; exact absurd e (by assumption))) | omega | (have := net_q (by assumption); omega) | (have := net_q (x := el 10 _) (by assumption); omega) | (have := find_q (by assumption); omega) | (have := finds_q (by assumption); omega)) (fun _ => ?_)
    | with_reducible refine Fo.cp (fun c i h => by have hh := hP c i h; first | exact hh | (obtain ⟨g0, g1, g2, g3⟩ := hh; and_intros <;> first | assumption | (intro e; exact absurd e (by assumption))) | omega | (have := net_q (by assumption); omega) | (have := net_q (x := el 10 _) (by assumption); omega)) (fun _ => ?_)
    | with_reducible refine Fo.oe ?_ (fun _ => ?_)
    | with_reducible refine Fo.se (fun _ => ?_) (fun _ => ?_)
set_option maxHeartbeats 4000000 in
theorem fo_SX6_cutWeight_43 {P : Nat → Nat → Prop} {t : St} (x0 : Nat) (w1 : Int32) (w3 : Int32) (w4 : Int32) (c : Int32 × Int32) : Fo P t (SX6_cutWeight_43 x0 w1 w3 w4 c t) := by
  unfold SX6_cutWeight_43
  repeat' first
    | with_reducible exact Fo.ret
    | with_reducible exact Fo.no
    | with_reducible exact fo_FX5_weightOf _ _ _
    | with_reducible refine Fo.bd ?_ (fun _ _ => ?_)
    | with_reducible refine Fo.ck (fun _ => ?_)
    | with_reducible refine Fo.ite ?_ ?_
    | with_reducible refine Fo.rd (fun _ => ?_)
    | with_reducible refine Fo.oe ?_ (fun _ => ?_)
    | with_reducible refine Fo.se (fun _ => ?_) (fun _ => ?_)
set_option maxHeartbeats 4000000 in
theorem fo_SX6_cutWeight_4 {P : Nat → Nat → Prop} {t : St} (x0 : Nat) (w1 : Int32) (c : Int32 × Int32) : Fo P t (SX6_cutWeight_4 x0 w1 c t) := by
  unfold SX6_cutWeight_4
  repeat' first
    | with_reducible exact Fo.ret
    | with_reducible exact Fo.no
    | with_reducible refine Fo.wh (fun cc ss => fo_SX6_cutWeight_43 _ _ _ _ cc)
    | with_reducible refine Fo.bd ?_ (fun _ _ => ?_)
    | with_reducible refine Fo.ck (fun _ => ?_)
    | with_reducible refine Fo.ite ?_ ?_
    | with_reducible refine Fo.rd (fun _ => ?_)
    | with_reducible refine Fo.oe ?_ (fun _ => ?_)
    | with_reducible refine Fo.se (fun _ => ?_) (fun _ => ?_)
set_option maxHeartbeats 4000000 in
theorem fo_FX6_cutWeight {P : Nat → Nat → Prop} {t : St} (x : Nat) (a : Int32) : Fo P t (FX6_cutWeight x a t) := by
  unfold FX6_cutWeight
  repeat' first
    | with_reducible exact Fo.ret
    | with_reducible exact Fo.no
    | with_reducible refine Fo.wh (fun cc ss => fo_SX6_cutWeight_4 _ _ cc)
    | with_reducible refine Fo.bd ?_ (fun _ _ => ?_)
    | with_reducible refine Fo.ck (fun _ => ?_)
    | with_reducible refine Fo.ite ?_ ?_
    | with_reducible refine Fo.rd (fun _ => ?_)
    | with_reducible refine Fo.oe ?_ (fun _ => ?_)
    | with_reducible refine Fo.se (fun _ => ?_) (fun _ => ?_)
set_option maxHeartbeats 4000000 in
theorem fo_SX10_thinnestHalf_7 {P : Nat → Nat → Prop} {t : St} (x0 : Nat) (c : Int32 × Int32 × Int32) : Fo P t (SX10_thinnestHalf_7 x0 c t) := by
  unfold SX10_thinnestHalf_7
  repeat' first
    | with_reducible exact Fo.ret
    | with_reducible exact Fo.no
    | with_reducible exact fo_FX5_allBits _
    | with_reducible exact fo_FJ6_bitCount_0f7a4 _
    | with_reducible exact fo_FX6_cutWeight _ _
    | with_reducible refine Fo.bd ?_ (fun _ _ => ?_)
    | with_reducible refine Fo.ck (fun _ => ?_)
    | with_reducible refine Fo.ite ?_ ?_
    | with_reducible refine Fo.rd (fun _ => ?_)
    | with_reducible refine Fo.oe ?_ (fun _ => ?_)
    | with_reducible refine Fo.se (fun _ => ?_) (fun _ => ?_)
set_option maxHeartbeats 4000000 in
theorem fo_FX10_thinnestHalf {P : Nat → Nat → Prop} {t : St} (x : Nat) : Fo P t (FX10_thinnestHalf x t) := by
  unfold FX10_thinnestHalf
  repeat' first
    | with_reducible exact Fo.ret
    | with_reducible exact Fo.no
    | with_reducible refine Fo.wh (fun cc ss => fo_SX10_thinnestHalf_7 _ cc)
    | with_reducible refine Fo.bd ?_ (fun _ _ => ?_)
    | with_reducible refine Fo.ck (fun _ => ?_)
    | with_reducible refine Fo.ite ?_ ?_
    | with_reducible refine Fo.rd (fun _ => ?_)
    | with_reducible refine Fo.oe ?_ (fun _ => ?_)
    | with_reducible refine Fo.se (fun _ => ?_) (fun _ => ?_)
set_option maxHeartbeats 4000000 in
theorem fo_SX10_wholeWeight_4 {P : Nat → Nat → Prop} {t : St} (x0 : Nat) (c : Int32 × Int32) : Fo P t (SX10_wholeWeight_4 x0 c t) := by
  unfold SX10_wholeWeight_4
  repeat' first
    | with_reducible exact Fo.ret
    | with_reducible exact Fo.no
    | with_reducible exact fo_FX10_weightAt _ _
    | with_reducible refine Fo.bd ?_ (fun _ _ => ?_)
    | with_reducible refine Fo.ck (fun _ => ?_)
    | with_reducible refine Fo.ite ?_ ?_
    | with_reducible refine Fo.rd (fun _ => ?_)
    | with_reducible refine Fo.oe ?_ (fun _ => ?_)
    | with_reducible refine Fo.se (fun _ => ?_) (fun _ => ?_)
set_option maxHeartbeats 4000000 in
theorem fo_FX10_wholeWeight {P : Nat → Nat → Prop} {t : St} (x : Nat) : Fo P t (FX10_wholeWeight x t) := by
  unfold FX10_wholeWeight
  repeat' first
    | with_reducible exact Fo.ret
    | with_reducible exact Fo.no
    | with_reducible refine Fo.wh (fun cc ss => fo_SX10_wholeWeight_4 _ cc)
    | with_reducible refine Fo.bd ?_ (fun _ _ => ?_)
    | with_reducible refine Fo.ck (fun _ => ?_)
    | with_reducible refine Fo.ite ?_ ?_
    | with_reducible refine Fo.rd (fun _ => ?_)
    | with_reducible refine Fo.oe ?_ (fun _ => ?_)
    | with_reducible refine Fo.se (fun _ => ?_) (fun _ => ?_)
set_option maxHeartbeats 4000000 in
theorem fo_FX6_aboveOf {P : Nat → Nat → Prop} {t : St} (a : Int32) (b : Int32) : Fo P t (FX6_aboveOf a b t) := by
  unfold FX6_aboveOf
  repeat' first
    | with_reducible exact Fo.ret
    | with_reducible exact Fo.no
    | with_reducible refine Fo.bd ?_ (fun _ _ => ?_)
    | with_reducible refine Fo.ck (fun _ => ?_)
    | with_reducible refine Fo.ite ?_ ?_
    | with_reducible refine Fo.rd (fun _ => ?_)
    | with_reducible refine Fo.oe ?_ (fun _ => ?_)
    | with_reducible refine Fo.se (fun _ => ?_) (fun _ => ?_)
set_option maxHeartbeats 4000000 in
theorem fo_FX6_isTakenOut {P : Nat → Nat → Prop} {t : St} (a : Int32) : Fo P t (FX6_isTakenOut a t) := by
  unfold FX6_isTakenOut
  repeat' first
    | with_reducible exact Fo.ret
    | with_reducible exact Fo.no
    | with_reducible refine Fo.bd ?_ (fun _ _ => ?_)
    | with_reducible refine Fo.ck (fun _ => ?_)
    | with_reducible refine Fo.ite ?_ ?_
    | with_reducible refine Fo.rd (fun _ => ?_)
    | with_reducible refine Fo.oe ?_ (fun _ => ?_)
    | with_reducible refine Fo.se (fun _ => ?_) (fun _ => ?_)
set_option maxHeartbeats 4000000 in
theorem fo_FX6_aheadAtStep {P : Nat → Nat → Prop} {t : St} (a : Int32) (b : Int32) (c : Int32) : Fo P t (FX6_aheadAtStep a b c t) := by
  unfold FX6_aheadAtStep
  repeat' first
    | with_reducible exact Fo.ret
    | with_reducible exact Fo.no
    | with_reducible exact fo_FX6_isTakenOut _
    | with_reducible refine Fo.bd ?_ (fun _ _ => ?_)
    | with_reducible refine Fo.ck (fun _ => ?_)
    | with_reducible refine Fo.ite ?_ ?_
    | with_reducible refine Fo.rd (fun _ => ?_)
    | with_reducible refine Fo.oe ?_ (fun _ => ?_)
    | with_reducible refine Fo.se (fun _ => ?_) (fun _ => ?_)
set_option maxHeartbeats 4000000 in
theorem fo_SX6_withLineInto_5 {P : Nat → Nat → Prop} {t : St} (x0 : Nat) (w1 : Int32) (w2 : Int32) (c : Int32 × Int32) : Fo P t (SX6_withLineInto_5 x0 w1 w2 c t) := by
  unfold SX6_withLineInto_5
  repeat' first
    | with_reducible exact Fo.ret
    | with_reducible exact Fo.no
    | with_reducible refine Fo.bd ?_ (fun _ _ => ?_)
    | with_reducible refine Fo.ck (fun _ => ?_)
    | with_reducible refine Fo.ite ?_ ?_
    | with_reducible refine Fo.rd (fun _ => ?_)
    | with_reducible refine Fo.oe ?_ (fun _ => ?_)
    | with_reducible refine Fo.se (fun _ => ?_) (fun _ => ?_)
set_option maxHeartbeats 4000000 in
theorem fo_FX6_withLineInto {P : Nat → Nat → Prop} {t : St} (x : Nat) (a : Int32) (b : Int32) : Fo P t (FX6_withLineInto x a b t) := by
  unfold FX6_withLineInto
  repeat' first
    | with_reducible exact Fo.ret
    | with_reducible exact Fo.no
    | with_reducible refine Fo.wh (fun cc ss => fo_SX6_withLineInto_5 _ _ _ cc)
    | with_reducible refine Fo.bd ?_ (fun _ _ => ?_)
    | with_reducible refine Fo.ck (fun _ => ?_)
    | with_reducible refine Fo.ite ?_ ?_
    | with_reducible refine Fo.rd (fun _ => ?_)
    | with_reducible refine Fo.oe ?_ (fun _ => ?_)
    | with_reducible refine Fo.se (fun _ => ?_) (fun _ => ?_)
set_option maxHeartbeats 4000000 in
theorem fo_FX6_fringeSize {P : Nat → Nat → Prop} {t : St} (x : Nat) (a : Int32) : Fo P t (FX6_fringeSize x a t) := by
  unfold FX6_fringeSize
  repeat' first
    | with_reducible exact Fo.ret
    | with_reducible exact Fo.no
    | with_reducible exact fo_FX6_withLineInto _ _ _
    | with_reducible exact fo_FJ6_bitCount_0f7a4 _
    | with_reducible refine Fo.bd ?_ (fun _ _ => ?_)
    | with_reducible refine Fo.ck (fun _ => ?_)
    | with_reducible refine Fo.ite ?_ ?_
    | with_reducible refine Fo.rd (fun _ => ?_)
    | with_reducible refine Fo.oe ?_ (fun _ => ?_)
    | with_reducible refine Fo.se (fun _ => ?_) (fun _ => ?_)
set_option maxHeartbeats 4000000 in
theorem fo_FX6_gateSize {P : Nat → Nat → Prop} {t : St} (x : Nat) (a : Int32) : Fo P t (FX6_gateSize x a t) := by
  unfold FX6_gateSize
  repeat' first
    | with_reducible exact Fo.ret
    | with_reducible exact Fo.no
    | with_reducible exact fo_FX6_withLineInto _ _ _
    | with_reducible exact fo_FJ6_bitCount_0f7a4 _
    | with_reducible refine Fo.bd ?_ (fun _ _ => ?_)
    | with_reducible refine Fo.ck (fun _ => ?_)
    | with_reducible refine Fo.ite ?_ ?_
    | with_reducible refine Fo.rd (fun _ => ?_)
    | with_reducible refine Fo.oe ?_ (fun _ => ?_)
    | with_reducible refine Fo.se (fun _ => ?_) (fun _ => ?_)
set_option maxHeartbeats 4000000 in
theorem fo_SX6_neighbours_50 {P : Nat → Nat → Prop} {t : St} (x0 : Nat) (w1 : Int32) (w2 : Int32) (w4 : Int32) (w5 : Int32) (w6 : Int32) (c : Int32 × Int32) : Fo P t (SX6_neighbours_50 x0 w1 w2 w4 w5 w6 c t) := by
  unfold SX6_neighbours_50
  repeat' first
    | with_reducible exact Fo.ret
    | with_reducible exact Fo.no
    | with_reducible refine Fo.bd ?_ (fun _ _ => ?_)
    | with_reducible refine Fo.ck (fun _ => ?_)
    | with_reducible refine Fo.ite ?_ ?_
    | with_reducible refine Fo.rd (fun _ => ?_)
    | with_reducible refine Fo.oe ?_ (fun _ => ?_)
    | with_reducible refine Fo.se (fun _ => ?_) (fun _ => ?_)
set_option maxHeartbeats 4000000 in
theorem fo_SX6_neighbours_13 {P : Nat → Nat → Prop} {t : St} (x0 : Nat) (w1 : Int32) (w2 : Int32) (c : Int32 × Int32 × Int32) : Fo P t (SX6_neighbours_13 x0 w1 w2 c t) := by
  unfold SX6_neighbours_13
  repeat' first
    | with_reducible exact Fo.ret
    | with_reducible exact Fo.no
    | with_reducible refine Fo.wh (fun cc ss => fo_SX6_neighbours_50 _ _ _ _ _ _ cc)
    | with_reducible refine Fo.bd ?_ (fun _ _ => ?_)
    | with_reducible refine Fo.ck (fun _ => ?_)
    | with_reducible refine Fo.ite ?_ ?_
    | with_reducible refine Fo.rd (fun _ => ?_)
    | with_reducible refine Fo.oe ?_ (fun _ => ?_)
    | with_reducible refine Fo.se (fun _ => ?_) (fun _ => ?_)
set_option maxHeartbeats 4000000 in
theorem fo_FX6_neighbours {P : Nat → Nat → Prop} {t : St} (x : Nat) (a : Int32) (b : Int32) : Fo P t (FX6_neighbours x a b t) := by
  unfold FX6_neighbours
  repeat' first
    | with_reducible exact Fo.ret
    | with_reducible exact Fo.no
    | with_reducible refine Fo.wh (fun cc ss => fo_SX6_neighbours_13 _ _ _ cc)
    | with_reducible refine Fo.bd ?_ (fun _ _ => ?_)
    | with_reducible refine Fo.ck (fun _ => ?_)
    | with_reducible refine Fo.ite ?_ ?_
    | with_reducible refine Fo.rd (fun _ => ?_)
    | with_reducible refine Fo.oe ?_ (fun _ => ?_)
    | with_reducible refine Fo.se (fun _ => ?_) (fun _ => ?_)
set_option maxHeartbeats 4000000 in
theorem fo_SX6_newLines_13 {P : Nat → Nat → Prop} {t : St} (x0 : Nat) (w1 : Int32) (w3 : Int32) (c : Int32 × Int32) : Fo P t (SX6_newLines_13 x0 w1 w3 c t) := by
  unfold SX6_newLines_13
  repeat' first
    | with_reducible exact Fo.ret
    | with_reducible exact Fo.no
    | with_reducible exact fo_FX6_aboveOf _ _
    | with_reducible exact fo_FX6_neighbours _ _ _
    | with_reducible exact fo_FJ6_bitCount_0f7a4 _
    | with_reducible refine Fo.bd ?_ (fun _ _ => ?_)
    | with_reducible refine Fo.ck (fun _ => ?_)
    | with_reducible refine Fo.ite ?_ ?_
    | with_reducible refine Fo.rd (fun _ => ?_)
    | with_reducible refine Fo.oe ?_ (fun _ => ?_)
    | with_reducible refine Fo.se (fun _ => ?_) (fun _ => ?_)
set_option maxHeartbeats 4000000 in
theorem fo_FX6_newLines {P : Nat → Nat → Prop} {t : St} (x : Nat) (a : Int32) (b : Int32) : Fo P t (FX6_newLines x a b t) := by
  unfold FX6_newLines
  repeat' first
    | with_reducible exact Fo.ret
    | with_reducible exact Fo.no
    | with_reducible exact fo_FX6_neighbours _ _ _
    | with_reducible refine Fo.wh (fun cc ss => fo_SX6_newLines_13 _ _ _ cc)
    | with_reducible refine Fo.bd ?_ (fun _ _ => ?_)
    | with_reducible refine Fo.ck (fun _ => ?_)
    | with_reducible refine Fo.ite ?_ ?_
    | with_reducible refine Fo.rd (fun _ => ?_)
    | with_reducible refine Fo.oe ?_ (fun _ => ?_)
    | with_reducible refine Fo.se (fun _ => ?_) (fun _ => ?_)
set_option maxHeartbeats 4000000 in
theorem fo_FX6_of {P : Nat → Nat → Prop} {t : St} (x : Nat) (a : Int32) (b : Int32) (c : Int32) : Fo P t (FX6_of x a b c t) := by
  unfold FX6_of
  repeat' first
    | with_reducible exact Fo.ret
    | with_reducible exact Fo.no
    | with_reducible exact fo_FX6_gateSize _ _
    | with_reducible exact fo_FX6_fringeSize _ _
    | with_reducible exact fo_FX6_neighbours _ _ _
    | with_reducible exact fo_FJ6_bitCount_0f7a4 _
    | with_reducible exact fo_FX6_newLines _ _ _
    | with_reducible exact fo_FX6_cutWeight _ _
    | with_reducible refine Fo.bd ?_ (fun _ _ => ?_)
    | with_reducible refine Fo.ck (fun _ => ?_)
    | with_reducible refine Fo.ite ?_ ?_
    | with_reducible refine Fo.rd (fun _ => ?_)
    | with_reducible refine Fo.oe ?_ (fun _ => ?_)
    | with_reducible refine Fo.se (fun _ => ?_) (fun _ => ?_)
set_option maxHeartbeats 4000000 in
theorem fo_FX6_atPlace {P : Nat → Nat → Prop} {t : St} (x : Nat) (a : Int32) (b : Int32) : Fo P t (FX6_atPlace x a b t) := by
  unfold FX6_atPlace
  repeat' first
    | with_reducible exact Fo.ret
    | with_reducible exact Fo.no
    | with_reducible exact fo_FX5_aheadOf _ _
    | with_reducible exact fo_FX6_of _ _ _ _
    | with_reducible refine Fo.bd ?_ (fun _ _ => ?_)
    | with_reducible refine Fo.ck (fun _ => ?_)
    | with_reducible refine Fo.ite ?_ ?_
    | with_reducible refine Fo.rd (fun _ => ?_)
    | with_reducible refine Fo.oe ?_ (fun _ => ?_)
    | with_reducible refine Fo.se (fun _ => ?_) (fun _ => ?_)
set_option maxHeartbeats 4000000 in
theorem fo_FX6_firstStep {P : Nat → Nat → Prop} {t : St} (a : Int32) : Fo P t (FX6_firstStep a t) := by
  unfold FX6_firstStep
  repeat' first
    | with_reducible exact Fo.ret
    | with_reducible exact Fo.no
    | with_reducible exact fo_FX6_isTakenOut _
    | with_reducible refine Fo.bd ?_ (fun _ _ => ?_)
    | with_reducible refine Fo.ck (fun _ => ?_)
    | with_reducible refine Fo.ite ?_ ?_
    | with_reducible refine Fo.rd (fun _ => ?_)
    | with_reducible refine Fo.oe ?_ (fun _ => ?_)
    | with_reducible refine Fo.se (fun _ => ?_) (fun _ => ?_)
set_option maxHeartbeats 4000000 in
theorem fo_FX6_joined {P : Nat → Nat → Prop} {t : St} (a : Int32) (b : Int32) (c : Int32) : Fo P t (FX6_joined a b c t) := by
  unfold FX6_joined
  repeat' first
    | with_reducible exact Fo.ret
    | with_reducible exact Fo.no
    | with_reducible refine Fo.bd ?_ (fun _ _ => ?_)
    | with_reducible refine Fo.ck (fun _ => ?_)
    | with_reducible refine Fo.ite ?_ ?_
    | with_reducible refine Fo.rd (fun _ => ?_)
    | with_reducible refine Fo.oe ?_ (fun _ => ?_)
    | with_reducible refine Fo.se (fun _ => ?_) (fun _ => ?_)
set_option maxHeartbeats 4000000 in
theorem fo_FX8_bagGoing {P : Nat → Nat → Prop} {t : St} (x : Nat) (a : Int32) : Fo P t (FX8_bagGoing x a t) := by
  unfold FX8_bagGoing
  repeat' first
    | with_reducible exact Fo.ret
    | with_reducible exact Fo.no
    | with_reducible exact fo_FX5_aheadOf _ _
    | with_reducible exact fo_FX6_withLineInto _ _ _
    | with_reducible refine Fo.bd ?_ (fun _ _ => ?_)
    | with_reducible refine Fo.ck (fun _ => ?_)
    | with_reducible refine Fo.ite ?_ ?_
    | with_reducible refine Fo.rd (fun _ => ?_)
    | with_reducible refine Fo.oe ?_ (fun _ => ?_)
    | with_reducible refine Fo.se (fun _ => ?_) (fun _ => ?_)
set_option maxHeartbeats 4000000 in
theorem fo_FX8_bagTaken {P : Nat → Nat → Prop} {t : St} (x : Nat) (a : Int32) : Fo P t (FX8_bagTaken x a t) := by
  unfold FX8_bagTaken
  repeat' first
    | with_reducible exact Fo.ret
    | with_reducible exact Fo.no
    | with_reducible exact fo_FX5_aheadOf _ _
    | with_reducible exact fo_FX6_neighbours _ _ _
    | with_reducible refine Fo.bd ?_ (fun _ _ => ?_)
    | with_reducible refine Fo.ck (fun _ => ?_)
    | with_reducible refine Fo.ite ?_ ?_
    | with_reducible refine Fo.rd (fun _ => ?_)
    | with_reducible refine Fo.oe ?_ (fun _ => ?_)
    | with_reducible refine Fo.se (fun _ => ?_) (fun _ => ?_)
set_option maxHeartbeats 4000000 in
theorem fo_SX8_bitAt_4 {P : Nat → Nat → Prop} {t : St} (w0 : Int32) (w1 : Int32) (c : Int32 × Int32) : Fo P t (SX8_bitAt_4 w0 w1 c t) := by
  unfold SX8_bitAt_4
  repeat' first
    | with_reducible exact Fo.ret
    | with_reducible exact Fo.no
    | with_reducible refine Fo.bd ?_ (fun _ _ => ?_)
    | with_reducible refine Fo.ck (fun _ => ?_)
    | with_reducible refine Fo.ite ?_ ?_
    | with_reducible refine Fo.rd (fun _ => ?_)
    | with_reducible refine Fo.oe ?_ (fun _ => ?_)
    | with_reducible refine Fo.se (fun _ => ?_) (fun _ => ?_)
set_option maxHeartbeats 4000000 in
theorem fo_FX8_bitAt {P : Nat → Nat → Prop} {t : St} (a : Int32) (b : Int32) : Fo P t (FX8_bitAt a b t) := by
  unfold FX8_bitAt
  repeat' first
    | with_reducible exact Fo.ret
    | with_reducible exact Fo.no
    | with_reducible refine Fo.wh (fun cc ss => fo_SX8_bitAt_4 _ _ cc)
    | with_reducible refine Fo.bd ?_ (fun _ _ => ?_)
    | with_reducible refine Fo.ck (fun _ => ?_)
    | with_reducible refine Fo.ite ?_ ?_
    | with_reducible refine Fo.rd (fun _ => ?_)
    | with_reducible refine Fo.oe ?_ (fun _ => ?_)
    | with_reducible refine Fo.se (fun _ => ?_) (fun _ => ?_)
set_option maxHeartbeats 4000000 in
theorem fo_SX8_widestBand_16 {P : Nat → Nat → Prop} {t : St} (x0 : Nat) (w2 : Int32) (c : Int32 × Int32) : Fo P t (SX8_widestBand_16 x0 w2 c t) := by
  unfold SX8_widestBand_16
  repeat' first
    | with_reducible exact Fo.ret
    | with_reducible exact Fo.no
    | with_reducible exact fo_FX5_weightOf _ _ _
    | with_reducible refine Fo.bd ?_ (fun _ _ => ?_)
    | with_reducible refine Fo.ck (fun _ => ?_)
    | with_reducible refine Fo.ite ?_ ?_
    | with_reducible refine Fo.rd (fun _ => ?_)
    | with_reducible refine Fo.oe ?_ (fun _ => ?_)
    | with_reducible refine Fo.se (fun _ => ?_) (fun _ => ?_)
set_option maxHeartbeats 4000000 in
theorem fo_SX8_widestBand_4 {P : Nat → Nat → Prop} {t : St} (x0 : Nat) (c : Int32 × Int32) : Fo P t (SX8_widestBand_4 x0 c t) := by
  unfold SX8_widestBand_4
  repeat' first
    | with_reducible exact Fo.ret
    | with_reducible exact Fo.no
    | with_reducible refine Fo.wh (fun cc ss => fo_SX8_widestBand_16 _ _ cc)
    | with_reducible refine Fo.bd ?_ (fun _ _ => ?_)
    | with_reducible refine Fo.ck (fun _ => ?_)
    | with_reducible refine Fo.ite ?_ ?_
    | with_reducible refine Fo.rd (fun _ => ?_)
    | with_reducible refine Fo.oe ?_ (fun _ => ?_)
    | with_reducible refine Fo.se (fun _ => ?_) (fun _ => ?_)
set_option maxHeartbeats 4000000 in
theorem fo_FX8_widestBand {P : Nat → Nat → Prop} {t : St} (x : Nat) : Fo P t (FX8_widestBand x t) := by
  unfold FX8_widestBand
  repeat' first
    | with_reducible exact Fo.ret
    | with_reducible exact Fo.no
    | with_reducible refine Fo.wh (fun cc ss => fo_SX8_widestBand_4 _ cc)
    | with_reducible refine Fo.bd ?_ (fun _ _ => ?_)
    | with_reducible refine Fo.ck (fun _ => ?_)
    | with_reducible refine Fo.ite ?_ ?_
    | with_reducible refine Fo.rd (fun _ => ?_)
    | with_reducible refine Fo.oe ?_ (fun _ => ?_)
    | with_reducible refine Fo.se (fun _ => ?_) (fun _ => ?_)
set_option maxHeartbeats 4000000 in
theorem fo_SX8_measured_17 {P : Nat → Nat → Prop} {t : St} (x0 : Nat) (w1 : Int32) (c : Int32 × Int32 × Int32) : Fo P t (SX8_measured_17 x0 w1 c t) := by
  unfold SX8_measured_17
  repeat' first
    | with_reducible exact Fo.ret
    | with_reducible exact Fo.no
    | with_reducible exact fo_FX6_aheadAtStep _ _ _
    | with_reducible exact fo_FX6_of _ _ _ _
    | with_reducible exact fo_FX6_joined _ _ _
    | with_reducible refine Fo.bd ?_ (fun _ _ => ?_)
    | with_reducible refine Fo.ck (fun _ => ?_)
    | with_reducible refine Fo.ite ?_ ?_
    | with_reducible refine Fo.rd (fun _ => ?_)
    | with_reducible refine Fo.oe ?_ (fun _ => ?_)
    | with_reducible refine Fo.se (fun _ => ?_) (fun _ => ?_)
set_option maxHeartbeats 4000000 in
theorem fo_FX8_measured {P : Nat → Nat → Prop} {t : St} (x : Nat) (a : Int32) : Fo P t (FX8_measured x a t) := by
  unfold FX8_measured
  repeat' first
    | with_reducible exact Fo.ret
    | with_reducible exact Fo.no
    | with_reducible exact fo_FX8_widestBand _
    | with_reducible refine Fo.wh (fun cc ss => fo_SX8_measured_17 _ _ cc)
    | with_reducible refine Fo.bd ?_ (fun _ _ => ?_)
    | with_reducible refine Fo.ck (fun _ => ?_)
    | with_reducible refine Fo.ite ?_ ?_
    | with_reducible refine Fo.rd (fun _ => ?_)
    | with_reducible refine Fo.oe ?_ (fun _ => ?_)
    | with_reducible refine Fo.se (fun _ => ?_) (fun _ => ?_)
set_option maxHeartbeats 4000000 in
theorem fo_SX8_changeBestTwo_29 {P : Nat → Nat → Prop} {t : St} (x0 : Nat) (w1 : Int32) (w5 : Int32) (c : Int32 × Int32 × Int32 × Int32) (hP : ∀ c i, P c i → c ≠ x0 + 2) : Fo P t (SX8_changeBestTwo_29 x0 w1 w5 c t) := by
  unfold SX8_changeBestTwo_29
  repeat' first
    | with_reducible exact Fo.ret
    | with_reducible exact Fo.no
    | with_reducible exact fo_FX5_changeOver _ _ _ (fun c i h => by have hh := hP c i h; first | exact hh | (intro e; exact absurd e hh) | omega | (have := net_q (by assumption); omega) | (have := net_q (x := el 10 _) (by assumption); omega) | (have := find_q (by assumption); omega) | (have := finds_q (by assumption); omega))
    | with_reducible exact fo_FX8_measured _ _
    | with_reducible refine Fo.bd ?_ (fun _ _ => ?_)
    | with_reducible refine Fo.ck (fun _ => ?_)
    | with_reducible refine Fo.ite ?_ ?_
    | with_reducible refine Fo.rd (fun _ => ?_)
    | with_reducible refine Fo.wr (fun c i h => by have hh := hP c i h; first | exact hh | (intro e; exact absurd e hh) | omega | (have := net_q (by assumption); omega) | (have := net_q (x := el 10 _) (by assumption); omega) | (have := find_q (by assumption); omega) | (have := finds_q (by assumption); omega)) (fun _ => ?_)
    | with_reducible refine Fo.cp (fun c i h => by have hh := hP c i h; first | exact hh | (intro e; exact absurd e hh) | omega | (have := net_q (by assumption); omega) | (have := net_q (x := el 10 _) (by assumption); omega)) (fun _ => ?_)
    | with_reducible refine Fo.oe ?_ (fun _ => ?_)
    | with_reducible refine Fo.se (fun _ => ?_) (fun _ => ?_)
set_option maxHeartbeats 4000000 in
theorem fo_SX8_changeBestTwo_14 {P : Nat → Nat → Prop} {t : St} (x0 : Nat) (w1 : Int32) (c : Int32 × Int32 × Int32 × Int32) (hP : ∀ c i, P c i → c ≠ x0 + 2) : Fo P t (SX8_changeBestTwo_14 x0 w1 c t) := by
  unfold SX8_changeBestTwo_14
  repeat' first
    | with_reducible exact Fo.ret
    | with_reducible exact Fo.no
    | with_reducible refine Fo.wh (fun cc ss => fo_SX8_changeBestTwo_29 _ _ _ cc (fun c i h => by have hh := hP c i h; first | exact hh | (intro e; exact absurd e hh) | omega | (have := net_q (by assumption); omega) | (have := net_q (x := el 10 _) (by assumption); omega) | (have := find_q (by assumption); omega) | (have := finds_q (by assumption); omega)))
    | with_reducible refine Fo.bd ?_ (fun _ _ => ?_)
    | with_reducible refine Fo.ck (fun _ => ?_)
    | with_reducible refine Fo.ite ?_ ?_
    | with_reducible refine Fo.rd (fun _ => ?_)
    | with_reducible refine Fo.wr (fun c i h => by have hh := hP c i h; first | exact hh | (intro e; exact absurd e hh) | omega | (have := net_q (by assumption); omega) | (have := net_q (x := el 10 _) (by assumption); omega) | (have := find_q (by assumption); omega) | (have := finds_q (by assumption); omega)) (fun _ => ?_)
    | with_reducible refine Fo.cp (fun c i h => by have hh := hP c i h; first | exact hh | (intro e; exact absurd e hh) | omega | (have := net_q (by assumption); omega) | (have := net_q (x := el 10 _) (by assumption); omega)) (fun _ => ?_)
    | with_reducible refine Fo.oe ?_ (fun _ => ?_)
    | with_reducible refine Fo.se (fun _ => ?_) (fun _ => ?_)
set_option maxHeartbeats 4000000 in
theorem fo_FX8_changeBestTwo {P : Nat → Nat → Prop} {t : St} (x : Nat) (a : Int32) (hP : ∀ c i, P c i → c ≠ x + 2) : Fo P t (FX8_changeBestTwo x a t) := by
  unfold FX8_changeBestTwo
  repeat' first
    | with_reducible exact Fo.ret
    | with_reducible exact Fo.no
    | with_reducible exact fo_FX8_measured _ _
    | with_reducible refine Fo.wh (fun cc ss => fo_SX8_changeBestTwo_14 _ _ cc (fun c i h => by have hh := hP c i h; first | exact hh | (intro e; exact absurd e hh) | omega | (have := net_q (by assumption); omega) | (have := net_q (x := el 10 _) (by assumption); omega) | (have := find_q (by assumption); omega) | (have := finds_q (by assumption); omega)))
    | with_reducible exact fo_FX5_changeOver _ _ _ (fun c i h => by have hh := hP c i h; first | exact hh | (intro e; exact absurd e hh) | omega | (have := net_q (by assumption); omega) | (have := net_q (x := el 10 _) (by assumption); omega) | (have := find_q (by assumption); omega) | (have := finds_q (by assumption); omega))
    | with_reducible refine Fo.bd ?_ (fun _ _ => ?_)
    | with_reducible refine Fo.ck (fun _ => ?_)
    | with_reducible refine Fo.ite ?_ ?_
    | with_reducible refine Fo.rd (fun _ => ?_)
    | with_reducible refine Fo.wr (fun c i h => by have hh := hP c i h; first | exact hh | (intro e; exact absurd e hh) | omega | (have := net_q (by assumption); omega) | (have := net_q (x := el 10 _) (by assumption); omega) | (have := find_q (by assumption); omega) | (have := finds_q (by assumption); omega)) (fun _ => ?_)
    | with_reducible refine Fo.cp (fun c i h => by have hh := hP c i h; first | exact hh | (intro e; exact absurd e hh) | omega | (have := net_q (by assumption); omega) | (have := net_q (x := el 10 _) (by assumption); omega)) (fun _ => ?_)
    | with_reducible refine Fo.oe ?_ (fun _ => ?_)
    | with_reducible refine Fo.se (fun _ => ?_) (fun _ => ?_)
set_option maxHeartbeats 4000000 in
theorem fo_SX8_longestLine_19 {P : Nat → Nat → Prop} {t : St} (x0 : Nat) (w3 : Int32) (c : Int32 × Int32 × Int32) : Fo P t (SX8_longestLine_19 x0 w3 c t) := by
  unfold SX8_longestLine_19
  repeat' first
    | with_reducible exact Fo.ret
    | with_reducible exact Fo.no
    | with_reducible exact fo_FX5_placeOf _ _
    | with_reducible exact fo_FX5_weightOf _ _ _
    | with_reducible refine Fo.bd ?_ (fun _ _ => ?_)
    | with_reducible refine Fo.ck (fun _ => ?_)
    | with_reducible refine Fo.ite ?_ ?_
    | with_reducible refine Fo.rd (fun _ => ?_)
    | with_reducible refine Fo.oe ?_ (fun _ => ?_)
    | with_reducible refine Fo.se (fun _ => ?_) (fun _ => ?_)
set_option maxHeartbeats 4000000 in
theorem fo_SX8_longestLine_6 {P : Nat → Nat → Prop} {t : St} (x0 : Nat) (c : Int32 × Int32 × Int32) : Fo P t (SX8_longestLine_6 x0 c t) := by
  unfold SX8_longestLine_6
  repeat' first
    | with_reducible exact Fo.ret
    | with_reducible exact Fo.no
    | with_reducible refine Fo.wh (fun cc ss => fo_SX8_longestLine_19 _ _ cc)
    | with_reducible refine Fo.bd ?_ (fun _ _ => ?_)
    | with_reducible refine Fo.ck (fun _ => ?_)
    | with_reducible refine Fo.ite ?_ ?_
    | with_reducible refine Fo.rd (fun _ => ?_)
    | with_reducible refine Fo.oe ?_ (fun _ => ?_)
    | with_reducible refine Fo.se (fun _ => ?_) (fun _ => ?_)
set_option maxHeartbeats 4000000 in
theorem fo_FX8_longestLine {P : Nat → Nat → Prop} {t : St} (x : Nat) : Fo P t (FX8_longestLine x t) := by
  unfold FX8_longestLine
  repeat' first
    | with_reducible exact Fo.ret
    | with_reducible exact Fo.no
    | with_reducible refine Fo.wh (fun cc ss => fo_SX8_longestLine_6 _ cc)
    | with_reducible refine Fo.bd ?_ (fun _ _ => ?_)
    | with_reducible refine Fo.ck (fun _ => ?_)
    | with_reducible refine Fo.ite ?_ ?_
    | with_reducible refine Fo.rd (fun _ => ?_)
    | with_reducible refine Fo.oe ?_ (fun _ => ?_)
    | with_reducible refine Fo.se (fun _ => ?_) (fun _ => ?_)
set_option maxHeartbeats 4000000 in
theorem fo_SX8_makeGreedy_22 {P : Nat → Nat → Prop} {t : St} (x0 : Nat) (w1 : Int32) (w2 : Int32) (w3 : Int32) (c : Int32 × Int32 × Int32) : Fo P t (SX8_makeGreedy_22 x0 w1 w2 w3 c t) := by
  unfold SX8_makeGreedy_22
  repeat' first
    | with_reducible exact Fo.ret
    | with_reducible exact Fo.no
    | with_reducible exact fo_FX6_aheadAtStep _ _ _
    | with_reducible exact fo_FX6_of _ _ _ _
    | with_reducible refine Fo.bd ?_ (fun _ _ => ?_)
    | with_reducible refine Fo.ck (fun _ => ?_)
    | with_reducible refine Fo.ite ?_ ?_
    | with_reducible refine Fo.rd (fun _ => ?_)
    | with_reducible refine Fo.oe ?_ (fun _ => ?_)
    | with_reducible refine Fo.se (fun _ => ?_) (fun _ => ?_)
set_option maxHeartbeats 4000000 in
theorem fo_SX8_makeGreedy_4 {P : Nat → Nat → Prop} {t : St} (x0 : Nat) (w1 : Int32) (c : Int32 × Int32) (hP : ∀ c i, P c i → c ≠ x0 + 2) : Fo P t (SX8_makeGreedy_4 x0 w1 c t) := by
  unfold SX8_makeGreedy_4
  repeat' first
    | with_reducible exact Fo.ret
    | with_reducible exact Fo.no
    | with_reducible refine Fo.wh (fun cc ss => fo_SX8_makeGreedy_22 _ _ _ _ cc)
    | with_reducible refine Fo.bd ?_ (fun _ _ => ?_)
    | with_reducible refine Fo.ck (fun _ => ?_)
    | with_reducible refine Fo.ite ?_ ?_
    | with_reducible refine Fo.rd (fun _ => ?_)
    | with_reducible refine Fo.wr (fun c i h => by have hh := hP c i h; first | exact hh | (intro e; exact absurd e hh) | omega | (have := net_q (by assumption); omega) | (have := net_q (x := el 10 _) (by assumption); omega) | (have := find_q (by assumption); omega) | (have := finds_q (by assumption); omega)) (fun _ => ?_)
    | with_reducible refine Fo.cp (fun c i h => by have hh := hP c i h; first | exact hh | (intro e; exact absurd e hh) | omega | (have := net_q (by assumption); omega) | (have := net_q (x := el 10 _) (by assumption); omega)) (fun _ => ?_)
    | with_reducible refine Fo.oe ?_ (fun _ => ?_)
    | with_reducible refine Fo.se (fun _ => ?_) (fun _ => ?_)
set_option maxHeartbeats 4000000 in
theorem fo_FX8_makeGreedy {P : Nat → Nat → Prop} {t : St} (x : Nat) (a : Int32) (hP : ∀ c i, P c i → c ≠ x + 2) : Fo P t (FX8_makeGreedy x a t) := by
  unfold FX8_makeGreedy
  repeat' first
    | with_reducible exact Fo.ret
    | with_reducible exact Fo.no
    | with_reducible refine Fo.wh (fun cc ss => fo_SX8_makeGreedy_4 _ _ cc (fun c i h => by have hh := hP c i h; first | exact hh | (intro e; exact absurd e hh) | omega | (have := net_q (by assumption); omega) | (have := net_q (x := el 10 _) (by assumption); omega) | (have := find_q (by assumption); omega) | (have := finds_q (by assumption); omega)))
    | with_reducible refine Fo.bd ?_ (fun _ _ => ?_)
    | with_reducible refine Fo.ck (fun _ => ?_)
    | with_reducible refine Fo.ite ?_ ?_
    | with_reducible refine Fo.rd (fun _ => ?_)
    | with_reducible refine Fo.wr (fun c i h => by have hh := hP c i h; first | exact hh | (intro e; exact absurd e hh) | omega | (have := net_q (by assumption); omega) | (have := net_q (x := el 10 _) (by assumption); omega) | (have := find_q (by assumption); omega) | (have := finds_q (by assumption); omega)) (fun _ => ?_)
    | with_reducible refine Fo.cp (fun c i h => by have hh := hP c i h; first | exact hh | (intro e; exact absurd e hh) | omega | (have := net_q (by assumption); omega) | (have := net_q (x := el 10 _) (by assumption); omega)) (fun _ => ?_)
    | with_reducible refine Fo.oe ?_ (fun _ => ?_)
    | with_reducible refine Fo.se (fun _ => ?_) (fun _ => ?_)
set_option maxHeartbeats 4000000 in
theorem fo_SX8_putInRow_5 {P : Nat → Nat → Prop} {t : St} (x0 : Nat) (w2 : Int32) (c : Int32 × Int32) (hP : ∀ c i, P c i → c ≠ x0 + 2) : Fo P t (SX8_putInRow_5 x0 w2 c t) := by
  unfold SX8_putInRow_5
  repeat' first
    | with_reducible exact Fo.ret
    | with_reducible exact Fo.no
    | with_reducible refine Fo.bd ?_ (fun _ _ => ?_)
    | with_reducible refine Fo.ck (fun _ => ?_)
    | with_reducible refine Fo.ite ?_ ?_
    | with_reducible refine Fo.rd (fun _ => ?_)
    | with_reducible refine Fo.wr (fun c i h => by have hh := hP c i h; first | exact hh | (intro e; exact absurd e hh) | omega | (have := net_q (by assumption); omega) | (have := net_q (x := el 10 _) (by assumption); omega) | (have := find_q (by assumption); omega) | (have := finds_q (by assumption); omega)) (fun _ => ?_)
    | with_reducible refine Fo.cp (fun c i h => by have hh := hP c i h; first | exact hh | (intro e; exact absurd e hh) | omega | (have := net_q (by assumption); omega) | (have := net_q (x := el 10 _) (by assumption); omega)) (fun _ => ?_)
    | with_reducible refine Fo.oe ?_ (fun _ => ?_)
    | with_reducible refine Fo.se (fun _ => ?_) (fun _ => ?_)
set_option maxHeartbeats 4000000 in
theorem fo_FX8_putInRow {P : Nat → Nat → Prop} {t : St} (x : Nat) (a : Int32) (b : Int32) (hP : ∀ c i, P c i → c ≠ x + 2) : Fo P t (FX8_putInRow x a b t) := by
  unfold FX8_putInRow
  repeat' first
    | with_reducible exact Fo.ret
    | with_reducible exact Fo.no
    | with_reducible refine Fo.wh (fun cc ss => fo_SX8_putInRow_5 _ _ cc (fun c i h => by have hh := hP c i h; first | exact hh | (intro e; exact absurd e hh) | omega | (have := net_q (by assumption); omega) | (have := net_q (x := el 10 _) (by assumption); omega) | (have := find_q (by assumption); omega) | (have := finds_q (by assumption); omega)))
    | with_reducible refine Fo.bd ?_ (fun _ _ => ?_)
    | with_reducible refine Fo.ck (fun _ => ?_)
    | with_reducible refine Fo.ite ?_ ?_
    | with_reducible refine Fo.rd (fun _ => ?_)
    | with_reducible refine Fo.wr (fun c i h => by have hh := hP c i h; first | exact hh | (intro e; exact absurd e hh) | omega | (have := net_q (by assumption); omega) | (have := net_q (x := el 10 _) (by assumption); omega) | (have := find_q (by assumption); omega) | (have := finds_q (by assumption); omega)) (fun _ => ?_)
    | with_reducible refine Fo.cp (fun c i h => by have hh := hP c i h; first | exact hh | (intro e; exact absurd e hh) | omega | (have := net_q (by assumption); omega) | (have := net_q (x := el 10 _) (by assumption); omega)) (fun _ => ?_)
    | with_reducible refine Fo.oe ?_ (fun _ => ?_)
    | with_reducible refine Fo.se (fun _ => ?_) (fun _ => ?_)
set_option maxHeartbeats 4000000 in
theorem fo_SX8_makeLayers_12 {P : Nat → Nat → Prop} {t : St} (x0 : Nat) (c : Int32 × Int32 × Int32 × Int32) (hP : ∀ c i, P c i → c ≠ x0 + 2) : Fo P t (SX8_makeLayers_12 x0 c t) := by
  unfold SX8_makeLayers_12
  repeat' first
    | with_reducible exact Fo.ret
    | with_reducible exact Fo.no
    | with_reducible exact fo_FX8_putInRow _ _ _ (fun c i h => by have hh := hP c i h; first | exact hh | (intro e; exact absurd e hh) | omega | (have := net_q (by assumption); omega) | (have := net_q (x := el 10 _) (by assumption); omega) | (have := find_q (by assumption); omega) | (have := finds_q (by assumption); omega))
    | with_reducible exact fo_FX10_grown _ _
    | with_reducible refine Fo.bd ?_ (fun _ _ => ?_)
    | with_reducible refine Fo.ck (fun _ => ?_)
    | with_reducible refine Fo.ite ?_ ?_
    | with_reducible refine Fo.rd (fun _ => ?_)
    | with_reducible refine Fo.wr (fun c i h => by have hh := hP c i h; first | exact hh | (intro e; exact absurd e hh) | omega | (have := net_q (by assumption); omega) | (have := net_q (x := el 10 _) (by assumption); omega) | (have := find_q (by assumption); omega) | (have := finds_q (by assumption); omega)) (fun _ => ?_)
    | with_reducible refine Fo.cp (fun c i h => by have hh := hP c i h; first | exact hh | (intro e; exact absurd e hh) | omega | (have := net_q (by assumption); omega) | (have := net_q (x := el 10 _) (by assumption); omega)) (fun _ => ?_)
    | with_reducible refine Fo.oe ?_ (fun _ => ?_)
    | with_reducible refine Fo.se (fun _ => ?_) (fun _ => ?_)
set_option maxHeartbeats 4000000 in
theorem fo_FX8_makeLayers {P : Nat → Nat → Prop} {t : St} (x : Nat) (a : Int32) (hP : ∀ c i, P c i → c ≠ x + 2) : Fo P t (FX8_makeLayers x a t) := by
  unfold FX8_makeLayers
  repeat' first
    | with_reducible exact Fo.ret
    | with_reducible exact Fo.no
    | with_reducible refine Fo.wh (fun cc ss => fo_SX8_makeLayers_12 _ cc (fun c i h => by have hh := hP c i h; first | exact hh | (intro e; exact absurd e hh) | omega | (have := net_q (by assumption); omega) | (have := net_q (x := el 10 _) (by assumption); omega) | (have := find_q (by assumption); omega) | (have := finds_q (by assumption); omega)))
    | with_reducible exact fo_FX5_allBits _
    | with_reducible exact fo_FX8_putInRow _ _ _ (fun c i h => by have hh := hP c i h; first | exact hh | (intro e; exact absurd e hh) | omega | (have := net_q (by assumption); omega) | (have := net_q (x := el 10 _) (by assumption); omega) | (have := find_q (by assumption); omega) | (have := finds_q (by assumption); omega))
    | with_reducible refine Fo.bd ?_ (fun _ _ => ?_)
    | with_reducible refine Fo.ck (fun _ => ?_)
    | with_reducible refine Fo.ite ?_ ?_
    | with_reducible refine Fo.rd (fun _ => ?_)
    | with_reducible refine Fo.wr (fun c i h => by have hh := hP c i h; first | exact hh | (intro e; exact absurd e hh) | omega | (have := net_q (by assumption); omega) | (have := net_q (x := el 10 _) (by assumption); omega) | (have := find_q (by assumption); omega) | (have := finds_q (by assumption); omega)) (fun _ => ?_)
    | with_reducible refine Fo.cp (fun c i h => by have hh := hP c i h; first | exact hh | (intro e; exact absurd e hh) | omega | (have := net_q (by assumption); omega) | (have := net_q (x := el 10 _) (by assumption); omega)) (fun _ => ?_)
    | with_reducible refine Fo.oe ?_ (fun _ => ?_)
    | with_reducible refine Fo.se (fun _ => ?_) (fun _ => ?_)
set_option maxHeartbeats 4000000 in
theorem fo_SX8_newLine_37 {P : Nat → Nat → Prop} {t : St} (x0 : Nat) (w1 : Int32) (w2 : Int32) (w4 : Int32) (w5 : Int32) (w6 : Int32) (c : Int32 × Int32) : Fo P t (SX8_newLine_37 x0 w1 w2 w4 w5 w6 c t) := by
  unfold SX8_newLine_37
  repeat' first
    | with_reducible exact Fo.ret
    | with_reducible exact Fo.no
    | with_reducible exact fo_FX6_aboveOf _ _
    | with_reducible exact fo_FX6_neighbours _ _ _
    | with_reducible exact fo_FJ6_bitCount_0f7a4 _
    | with_reducible exact fo_FX8_bitAt _ _
    | with_reducible refine Fo.bd ?_ (fun _ _ => ?_)
    | with_reducible refine Fo.ck (fun _ => ?_)
    | with_reducible refine Fo.ite ?_ ?_
    | with_reducible refine Fo.rd (fun _ => ?_)
    | with_reducible refine Fo.oe ?_ (fun _ => ?_)
    | with_reducible refine Fo.se (fun _ => ?_) (fun _ => ?_)
set_option maxHeartbeats 4000000 in
theorem fo_SX8_newLine_7 {P : Nat → Nat → Prop} {t : St} (x0 : Nat) (w1 : Int32) (c : Int32 × Int32 × Int32) : Fo P t (SX8_newLine_7 x0 w1 c t) := by
  unfold SX8_newLine_7
  repeat' first
    | with_reducible exact Fo.ret
    | with_reducible exact Fo.no
    | with_reducible exact fo_FX6_neighbours _ _ _
    | with_reducible refine Fo.wh (fun cc ss => fo_SX8_newLine_37 _ _ _ _ _ _ cc)
    | with_reducible refine Fo.bd ?_ (fun _ _ => ?_)
    | with_reducible refine Fo.ck (fun _ => ?_)
    | with_reducible refine Fo.ite ?_ ?_
    | with_reducible refine Fo.rd (fun _ => ?_)
    | with_reducible refine Fo.oe ?_ (fun _ => ?_)
    | with_reducible refine Fo.se (fun _ => ?_) (fun _ => ?_)
set_option maxHeartbeats 4000000 in
theorem fo_FX8_newLine {P : Nat → Nat → Prop} {t : St} (x : Nat) (a : Int32) : Fo P t (FX8_newLine x a t) := by
  unfold FX8_newLine
  repeat' first
    | with_reducible exact Fo.ret
    | with_reducible exact Fo.no
    | with_reducible refine Fo.wh (fun cc ss => fo_SX8_newLine_7 _ _ cc)
    | with_reducible refine Fo.bd ?_ (fun _ _ => ?_)
    | with_reducible refine Fo.ck (fun _ => ?_)
    | with_reducible refine Fo.ite ?_ ?_
    | with_reducible refine Fo.rd (fun _ => ?_)
    | with_reducible refine Fo.oe ?_ (fun _ => ?_)
    | with_reducible refine Fo.se (fun _ => ?_) (fun _ => ?_)
set_option maxHeartbeats 4000000 in
theorem fo_SX8_polishRow_2 {P : Nat → Nat → Prop} {t : St} (x0 : Nat) (w1 : Int32) (c : Int32) (hP : ∀ c i, P c i → c ≠ x0 + 2) : Fo P t (SX8_polishRow_2 x0 w1 c t) := by
  unfold SX8_polishRow_2
  repeat' first
    | with_reducible exact Fo.ret
    | with_reducible exact Fo.no
    | with_reducible exact fo_FX8_changeBestTwo _ _ (fun c i h => by have hh := hP c i h; first | exact hh | (intro e; exact absurd e hh) | omega | (have := net_q (by assumption); omega) | (have := net_q (x := el 10 _) (by assumption); omega) | (have := find_q (by assumption); omega) | (have := finds_q (by assumption); omega))
    | with_reducible refine Fo.bd ?_ (fun _ _ => ?_)
    | with_reducible refine Fo.ck (fun _ => ?_)
    | with_reducible refine Fo.ite ?_ ?_
    | with_reducible refine Fo.rd (fun _ => ?_)
    | with_reducible refine Fo.wr (fun c i h => by have hh := hP c i h; first | exact hh | (intro e; exact absurd e hh) | omega | (have := net_q (by assumption); omega) | (have := net_q (x := el 10 _) (by assumption); omega) | (have := find_q (by assumption); omega) | (have := finds_q (by assumption); omega)) (fun _ => ?_)
    | with_reducible refine Fo.cp (fun c i h => by have hh := hP c i h; first | exact hh | (intro e; exact absurd e hh) | omega | (have := net_q (by assumption); omega) | (have := net_q (x := el 10 _) (by assumption); omega)) (fun _ => ?_)
    | with_reducible refine Fo.oe ?_ (fun _ => ?_)
    | with_reducible refine Fo.se (fun _ => ?_) (fun _ => ?_)
set_option maxHeartbeats 4000000 in
theorem fo_FX8_polishRow {P : Nat → Nat → Prop} {t : St} (x : Nat) (a : Int32) (hP : ∀ c i, P c i → c ≠ x + 2) : Fo P t (FX8_polishRow x a t) := by
  unfold FX8_polishRow
  repeat' first
    | with_reducible exact Fo.ret
    | with_reducible exact Fo.no
    | with_reducible refine Fo.wh (fun cc ss => fo_SX8_polishRow_2 _ _ cc (fun c i h => by have hh := hP c i h; first | exact hh | (intro e; exact absurd e hh) | omega | (have := net_q (by assumption); omega) | (have := net_q (x := el 10 _) (by assumption); omega) | (have := find_q (by assumption); omega) | (have := finds_q (by assumption); omega)))
    | with_reducible refine Fo.bd ?_ (fun _ _ => ?_)
    | with_reducible refine Fo.ck (fun _ => ?_)
    | with_reducible refine Fo.ite ?_ ?_
    | with_reducible refine Fo.rd (fun _ => ?_)
    | with_reducible refine Fo.wr (fun c i h => by have hh := hP c i h; first | exact hh | (intro e; exact absurd e hh) | omega | (have := net_q (by assumption); omega) | (have := net_q (x := el 10 _) (by assumption); omega) | (have := find_q (by assumption); omega) | (have := finds_q (by assumption); omega)) (fun _ => ?_)
    | with_reducible refine Fo.cp (fun c i h => by have hh := hP c i h; first | exact hh | (intro e; exact absurd e hh) | omega | (have := net_q (by assumption); omega) | (have := net_q (x := el 10 _) (by assumption); omega)) (fun _ => ?_)
    | with_reducible refine Fo.oe ?_ (fun _ => ?_)
    | with_reducible refine Fo.se (fun _ => ?_) (fun _ => ?_)
set_option maxHeartbeats 4000000 in
theorem fo_SX8_worstStep_10 {P : Nat → Nat → Prop} {t : St} (x0 : Nat) (w1 : Int32) (c : Int32 × Int32 × Int32) : Fo P t (SX8_worstStep_10 x0 w1 c t) := by
  unfold SX8_worstStep_10
  repeat' first
    | with_reducible exact Fo.ret
    | with_reducible exact Fo.no
    | with_reducible exact fo_FX6_atPlace _ _ _
    | with_reducible refine Fo.bd ?_ (fun _ _ => ?_)
    | with_reducible refine Fo.ck (fun _ => ?_)
    | with_reducible refine Fo.ite ?_ ?_
    | with_reducible refine Fo.rd (fun _ => ?_)
    | with_reducible refine Fo.oe ?_ (fun _ => ?_)
    | with_reducible refine Fo.se (fun _ => ?_) (fun _ => ?_)
set_option maxHeartbeats 4000000 in
theorem fo_FX8_worstStep {P : Nat → Nat → Prop} {t : St} (x : Nat) (a : Int32) : Fo P t (FX8_worstStep x a t) := by
  unfold FX8_worstStep
  repeat' first
    | with_reducible exact Fo.ret
    | with_reducible exact Fo.no
    | with_reducible exact fo_FX6_firstStep _
    | with_reducible refine Fo.wh (fun cc ss => fo_SX8_worstStep_10 _ _ cc)
    | with_reducible refine Fo.bd ?_ (fun _ _ => ?_)
    | with_reducible refine Fo.ck (fun _ => ?_)
    | with_reducible refine Fo.ite ?_ ?_
    | with_reducible refine Fo.rd (fun _ => ?_)
    | with_reducible refine Fo.oe ?_ (fun _ => ?_)
    | with_reducible refine Fo.se (fun _ => ?_) (fun _ => ?_)
set_option maxHeartbeats 4000000 in
theorem fo_SX0_waiting_44 {P : Nat → Nat → Prop} {t : St} (w1 : Int32) (w2 : Int32) (w3 : Int32) (w4 : Int32) (w7 : Int32) (c : Int32 × Int32 × Int32) : Fo P t (SX0_waiting_44 w1 w2 w3 w4 w7 c t) := by
  unfold SX0_waiting_44
  repeat' first
    | with_reducible exact Fo.ret
    | with_reducible exact Fo.no
    | with_reducible exact fo_FJ6_bitCount_0f7a4 _
    | with_reducible refine Fo.bd ?_ (fun _ _ => ?_)
    | with_reducible refine Fo.ck (fun _ => ?_)
    | with_reducible refine Fo.ite ?_ ?_
    | with_reducible refine Fo.rd (fun _ => ?_)
    | with_reducible refine Fo.oe ?_ (fun _ => ?_)
    | with_reducible refine Fo.se (fun _ => ?_) (fun _ => ?_)
set_option maxHeartbeats 4000000 in
theorem fo_FX0_waiting {P : Nat → Nat → Prop} {t : St} (a : Int32) (b : Int32) (c : Int32) : Fo P t (FX0_waiting a b c t) := by
  unfold FX0_waiting
  repeat' first
    | with_reducible exact Fo.ret
    | with_reducible exact Fo.no
    | with_reducible refine Fo.wh (fun cc ss => fo_SX0_waiting_44 _ _ _ _ _ cc)
    | with_reducible refine Fo.bd ?_ (fun _ _ => ?_)
    | with_reducible refine Fo.ck (fun _ => ?_)
    | with_reducible refine Fo.ite ?_ ?_
    | with_reducible refine Fo.rd (fun _ => ?_)
    | with_reducible refine Fo.oe ?_ (fun _ => ?_)
    | with_reducible refine Fo.se (fun _ => ?_) (fun _ => ?_)
set_option maxHeartbeats 4000000 in
theorem fo_SX0_rowsFrom_66 {P : Nat → Nat → Prop} {t : St} (rec : Int32 → Int32 → Int32 → St → Option ((Int32) × St)) (w1 : Int32) (w2 : Int32) (w3 : Int32) (w4 : Int32) (w5 : Int32) (c : Int32 × Int32) (hrec : ∀ q0 q1 q2 s, Fo P s (rec q0 q1 q2 s)) (hP : ∀ c i, P c i → c ≠ 95) : Fo P t (SX0_rowsFrom_66 rec w1 w2 w3 w4 w5 c t) := by
  unfold SX0_rowsFrom_66
  repeat' first
    | with_reducible exact Fo.ret
    | with_reducible exact Fo.no
    | with_reducible exact hrec _ _ _ _
    | with_reducible refine Fo.bd ?_ (fun _ _ => ?_)
    | with_reducible refine Fo.ck (fun _ => ?_)
    | with_reducible refine Fo.ite ?_ ?_
    | with_reducible refine Fo.rd (fun _ => ?_)
    | with_reducible refine Fo.wr (fun c i h => by have hh := hP c i h; first | exact hh | (intro e; exact absurd e hh) | omega | (have := net_q (by assumption); omega) | (have := net_q (x := el 10 _) (by assumption); omega) | (have := find_q (by assumption); omega) | (have := finds_q (by assumption); omega)) (fun _ => ?_)
    | with_reducible refine Fo.cp (fun c i h => by have hh := hP c i h; first | exact hh | (intro e; exact absurd e hh) | omega | (have := net_q (by assumption); omega) | (have := net_q (x := el 10 _) (by assumption); omega)) (fun _ => ?_)
    | with_reducible refine Fo.oe ?_ (fun _ => ?_)
    | with_reducible refine Fo.se (fun _ => ?_) (fun _ => ?_)
set_option maxHeartbeats 4000000 in
theorem fo_FX0_rowsFrom_b {P : Nat → Nat → Prop} {t : St} (rec : Int32 → Int32 → Int32 → St → Option ((Int32) × St)) (a : Int32) (b : Int32) (c : Int32) (hrec : ∀ q0 q1 q2 s, Fo P s (rec q0 q1 q2 s)) (hP : ∀ c i, P c i → c ≠ 95 ∧ c ≠ 96 ∧ c ≠ 97) : Fo P t (FX0_rowsFrom_b rec a b c t) := by
  unfold FX0_rowsFrom_b
  repeat' first
    | with_reducible exact Fo.ret
    | with_reducible exact Fo.no
    | with_reducible exact fo_FX0_waiting _ _ _
    | with_reducible refine Fo.wh (fun cc ss => fo_SX0_rowsFrom_66 _ _ _ _ _ _ cc hrec (fun c i h => by have hh := hP c i h; first | exact hh | (obtain ⟨g0, g1, g2⟩ := hh; and_intros <;> first | assumption | (intro e; exact absurd e (by assumption))) | omega | (have := net_q (by assumption); omega) | (have := net_q (x := el 10 _) (by assumption); omega) | (have := find_q (by assumption); omega) | (have := finds_q (by assumption); omega)))
    | with_reducible exact hrec _ _ _ _
    | with_reducible refine Fo.bd ?_ (fun _ _ => ?_)
    | with_reducible refine Fo.ck (fun _ => ?_)
    | with_reducible refine Fo.ite ?_ ?_
    | with_reducible refine Fo.rd (fun _ => ?_)
    | with_reducible refine Fo.wr (fun c i h => by have hh := hP c i h; first | exact hh | (obtain ⟨g0, g1, g2⟩ := hh; and_intros <;> first | assumption | (intro e; exact absurd e (by assumption))) | omega | (have := net_q (by assumption); omega) | (have := net_q (x := el 10 _) (by assumption); omega) | (have := find_q (by assumption); omega) | (have := finds_q (by assumption); omega)) (fun _ => ?_)
    | with_reducible refine Fo.cp (fun c i h => by have hh := hP c i h; first | exact hh | (obtain ⟨g0, g1, g2⟩ := hh; and_intros <;> first | assumption | (intro e; exact absurd e (by assumption))) | omega | (have := net_q (by assumption); omega) | (have := net_q (x := el 10 _) (by assumption); omega)) (fun _ => ?_)
    | with_reducible refine Fo.oe ?_ (fun _ => ?_)
    | with_reducible refine Fo.se (fun _ => ?_) (fun _ => ?_)
theorem fo_FX0_rowsFrom {P : Nat → Nat → Prop} {t : St} (k : Nat) (q0 q1 q2 : Int32) (hP : ∀ c i, P c i → c ≠ 95 ∧ c ≠ 96 ∧ c ≠ 97) : Fo P t (FX0_rowsFrom k q0 q1 q2 t) := by
  induction k generalizing t q0 q1 q2 with
  | zero => exact Fo.no
  | succ k ih => exact fo_FX0_rowsFrom_b _ _ _ _ (fun q0 q1 q2 s => ih q0 q1 q2) hP
set_option maxHeartbeats 4000000 in
theorem fo_SX0_leadersFrom_6 {P : Nat → Nat → Prop} {t : St} (w1 : Int32) (w2 : Int32) (w3 : Int32) (c : Int32 × Int32) (hP : ∀ c i, P c i → c ≠ 95 ∧ c ≠ 96 ∧ c ≠ 97) : Fo P t (SX0_leadersFrom_6 w1 w2 w3 c t) := by
  unfold SX0_leadersFrom_6
  repeat' first
    | with_reducible exact Fo.ret
    | with_reducible exact Fo.no
    | with_reducible exact fo_FX0_rowsFrom _ _ _ _ (fun c i h => by have hh := hP c i h; first | exact hh | (obtain ⟨g0, g1, g2⟩ := hh; and_intros <;> first | assumption | (intro e; exact absurd e (by assumption))) | omega | (have := net_q (by assumption); omega) | (have := net_q (x := el 10 _) (by assumption); omega) | (have := find_q (by assumption); omega) | (have := finds_q (by assumption); omega))
    | with_reducible refine Fo.bd ?_ (fun _ _ => ?_)
    | with_reducible refine Fo.ck (fun _ => ?_)
    | with_reducible refine Fo.ite ?_ ?_
    | with_reducible refine Fo.rd (fun _ => ?_)
    | with_reducible refine Fo.wr (fun c i h => by have hh := hP c i h; first | exact hh | (obtain ⟨g0, g1, g2⟩ := hh; and_intros <;> first | assumption | (intro e; exact absurd e (by assumption))) | omega | (have := net_q (by assumption); omega) | (have := net_q (x := el 10 _) (by assumption); omega) | (have := find_q (by assumption); omega) | (have := finds_q (by assumption); omega)) (fun _ => ?_)
    | with_reducible refine Fo.cp (fun c i h => by have hh := hP c i h; first | exact hh | (obtain ⟨g0, g1, g2⟩ := hh; and_intros <;> first | assumption | (intro e; exact absurd e (by assumption))) | omega | (have := net_q (by assumption); omega) | (have := net_q (x := el 10 _) (by assumption); omega)) (fun _ => ?_)
    | with_reducible refine Fo.oe ?_ (fun _ => ?_)
    | with_reducible refine Fo.se (fun _ => ?_) (fun _ => ?_)
set_option maxHeartbeats 4000000 in
theorem fo_FX0_leadersFrom {P : Nat → Nat → Prop} {t : St} (a : Int32) (b : Int32) (c : Int32) (hP : ∀ c i, P c i → c ≠ 95 ∧ c ≠ 96 ∧ c ≠ 97) : Fo P t (FX0_leadersFrom a b c t) := by
  unfold FX0_leadersFrom
  repeat' first
    | with_reducible exact Fo.ret
    | with_reducible exact Fo.no
    | with_reducible refine Fo.wh (fun cc ss => fo_SX0_leadersFrom_6 _ _ _ cc (fun c i h => by have hh := hP c i h; first | exact hh | (obtain ⟨g0, g1, g2⟩ := hh; and_intros <;> first | assumption | (intro e; exact absurd e (by assumption))) | omega | (have := net_q (by assumption); omega) | (have := net_q (x := el 10 _) (by assumption); omega) | (have := find_q (by assumption); omega) | (have := finds_q (by assumption); omega)))
    | with_reducible refine Fo.bd ?_ (fun _ _ => ?_)
    | with_reducible refine Fo.ck (fun _ => ?_)
    | with_reducible refine Fo.ite ?_ ?_
    | with_reducible refine Fo.rd (fun _ => ?_)
    | with_reducible refine Fo.wr (fun c i h => by have hh := hP c i h; first | exact hh | (obtain ⟨g0, g1, g2⟩ := hh; and_intros <;> first | assumption | (intro e; exact absurd e (by assumption))) | omega | (have := net_q (by assumption); omega) | (have := net_q (x := el 10 _) (by assumption); omega) | (have := find_q (by assumption); omega) | (have := finds_q (by assumption); omega)) (fun _ => ?_)
    | with_reducible refine Fo.cp (fun c i h => by have hh := hP c i h; first | exact hh | (obtain ⟨g0, g1, g2⟩ := hh; and_intros <;> first | assumption | (intro e; exact absurd e (by assumption))) | omega | (have := net_q (by assumption); omega) | (have := net_q (x := el 10 _) (by assumption); omega)) (fun _ => ?_)
    | with_reducible refine Fo.oe ?_ (fun _ => ?_)
    | with_reducible refine Fo.se (fun _ => ?_) (fun _ => ?_)
set_option maxHeartbeats 4000000 in
theorem fo_SX0_leastLimit_2 {P : Nat → Nat → Prop} {t : St} (c : Int32) (hP : ∀ c i, P c i → c ≠ 95 ∧ c ≠ 96 ∧ c ≠ 97) : Fo P t (SX0_leastLimit_2 c t) := by
  unfold SX0_leastLimit_2
  repeat' first
    | with_reducible exact Fo.ret
    | with_reducible exact Fo.no
    | with_reducible exact fo_FX0_rowsFrom _ _ _ _ (fun c i h => by have hh := hP c i h; first | exact hh | (obtain ⟨g0, g1, g2⟩ := hh; and_intros <;> first | assumption | (intro e; exact absurd e (by assumption))) | omega | (have := net_q (by assumption); omega) | (have := net_q (x := el 10 _) (by assumption); omega) | (have := find_q (by assumption); omega) | (have := finds_q (by assumption); omega))
    | with_reducible refine Fo.bd ?_ (fun _ _ => ?_)
    | with_reducible refine Fo.ck (fun _ => ?_)
    | with_reducible refine Fo.ite ?_ ?_
    | with_reducible refine Fo.rd (fun _ => ?_)
    | with_reducible refine Fo.wr (fun c i h => by have hh := hP c i h; first | exact hh | (obtain ⟨g0, g1, g2⟩ := hh; and_intros <;> first | assumption | (intro e; exact absurd e (by assumption))) | omega | (have := net_q (by assumption); omega) | (have := net_q (x := el 10 _) (by assumption); omega) | (have := find_q (by assumption); omega) | (have := finds_q (by assumption); omega)) (fun _ => ?_)
    | with_reducible refine Fo.cp (fun c i h => by have hh := hP c i h; first | exact hh | (obtain ⟨g0, g1, g2⟩ := hh; and_intros <;> first | assumption | (intro e; exact absurd e (by assumption))) | omega | (have := net_q (by assumption); omega) | (have := net_q (x := el 10 _) (by assumption); omega)) (fun _ => ?_)
    | with_reducible refine Fo.oe ?_ (fun _ => ?_)
    | with_reducible refine Fo.se (fun _ => ?_) (fun _ => ?_)
set_option maxHeartbeats 4000000 in
theorem fo_FX0_leastLimit {P : Nat → Nat → Prop} {t : St} (hP : ∀ c i, P c i → c ≠ 95 ∧ c ≠ 96 ∧ c ≠ 97) : Fo P t (FX0_leastLimit t) := by
  unfold FX0_leastLimit
  repeat' first
    | with_reducible exact Fo.ret
    | with_reducible exact Fo.no
    | with_reducible refine Fo.wh (fun cc ss => fo_SX0_leastLimit_2 cc (fun c i h => by have hh := hP c i h; first | exact hh | (obtain ⟨g0, g1, g2⟩ := hh; and_intros <;> first | assumption | (intro e; exact absurd e (by assumption))) | omega | (have := net_q (by assumption); omega) | (have := net_q (x := el 10 _) (by assumption); omega) | (have := find_q (by assumption); omega) | (have := finds_q (by assumption); omega)))
    | with_reducible refine Fo.bd ?_ (fun _ _ => ?_)
    | with_reducible refine Fo.ck (fun _ => ?_)
    | with_reducible refine Fo.ite ?_ ?_
    | with_reducible refine Fo.rd (fun _ => ?_)
    | with_reducible refine Fo.wr (fun c i h => by have hh := hP c i h; first | exact hh | (obtain ⟨g0, g1, g2⟩ := hh; and_intros <;> first | assumption | (intro e; exact absurd e (by assumption))) | omega | (have := net_q (by assumption); omega) | (have := net_q (x := el 10 _) (by assumption); omega) | (have := find_q (by assumption); omega) | (have := finds_q (by assumption); omega)) (fun _ => ?_)
    | with_reducible refine Fo.cp (fun c i h => by have hh := hP c i h; first | exact hh | (obtain ⟨g0, g1, g2⟩ := hh; and_intros <;> first | assumption | (intro e; exact absurd e (by assumption))) | omega | (have := net_q (by assumption); omega) | (have := net_q (x := el 10 _) (by assumption); omega)) (fun _ => ?_)
    | with_reducible refine Fo.oe ?_ (fun _ => ?_)
    | with_reducible refine Fo.se (fun _ => ?_) (fun _ => ?_)
set_option maxHeartbeats 4000000 in
theorem fo_FX0_turnTo {P : Nat → Nat → Prop} {t : St} (x : Nat) (hP : ∀ c i, P c i → c ≠ 91 ∧ c ≠ 92 ∧ c ≠ 93 ∧ c ≠ 94 ∧ c ≠ 96) : Fo P t (FX0_turnTo x t) := by
  unfold FX0_turnTo
  repeat' first
    | with_reducible exact Fo.ret
    | with_reducible exact Fo.no
    | with_reducible exact fo_FX5_sameLines _ _
    | with_reducible exact fo_FX5_copyFrom _ _ (fun c i h => by have hh := hP c i h; first | exact hh | (obtain ⟨g0, g1, g2, g3, g4⟩ := hh; and_intros <;> first | assumption | (intro e; exact absurd e (by assumption))) | omega | (have := net_q (by assumption); omega) | (have := net_q (x := el 10 _) (by assumption); omega) | (have := find_q (by assumption); omega) | (have := finds_q (by assumption); omega))
    | with_reducible exact fo_FJ7_fill_53178 _ _ (fun c i h => by have hh := hP c i h; first | exact hh | (obtain ⟨g0, g1, g2, g3, g4⟩ := hh; and_intros <;> first | assumption | (intro e; exact absurd e (by assumption))) | omega | (have := net_q (by assumption); omega) | (have := net_q (x := el 10 _) (by assumption); omega) | (have := find_q (by assumption); omega) | (have := finds_q (by assumption); omega))
    | with_reducible refine Fo.bd ?_ (fun _ _ => ?_)
    | with_reducible refine Fo.ck (fun _ => ?_)
    | with_reducible refine Fo.ite ?_ ?_
    | with_reducible refine Fo.rd (fun _ => ?_)
    | with_reducible refine Fo.wr (fun c i h => by have hh := hP c i h; first | exact hh | (obtain ⟨g0, g1, g2, g3, g4⟩ := hh; and_intros <;> first | assumption | (intro e; exact absurd e (by assumption))) | omega | (have := net_q (by assumption); omega) | (have := net_q (x := el 10 _) (by assumption); omega) | (have := find_q (by assumption); omega) | (have := finds_q (by assumption); omega)) (fun _ => ?_)
    | with_reducible refine Fo.cp (fun c i h => by have hh := hP c i h; first | exact hh | (obtain ⟨g0, g1, g2, g3, g4⟩ := hh; and_intros <;> first | assumption | (intro e; exact absurd e (by assumption))) | omega | (have := net_q (by assumption); omega) | (have := net_q (x := el 10 _) (by assumption); omega)) (fun _ => ?_)
    | with_reducible refine Fo.oe ?_ (fun _ => ?_)
    | with_reducible refine Fo.se (fun _ => ?_) (fun _ => ?_)
set_option maxHeartbeats 4000000 in
theorem fo_SX9_lowest_2 {P : Nat → Nat → Prop} {t : St} (w0 : Int32) (c : Int32) : Fo P t (SX9_lowest_2 w0 c t) := by
  unfold SX9_lowest_2
  repeat' first
    | with_reducible exact Fo.ret
    | with_reducible exact Fo.no
    | with_reducible refine Fo.bd ?_ (fun _ _ => ?_)
    | with_reducible refine Fo.ck (fun _ => ?_)
    | with_reducible refine Fo.ite ?_ ?_
    | with_reducible refine Fo.rd (fun _ => ?_)
    | with_reducible refine Fo.oe ?_ (fun _ => ?_)
    | with_reducible refine Fo.se (fun _ => ?_) (fun _ => ?_)
set_option maxHeartbeats 4000000 in
theorem fo_FX9_lowest {P : Nat → Nat → Prop} {t : St} (a : Int32) : Fo P t (FX9_lowest a t) := by
  unfold FX9_lowest
  repeat' first
    | with_reducible exact Fo.ret
    | with_reducible exact Fo.no
    | with_reducible refine Fo.wh (fun cc ss => fo_SX9_lowest_2 _ cc)
    | with_reducible refine Fo.bd ?_ (fun _ _ => ?_)
    | with_reducible refine Fo.ck (fun _ => ?_)
    | with_reducible refine Fo.ite ?_ ?_
    | with_reducible refine Fo.rd (fun _ => ?_)
    | with_reducible refine Fo.oe ?_ (fun _ => ?_)
    | with_reducible refine Fo.se (fun _ => ?_) (fun _ => ?_)
set_option maxHeartbeats 4000000 in
theorem fo_SX0_find_43 {P : Nat → Nat → Prop} {t : St} (x2 : Nat) (w3 : Int32) (c : Int32 × Int32) (hP : ∀ c i, P c i → c ≠ 95 ∧ c ≠ 96 ∧ c ≠ 97 ∧ c ≠ x2 + 1) : Fo P t (SX0_find_43 x2 w3 c t) := by
  unfold SX0_find_43
  repeat' first
    | with_reducible exact Fo.ret
    | with_reducible exact Fo.no
    | with_reducible exact fo_FX0_leadersFrom _ _ _ (fun c i h => by have hh := hP c i h; first | exact hh | (obtain ⟨g0, g1, g2, g3⟩ := hh; and_intros <;> first | assumption | (intro e; exact absurd e (by assumption))) | omega | (have := net_q (by assumption); omega) | (have := net_q (x := el 10 _) (by assumption); omega) | (have := find_q (by assumption); omega) | (have := finds_q (by assumption); omega))
    | with_reducible exact fo_FX9_lowest _
    | with_reducible refine Fo.bd ?_ (fun _ _ => ?_)
    | with_reducible refine Fo.ck (fun _ => ?_)
    | with_reducible refine Fo.ite ?_ ?_
    | with_reducible refine Fo.rd (fun _ => ?_)
    | with_reducible refine Fo.wr (fun c i h => by have hh := hP c i h; first | exact hh | (obtain ⟨g0, g1, g2, g3⟩ := hh; and_intros <;> first | assumption | (intro e; exact absurd e (by assumption))) | omega | (have := net_q (by assumption); omega) | (have := net_q (x := el 10 _) (by assumption); omega) | (have := find_q (by assumption); omega) | (have := finds_q (by assumption); omega)) (fun _ => ?_)
    | with_reducible refine Fo.cp (fun c i h => by have hh := hP c i h; first | exact hh | (obtain ⟨g0, g1, g2, g3⟩ := hh; and_intros <;> first | assumption | (intro e; exact absurd e (by assumption))) | omega | (have := net_q (by assumption); omega) | (have := net_q (x := el 10 _) (by assumption); omega)) (fun _ => ?_)
    | with_reducible refine Fo.oe ?_ (fun _ => ?_)
    | with_reducible refine Fo.se (fun _ => ?_) (fun _ => ?_)
set_option maxHeartbeats 4000000 in
theorem fo_FX0_find {P : Nat → Nat → Prop} {t : St} (x : Nat) (z : Nat) (hP : ∀ c i, P c i → c ≠ 91 ∧ c ≠ 92 ∧ c ≠ 93 ∧ c ≠ 94 ∧ c ≠ 95 ∧ c ≠ 96 ∧ c ≠ 97 ∧ c ≠ z ∧ c ≠ z + 1) : Fo P t (FX0_find x z t) := by
  unfold FX0_find
  repeat' first
    | with_reducible exact Fo.ret
    | with_reducible exact Fo.no
    | with_reducible exact fo_FX0_turnTo _ (fun c i h => by have hh := hP c i h; first | exact hh | (obtain ⟨g0, g1, g2, g3, g4, g5, g6, g7, g8⟩ := hh; and_intros <;> first | assumption | (intro e; exact absurd e (by assumption))) | omega | (have := net_q (by assumption); omega) | (have := net_q (x := el 10 _) (by assumption); omega) | (have := find_q (by assumption); omega) | (have := finds_q (by assumption); omega))
    | with_reducible exact fo_FX0_leastLimit (fun c i h => by have hh := hP c i h; first | exact hh | (obtain ⟨g0, g1, g2, g3, g4, g5, g6, g7, g8⟩ := hh; and_intros <;> first | assumption | (intro e; exact absurd e (by assumption))) | omega | (have := net_q (by assumption); omega) | (have := net_q (x := el 10 _) (by assumption); omega) | (have := find_q (by assumption); omega) | (have := finds_q (by assumption); omega))
    | with_reducible exact fo_FX0_rowsFrom _ _ _ _ (fun c i h => by have hh := hP c i h; first | exact hh | (obtain ⟨g0, g1, g2, g3, g4, g5, g6, g7, g8⟩ := hh; and_intros <;> first | assumption | (intro e; exact absurd e (by assumption))) | omega | (have := net_q (by assumption); omega) | (have := net_q (x := el 10 _) (by assumption); omega) | (have := find_q (by assumption); omega) | (have := finds_q (by assumption); omega))
    | with_reducible exact fo_FX0_leadersFrom _ _ _ (fun c i h => by have hh := hP c i h; first | exact hh | (obtain ⟨g0, g1, g2, g3, g4, g5, g6, g7, g8⟩ := hh; and_intros <;> first | assumption | (intro e; exact absurd e (by assumption))) | omega | (have := net_q (by assumption); omega) | (have := net_q (x := el 10 _) (by assumption); omega) | (have := find_q (by assumption); omega) | (have := finds_q (by assumption); omega))
    | with_reducible refine Fo.wh (fun cc ss => fo_SX0_find_43 _ _ cc (fun c i h => by have hh := hP c i h; first | exact hh | (obtain ⟨g0, g1, g2, g3, g4, g5, g6, g7, g8⟩ := hh; and_intros <;> first | assumption | (intro e; exact absurd e (by assumption))) | omega | (have := net_q (by assumption); omega) | (have := net_q (x := el 10 _) (by assumption); omega) | (have := find_q (by assumption); omega) | (have := finds_q (by assumption); omega)))
    | with_reducible refine Fo.bd ?_ (fun _ _ => ?_)
    | with_reducible refine Fo.ck (fun _ => ?_)
    | with_reducible refine Fo.ite ?_ ?_
    | with_reducible refine Fo.rd (fun _ => ?_)
    | with_reducible refine Fo.wr (fun c i h => by have hh := hP c i h; first | exact hh | (obtain ⟨g0, g1, g2, g3, g4, g5, g6, g7, g8⟩ := hh; and_intros <;> first | assumption | (intro e; exact absurd e (by assumption))) | omega | (have := net_q (by assumption); omega) | (have := net_q (x := el 10 _) (by assumption); omega) | (have := find_q (by assumption); omega) | (have := finds_q (by assumption); omega)) (fun _ => ?_)
    | with_reducible refine Fo.cp (fun c i h => by have hh := hP c i h; first | exact hh | (obtain ⟨g0, g1, g2, g3, g4, g5, g6, g7, g8⟩ := hh; and_intros <;> first | assumption | (intro e; exact absurd e (by assumption))) | omega | (have := net_q (by assumption); omega) | (have := net_q (x := el 10 _) (by assumption); omega)) (fun _ => ?_)
    | with_reducible refine Fo.oe ?_ (fun _ => ?_)
    | with_reducible refine Fo.se (fun _ => ?_) (fun _ => ?_)
set_option maxHeartbeats 4000000 in
theorem fo_FX0_rowsWithin {P : Nat → Nat → Prop} {t : St} (x : Nat) (a : Int32) (hP : ∀ c i, P c i → c ≠ 91 ∧ c ≠ 92 ∧ c ≠ 93 ∧ c ≠ 94 ∧ c ≠ 95 ∧ c ≠ 96 ∧ c ≠ 97) : Fo P t (FX0_rowsWithin x a t) := by
  unfold FX0_rowsWithin
  repeat' first
    | with_reducible exact Fo.ret
    | with_reducible exact Fo.no
    | with_reducible exact fo_FX0_turnTo _ (fun c i h => by have hh := hP c i h; first | exact hh | (obtain ⟨g0, g1, g2, g3, g4, g5, g6⟩ := hh; and_intros <;> first | assumption | (intro e; exact absurd e (by assumption))) | omega | (have := net_q (by assumption); omega) | (have := net_q (x := el 10 _) (by assumption); omega) | (have := find_q (by assumption); omega) | (have := finds_q (by assumption); omega))
    | with_reducible exact fo_FX0_rowsFrom _ _ _ _ (fun c i h => by have hh := hP c i h; first | exact hh | (obtain ⟨g0, g1, g2, g3, g4, g5, g6⟩ := hh; and_intros <;> first | assumption | (intro e; exact absurd e (by assumption))) | omega | (have := net_q (by assumption); omega) | (have := net_q (x := el 10 _) (by assumption); omega) | (have := find_q (by assumption); omega) | (have := finds_q (by assumption); omega))
    | with_reducible refine Fo.bd ?_ (fun _ _ => ?_)
    | with_reducible refine Fo.ck (fun _ => ?_)
    | with_reducible refine Fo.ite ?_ ?_
    | with_reducible refine Fo.rd (fun _ => ?_)
    | with_reducible refine Fo.wr (fun c i h => by have hh := hP c i h; first | exact hh | (obtain ⟨g0, g1, g2, g3, g4, g5, g6⟩ := hh; and_intros <;> first | assumption | (intro e; exact absurd e (by assumption))) | omega | (have := net_q (by assumption); omega) | (have := net_q (x := el 10 _) (by assumption); omega) | (have := find_q (by assumption); omega) | (have := finds_q (by assumption); omega)) (fun _ => ?_)
    | with_reducible refine Fo.cp (fun c i h => by have hh := hP c i h; first | exact hh | (obtain ⟨g0, g1, g2, g3, g4, g5, g6⟩ := hh; and_intros <;> first | assumption | (intro e; exact absurd e (by assumption))) | omega | (have := net_q (by assumption); omega) | (have := net_q (x := el 10 _) (by assumption); omega)) (fun _ => ?_)
    | with_reducible refine Fo.oe ?_ (fun _ => ?_)
    | with_reducible refine Fo.se (fun _ => ?_) (fun _ => ?_)
set_option maxHeartbeats 4000000 in
theorem fo_SX3_turnTo_22 {P : Nat → Nat → Prop} {t : St} (x0 : Nat) (c : Int32) (hP : ∀ c i, P c i → (c < 6 ∨ 149 ≤ c)) : Fo P t (SX3_turnTo_22 x0 c t) := by
  unfold SX3_turnTo_22
  repeat' first
    | with_reducible exact Fo.ret
    | with_reducible exact Fo.no
    | with_reducible refine Fo.bd ?_ (fun _ _ => ?_)
    | with_reducible refine Fo.ck (fun _ => ?_)
    | with_reducible refine Fo.ite ?_ ?_
    | with_reducible refine Fo.rd (fun _ => ?_)
    | with_reducible refine Fo.wr (fun c i h => by have hh := hP c i h; first | omega | (have := net_q (by assumption); omega) | (have := net_q (x := el 10 _) (by assumption); omega) | (have := find_q (by assumption); omega) | (have := finds_q (by assumption); omega)) (fun _ => ?_)
    | with_reducible refine Fo.cp (fun c i h => by have hh := hP c i h; first | omega | (have := net_q (by assumption); omega) | (have := net_q (x := el 10 _) (by assumption); omega)) (fun _ => ?_)
    | with_reducible refine Fo.oe ?_ (fun _ => ?_)
    | with_reducible refine Fo.se (fun _ => ?_) (fun _ => ?_)
set_option maxHeartbeats 4000000 in
theorem fo_FX3_turnTo {P : Nat → Nat → Prop} {t : St} (x : Nat) (y : Nat) (hP : ∀ c i, P c i → c ≠ x + 2 ∧ c ≠ x + 3 ∧ c ≠ x + 4 ∧ c ≠ x + 5 ∧ (c < 6 ∨ 149 ≤ c)) : Fo P t (FX3_turnTo x y t) := by
  unfold FX3_turnTo
  repeat' first
    | with_reducible exact Fo.ret
    | with_reducible exact Fo.no
    | with_reducible exact fo_FX5_sameLines _ _
    | with_reducible exact fo_FX5_copyFrom _ _ (fun c i h => by have hh := hP c i h; first | omega | (have := net_q (by assumption); omega) | (have := net_q (x := el 10 _) (by assumption); omega) | (have := find_q (by assumption); omega) | (have := finds_q (by assumption); omega))
    | with_reducible refine Fo.wh (fun cc ss => fo_SX3_turnTo_22 _ cc (fun c i h => by have hh := hP c i h; first | omega | (have := net_q (by assumption); omega) | (have := net_q (x := el 10 _) (by assumption); omega) | (have := find_q (by assumption); omega) | (have := finds_q (by assumption); omega)))
    | with_reducible refine Fo.bd ?_ (fun _ _ => ?_)
    | with_reducible refine Fo.ck (fun _ => ?_)
    | with_reducible refine Fo.ite ?_ ?_
    | with_reducible refine Fo.rd (fun _ => ?_)
    | with_reducible refine Fo.wr (fun c i h => by have hh := hP c i h; first | omega | (have := net_q (by assumption); omega) | (have := net_q (x := el 10 _) (by assumption); omega) | (have := find_q (by assumption); omega) | (have := finds_q (by assumption); omega)) (fun _ => ?_)
    | with_reducible refine Fo.cp (fun c i h => by have hh := hP c i h; first | omega | (have := net_q (by assumption); omega) | (have := net_q (x := el 10 _) (by assumption); omega)) (fun _ => ?_)
    | with_reducible refine Fo.oe ?_ (fun _ => ?_)
    | with_reducible refine Fo.se (fun _ => ?_) (fun _ => ?_)
set_option maxHeartbeats 4000000 in
theorem fo_FX4_remember {P : Nat → Nat → Prop} {t : St} (a : Int32) (x : Nat) (hP : ∀ c i, P c i → c ≠ 98 ∧ c ≠ 99 ∧ (c < 6 ∨ 149 ≤ c)) : Fo P t (FX4_remember a x t) := by
  unfold FX4_remember
  repeat' first
    | with_reducible exact Fo.ret
    | with_reducible exact Fo.no
    | with_reducible exact fo_FX5_copyFrom _ _ (fun c i h => by have hh := hP c i h; first | omega | (have := net_q (by assumption); omega) | (have := net_q (x := el 10 _) (by assumption); omega) | (have := find_q (by assumption); omega) | (have := finds_q (by assumption); omega))
    | with_reducible refine Fo.bd ?_ (fun _ _ => ?_)
    | with_reducible refine Fo.ck (fun _ => ?_)
    | with_reducible refine Fo.ite ?_ ?_
    | with_reducible refine Fo.rd (fun _ => ?_)
    | with_reducible refine Fo.wr (fun c i h => by have hh := hP c i h; first | omega | (have := net_q (by assumption); omega) | (have := net_q (x := el 10 _) (by assumption); omega) | (have := find_q (by assumption); omega) | (have := finds_q (by assumption); omega)) (fun _ => ?_)
    | with_reducible refine Fo.cp (fun c i h => by have hh := hP c i h; first | omega | (have := net_q (by assumption); omega) | (have := net_q (x := el 10 _) (by assumption); omega)) (fun _ => ?_)
    | with_reducible refine Fo.oe ?_ (fun _ => ?_)
    | with_reducible refine Fo.se (fun _ => ?_) (fun _ => ?_)
set_option maxHeartbeats 4000000 in
theorem fo_FX4_takeBack {P : Nat → Nat → Prop} {t : St} (hP : ∀ c i, P c i → c ≠ 98 ∧ (c < 6 ∨ 149 ≤ c)) : Fo P t (FX4_takeBack t) := by
  unfold FX4_takeBack
  repeat' first
    | with_reducible exact Fo.ret
    | with_reducible exact Fo.no
    | with_reducible exact fo_FX5_copyFrom _ _ (fun c i h => by have hh := hP c i h; first | omega | (have := net_q (by assumption); omega) | (have := net_q (x := el 10 _) (by assumption); omega) | (have := find_q (by assumption); omega) | (have := finds_q (by assumption); omega))
    | with_reducible refine Fo.bd ?_ (fun _ _ => ?_)
    | with_reducible refine Fo.ck (fun _ => ?_)
    | with_reducible refine Fo.ite ?_ ?_
    | with_reducible refine Fo.rd (fun _ => ?_)
    | with_reducible refine Fo.wr (fun c i h => by have hh := hP c i h; first | omega | (have := net_q (by assumption); omega) | (have := net_q (x := el 10 _) (by assumption); omega) | (have := find_q (by assumption); omega) | (have := finds_q (by assumption); omega)) (fun _ => ?_)
    | with_reducible refine Fo.cp (fun c i h => by have hh := hP c i h; first | omega | (have := net_q (by assumption); omega) | (have := net_q (x := el 10 _) (by assumption); omega)) (fun _ => ?_)
    | with_reducible refine Fo.oe ?_ (fun _ => ?_)
    | with_reducible refine Fo.se (fun _ => ?_) (fun _ => ?_)
set_option maxHeartbeats 4000000 in
theorem fo_FX9_fits {P : Nat → Nat → Prop} {t : St} (a : Int32) (b : Int32) (c : Int32) (d : Int32) : Fo P t (FX9_fits a b c d t) := by
  unfold FX9_fits
  repeat' first
    | with_reducible exact Fo.ret
    | with_reducible exact Fo.no
    | with_reducible refine Fo.bd ?_ (fun _ _ => ?_)
    | with_reducible refine Fo.ck (fun _ => ?_)
    | with_reducible refine Fo.ite ?_ ?_
    | with_reducible refine Fo.rd (fun _ => ?_)
    | with_reducible refine Fo.oe ?_ (fun _ => ?_)
    | with_reducible refine Fo.se (fun _ => ?_) (fun _ => ?_)
set_option maxHeartbeats 4000000 in
theorem fo_SX9_countRows_31 {P : Nat → Nat → Prop} {t : St} (x1 : Nat) (w2 : Int32) (w3 : Int32) (w5 : Int32) (c : Int32 × Int32) : Fo P t (SX9_countRows_31 x1 w2 w3 w5 c t) := by
  unfold SX9_countRows_31
  repeat' first
    | with_reducible exact Fo.ret
    | with_reducible exact Fo.no
    | with_reducible exact fo_FX9_fits _ _ _ _
    | with_reducible refine Fo.bd ?_ (fun _ _ => ?_)
    | with_reducible refine Fo.ck (fun _ => ?_)
    | with_reducible refine Fo.ite ?_ ?_
    | with_reducible refine Fo.rd (fun _ => ?_)
    | with_reducible refine Fo.oe ?_ (fun _ => ?_)
    | with_reducible refine Fo.se (fun _ => ?_) (fun _ => ?_)
set_option maxHeartbeats 4000000 in
theorem fo_SX9_countRows_20 {P : Nat → Nat → Prop} {t : St} (x1 : Nat) (w2 : Int32) (w3 : Int32) (c : Int32) (hP : ∀ c i, P c i → c ≠ 89) : Fo P t (SX9_countRows_20 x1 w2 w3 c t) := by
  unfold SX9_countRows_20
  repeat' first
    | with_reducible exact Fo.ret
    | with_reducible exact Fo.no
    | with_reducible refine Fo.wh (fun cc ss => fo_SX9_countRows_31 _ _ _ _ cc)
    | with_reducible refine Fo.bd ?_ (fun _ _ => ?_)
    | with_reducible refine Fo.ck (fun _ => ?_)
    | with_reducible refine Fo.ite ?_ ?_
    | with_reducible refine Fo.rd (fun _ => ?_)
    | with_reducible refine Fo.wr (fun c i h => by have hh := hP c i h; first | exact hh | (intro e; exact absurd e hh) | omega | (have := net_q (by assumption); omega) | (have := net_q (x := el 10 _) (by assumption); omega) | (have := find_q (by assumption); omega) | (have := finds_q (by assumption); omega)) (fun _ => ?_)
    | with_reducible refine Fo.cp (fun c i h => by have hh := hP c i h; first | exact hh | (intro e; exact absurd e hh) | omega | (have := net_q (by assumption); omega) | (have := net_q (x := el 10 _) (by assumption); omega)) (fun _ => ?_)
    | with_reducible refine Fo.oe ?_ (fun _ => ?_)
    | with_reducible refine Fo.se (fun _ => ?_) (fun _ => ?_)
set_option maxHeartbeats 4000000 in
theorem fo_FX9_countRows {P : Nat → Nat → Prop} {t : St} (x : Nat) (a : Int32) (b : Int32) (hP : ∀ c i, P c i → c ≠ 89) : Fo P t (FX9_countRows x a b t) := by
  unfold FX9_countRows
  repeat' first
    | with_reducible exact Fo.ret
    | with_reducible exact Fo.no
    | with_reducible exact fo_FX5_allBits _
    | with_reducible refine Fo.wh (fun cc ss => fo_SX9_countRows_20 _ _ _ cc (fun c i h => by have hh := hP c i h; first | exact hh | (intro e; exact absurd e hh) | omega | (have := net_q (by assumption); omega) | (have := net_q (x := el 10 _) (by assumption); omega) | (have := find_q (by assumption); omega) | (have := finds_q (by assumption); omega)))
    | with_reducible refine Fo.bd ?_ (fun _ _ => ?_)
    | with_reducible refine Fo.ck (fun _ => ?_)
    | with_reducible refine Fo.ite ?_ ?_
    | with_reducible refine Fo.rd (fun _ => ?_)
    | with_reducible refine Fo.wr (fun c i h => by have hh := hP c i h; first | exact hh | (intro e; exact absurd e hh) | omega | (have := net_q (by assumption); omega) | (have := net_q (x := el 10 _) (by assumption); omega) | (have := find_q (by assumption); omega) | (have := finds_q (by assumption); omega)) (fun _ => ?_)
    | with_reducible refine Fo.cp (fun c i h => by have hh := hP c i h; first | exact hh | (intro e; exact absurd e hh) | omega | (have := net_q (by assumption); omega) | (have := net_q (x := el 10 _) (by assumption); omega)) (fun _ => ?_)
    | with_reducible refine Fo.oe ?_ (fun _ => ?_)
    | with_reducible refine Fo.se (fun _ => ?_) (fun _ => ?_)
set_option maxHeartbeats 4000000 in
theorem fo_SX9_fillAround_2 {P : Nat → Nat → Prop} {t : St} (x1 : Nat) (c : Int32) (hP : ∀ c i, P c i → c ≠ 87) : Fo P t (SX9_fillAround_2 x1 c t) := by
  unfold SX9_fillAround_2
  repeat' first
    | with_reducible exact Fo.ret
    | with_reducible exact Fo.no
    | with_reducible refine Fo.bd ?_ (fun _ _ => ?_)
    | with_reducible refine Fo.ck (fun _ => ?_)
    | with_reducible refine Fo.ite ?_ ?_
    | with_reducible refine Fo.rd (fun _ => ?_)
    | with_reducible refine Fo.wr (fun c i h => by have hh := hP c i h; first | exact hh | (intro e; exact absurd e hh) | omega | (have := net_q (by assumption); omega) | (have := net_q (x := el 10 _) (by assumption); omega) | (have := find_q (by assumption); omega) | (have := finds_q (by assumption); omega)) (fun _ => ?_)
    | with_reducible refine Fo.cp (fun c i h => by have hh := hP c i h; first | exact hh | (intro e; exact absurd e hh) | omega | (have := net_q (by assumption); omega) | (have := net_q (x := el 10 _) (by assumption); omega)) (fun _ => ?_)
    | with_reducible refine Fo.oe ?_ (fun _ => ?_)
    | with_reducible refine Fo.se (fun _ => ?_) (fun _ => ?_)
set_option maxHeartbeats 4000000 in
theorem fo_SX9_fillAround_56 {P : Nat → Nat → Prop} {t : St} (x1 : Nat) (w2 : Int32) (w3 : Int32) (w4 : Int32) (c : Int32) (hP : ∀ c i, P c i → c ≠ 87) : Fo P t (SX9_fillAround_56 x1 w2 w3 w4 c t) := by
  unfold SX9_fillAround_56
  repeat' first
    | with_reducible exact Fo.ret
    | with_reducible exact Fo.no
    | with_reducible refine Fo.bd ?_ (fun _ _ => ?_)
    | with_reducible refine Fo.ck (fun _ => ?_)
    | with_reducible refine Fo.ite ?_ ?_
    | with_reducible refine Fo.rd (fun _ => ?_)
    | with_reducible refine Fo.wr (fun c i h => by have hh := hP c i h; first | exact hh | (intro e; exact absurd e hh) | omega | (have := net_q (by assumption); omega) | (have := net_q (x := el 10 _) (by assumption); omega) | (have := find_q (by assumption); omega) | (have := finds_q (by assumption); omega)) (fun _ => ?_)
    | with_reducible refine Fo.cp (fun c i h => by have hh := hP c i h; first | exact hh | (intro e; exact absurd e hh) | omega | (have := net_q (by assumption); omega) | (have := net_q (x := el 10 _) (by assumption); omega)) (fun _ => ?_)
    | with_reducible refine Fo.oe ?_ (fun _ => ?_)
    | with_reducible refine Fo.se (fun _ => ?_) (fun _ => ?_)
set_option maxHeartbeats 4000000 in
theorem fo_SX9_fillAround_30 {P : Nat → Nat → Prop} {t : St} (x1 : Nat) (c : Int32) (hP : ∀ c i, P c i → c ≠ 87) : Fo P t (SX9_fillAround_30 x1 c t) := by
  unfold SX9_fillAround_30
  repeat' first
    | with_reducible exact Fo.ret
    | with_reducible exact Fo.no
    | with_reducible exact fo_FX5_allBits _
    | with_reducible exact fo_FX9_lowest _
    | with_reducible refine Fo.wh (fun cc ss => fo_SX9_fillAround_56 _ _ _ _ cc (fun c i h => by have hh := hP c i h; first | exact hh | (intro e; exact absurd e hh) | omega | (have := net_q (by assumption); omega) | (have := net_q (x := el 10 _) (by assumption); omega) | (have := find_q (by assumption); omega) | (have := finds_q (by assumption); omega)))
    | with_reducible refine Fo.bd ?_ (fun _ _ => ?_)
    | with_reducible refine Fo.ck (fun _ => ?_)
    | with_reducible refine Fo.ite ?_ ?_
    | with_reducible refine Fo.rd (fun _ => ?_)
    | with_reducible refine Fo.wr (fun c i h => by have hh := hP c i h; first | exact hh | (intro e; exact absurd e hh) | omega | (have := net_q (by assumption); omega) | (have := net_q (x := el 10 _) (by assumption); omega) | (have := find_q (by assumption); omega) | (have := finds_q (by assumption); omega)) (fun _ => ?_)
    | with_reducible refine Fo.cp (fun c i h => by have hh := hP c i h; first | exact hh | (intro e; exact absurd e hh) | omega | (have := net_q (by assumption); omega) | (have := net_q (x := el 10 _) (by assumption); omega)) (fun _ => ?_)
    | with_reducible refine Fo.oe ?_ (fun _ => ?_)
    | with_reducible refine Fo.se (fun _ => ?_) (fun _ => ?_)
set_option maxHeartbeats 4000000 in
theorem fo_FX9_fillAround {P : Nat → Nat → Prop} {t : St} (x : Nat) (hP : ∀ c i, P c i → c ≠ 87) : Fo P t (FX9_fillAround x t) := by
  unfold FX9_fillAround
  repeat' first
    | with_reducible exact Fo.ret
    | with_reducible exact Fo.no
    | with_reducible refine Fo.wh (fun cc ss => fo_SX9_fillAround_2 _ cc (fun c i h => by have hh := hP c i h; first | exact hh | (intro e; exact absurd e hh) | omega | (have := net_q (by assumption); omega) | (have := net_q (x := el 10 _) (by assumption); omega) | (have := find_q (by assumption); omega) | (have := finds_q (by assumption); omega)))
    | with_reducible refine Fo.wh (fun cc ss => fo_SX9_fillAround_30 _ cc (fun c i h => by have hh := hP c i h; first | exact hh | (intro e; exact absurd e hh) | omega | (have := net_q (by assumption); omega) | (have := net_q (x := el 10 _) (by assumption); omega) | (have := find_q (by assumption); omega) | (have := finds_q (by assumption); omega)))
    | with_reducible refine Fo.bd ?_ (fun _ _ => ?_)
    | with_reducible refine Fo.ck (fun _ => ?_)
    | with_reducible refine Fo.ite ?_ ?_
    | with_reducible refine Fo.rd (fun _ => ?_)
    | with_reducible refine Fo.wr (fun c i h => by have hh := hP c i h; first | exact hh | (intro e; exact absurd e hh) | omega | (have := net_q (by assumption); omega) | (have := net_q (x := el 10 _) (by assumption); omega) | (have := find_q (by assumption); omega) | (have := finds_q (by assumption); omega)) (fun _ => ?_)
    | with_reducible refine Fo.cp (fun c i h => by have hh := hP c i h; first | exact hh | (intro e; exact absurd e hh) | omega | (have := net_q (by assumption); omega) | (have := net_q (x := el 10 _) (by assumption); omega)) (fun _ => ?_)
    | with_reducible refine Fo.oe ?_ (fun _ => ?_)
    | with_reducible refine Fo.se (fun _ => ?_) (fun _ => ?_)
set_option maxHeartbeats 4000000 in
theorem fo_SX9_fillRest_32 {P : Nat → Nat → Prop} {t : St} (x1 : Nat) (w2 : Int32) (x3 : Nat) (w4 : Int32) (w6 : Int32) (c : Int32 × Int32) : Fo P t (SX9_fillRest_32 x1 w2 x3 w4 w6 c t) := by
  unfold SX9_fillRest_32
  repeat' first
    | with_reducible exact Fo.ret
    | with_reducible exact Fo.no
    | with_reducible exact fo_FX6_joined _ _ _
    | with_reducible refine Fo.bd ?_ (fun _ _ => ?_)
    | with_reducible refine Fo.ck (fun _ => ?_)
    | with_reducible refine Fo.ite ?_ ?_
    | with_reducible refine Fo.rd (fun _ => ?_)
    | with_reducible refine Fo.oe ?_ (fun _ => ?_)
    | with_reducible refine Fo.se (fun _ => ?_) (fun _ => ?_)
set_option maxHeartbeats 4000000 in
theorem fo_SX9_fillRest_20 {P : Nat → Nat → Prop} {t : St} (x1 : Nat) (w2 : Int32) (x3 : Nat) (w4 : Int32) (c : Int32) (hP : ∀ c i, P c i → c ≠ 88) : Fo P t (SX9_fillRest_20 x1 w2 x3 w4 c t) := by
  unfold SX9_fillRest_20
  repeat' first
    | with_reducible exact Fo.ret
    | with_reducible exact Fo.no
    | with_reducible refine Fo.wh (fun cc ss => fo_SX9_fillRest_32 _ _ _ _ _ cc)
    | with_reducible refine Fo.bd ?_ (fun _ _ => ?_)
    | with_reducible refine Fo.ck (fun _ => ?_)
    | with_reducible refine Fo.ite ?_ ?_
    | with_reducible refine Fo.rd (fun _ => ?_)
    | with_reducible refine Fo.wr (fun c i h => by have hh := hP c i h; first | exact hh | (intro e; exact absurd e hh) | omega | (have := net_q (by assumption); omega) | (have := net_q (x := el 10 _) (by assumption); omega) | (have := find_q (by assumption); omega) | (have := finds_q (by assumption); omega)) (fun _ => ?_)
    | with_reducible refine Fo.cp (fun c i h => by have hh := hP c i h; first | exact hh | (intro e; exact absurd e hh) | omega | (have := net_q (by assumption); omega) | (have := net_q (x := el 10 _) (by assumption); omega)) (fun _ => ?_)
    | with_reducible refine Fo.oe ?_ (fun _ => ?_)
    | with_reducible refine Fo.se (fun _ => ?_) (fun _ => ?_)
set_option maxHeartbeats 4000000 in
theorem fo_FX9_fillRest {P : Nat → Nat → Prop} {t : St} (x : Nat) (a : Int32) (ta : Nat) (b : Int32) (hP : ∀ c i, P c i → c ≠ 88) : Fo P t (FX9_fillRest x a ta b t) := by
  unfold FX9_fillRest
  repeat' first
    | with_reducible exact Fo.ret
    | with_reducible exact Fo.no
    | with_reducible exact fo_FX5_allBits _
    | with_reducible refine Fo.wh (fun cc ss => fo_SX9_fillRest_20 _ _ _ _ cc (fun c i h => by have hh := hP c i h; first | exact hh | (intro e; exact absurd e hh) | omega | (have := net_q (by assumption); omega) | (have := net_q (x := el 10 _) (by assumption); omega) | (have := find_q (by assumption); omega) | (have := finds_q (by assumption); omega)))
    | with_reducible refine Fo.bd ?_ (fun _ _ => ?_)
    | with_reducible refine Fo.ck (fun _ => ?_)
    | with_reducible refine Fo.ite ?_ ?_
    | with_reducible refine Fo.rd (fun _ => ?_)
    | with_reducible refine Fo.wr (fun c i h => by have hh := hP c i h; first | exact hh | (intro e; exact absurd e hh) | omega | (have := net_q (by assumption); omega) | (have := net_q (x := el 10 _) (by assumption); omega) | (have := find_q (by assumption); omega) | (have := finds_q (by assumption); omega)) (fun _ => ?_)
    | with_reducible refine Fo.cp (fun c i h => by have hh := hP c i h; first | exact hh | (intro e; exact absurd e hh) | omega | (have := net_q (by assumption); omega) | (have := net_q (x := el 10 _) (by assumption); omega)) (fun _ => ?_)
    | with_reducible refine Fo.oe ?_ (fun _ => ?_)
    | with_reducible refine Fo.se (fun _ => ?_) (fun _ => ?_)
set_option maxHeartbeats 4000000 in
theorem fo_SX9_newLines_6 {P : Nat → Nat → Prop} {t : St} (x1 : Nat) (w2 : Int32) (w3 : Int32) (c : Int32 × Int32) : Fo P t (SX9_newLines_6 x1 w2 w3 c t) := by
  unfold SX9_newLines_6
  repeat' first
    | with_reducible exact Fo.ret
    | with_reducible exact Fo.no
    | with_reducible exact fo_FX6_aboveOf _ _
    | with_reducible exact fo_FJ6_bitCount_0f7a4 _
    | with_reducible refine Fo.bd ?_ (fun _ _ => ?_)
    | with_reducible refine Fo.ck (fun _ => ?_)
    | with_reducible refine Fo.ite ?_ ?_
    | with_reducible refine Fo.rd (fun _ => ?_)
    | with_reducible refine Fo.oe ?_ (fun _ => ?_)
    | with_reducible refine Fo.se (fun _ => ?_) (fun _ => ?_)
set_option maxHeartbeats 4000000 in
theorem fo_FX9_newLines {P : Nat → Nat → Prop} {t : St} (x : Nat) (a : Int32) (b : Int32) : Fo P t (FX9_newLines x a b t) := by
  unfold FX9_newLines
  repeat' first
    | with_reducible exact Fo.ret
    | with_reducible exact Fo.no
    | with_reducible refine Fo.wh (fun cc ss => fo_SX9_newLines_6 _ _ _ cc)
    | with_reducible refine Fo.bd ?_ (fun _ _ => ?_)
    | with_reducible refine Fo.ck (fun _ => ?_)
    | with_reducible refine Fo.ite ?_ ?_
    | with_reducible refine Fo.rd (fun _ => ?_)
    | with_reducible refine Fo.oe ?_ (fun _ => ?_)
    | with_reducible refine Fo.se (fun _ => ?_) (fun _ => ?_)
set_option maxHeartbeats 4000000 in
theorem fo_SX9_fillTakings_20 {P : Nat → Nat → Prop} {t : St} (x1 : Nat) (w2 : Int32) (x3 : Nat) (w4 : Int32) (c : Int32) (hP : ∀ c i, P c i → c ≠ x3) : Fo P t (SX9_fillTakings_20 x1 w2 x3 w4 c t) := by
  unfold SX9_fillTakings_20
  repeat' first
    | with_reducible exact Fo.ret
    | with_reducible exact Fo.no
    | with_reducible exact fo_FJ6_bitCount_0f7a4 _
    | with_reducible exact fo_FX9_newLines _ _ _
    | with_reducible refine Fo.bd ?_ (fun _ _ => ?_)
    | with_reducible refine Fo.ck (fun _ => ?_)
    | with_reducible refine Fo.ite ?_ ?_
    | with_reducible refine Fo.rd (fun _ => ?_)
    | with_reducible refine Fo.wr (fun c i h => by have hh := hP c i h; first | exact hh | (intro e; exact absurd e hh) | omega | (have := net_q (by assumption); omega) | (have := net_q (x := el 10 _) (by assumption); omega) | (have := find_q (by assumption); omega) | (have := finds_q (by assumption); omega)) (fun _ => ?_)
    | with_reducible refine Fo.cp (fun c i h => by have hh := hP c i h; first | exact hh | (intro e; exact absurd e hh) | omega | (have := net_q (by assumption); omega) | (have := net_q (x := el 10 _) (by assumption); omega)) (fun _ => ?_)
    | with_reducible refine Fo.oe ?_ (fun _ => ?_)
    | with_reducible refine Fo.se (fun _ => ?_) (fun _ => ?_)
set_option maxHeartbeats 4000000 in
theorem fo_SX9_fillTakings_8 {P : Nat → Nat → Prop} {t : St} (x1 : Nat) (w2 : Int32) (x3 : Nat) (c : Int32) (hP : ∀ c i, P c i → c ≠ x3) : Fo P t (SX9_fillTakings_8 x1 w2 x3 c t) := by
  unfold SX9_fillTakings_8
  repeat' first
    | with_reducible exact Fo.ret
    | with_reducible exact Fo.no
    | with_reducible exact fo_FX5_allBits _
    | with_reducible refine Fo.wh (fun cc ss => fo_SX9_fillTakings_20 _ _ _ _ cc (fun c i h => by have hh := hP c i h; first | exact hh | (intro e; exact absurd e hh) | omega | (have := net_q (by assumption); omega) | (have := net_q (x := el 10 _) (by assumption); omega) | (have := find_q (by assumption); omega) | (have := finds_q (by assumption); omega)))
    | with_reducible refine Fo.bd ?_ (fun _ _ => ?_)
    | with_reducible refine Fo.ck (fun _ => ?_)
    | with_reducible refine Fo.ite ?_ ?_
    | with_reducible refine Fo.rd (fun _ => ?_)
    | with_reducible refine Fo.wr (fun c i h => by have hh := hP c i h; first | exact hh | (intro e; exact absurd e hh) | omega | (have := net_q (by assumption); omega) | (have := net_q (x := el 10 _) (by assumption); omega) | (have := find_q (by assumption); omega) | (have := finds_q (by assumption); omega)) (fun _ => ?_)
    | with_reducible refine Fo.cp (fun c i h => by have hh := hP c i h; first | exact hh | (intro e; exact absurd e hh) | omega | (have := net_q (by assumption); omega) | (have := net_q (x := el 10 _) (by assumption); omega)) (fun _ => ?_)
    | with_reducible refine Fo.oe ?_ (fun _ => ?_)
    | with_reducible refine Fo.se (fun _ => ?_) (fun _ => ?_)
set_option maxHeartbeats 4000000 in
theorem fo_FX9_fillTakings {P : Nat → Nat → Prop} {t : St} (x : Nat) (a : Int32) (ta : Nat) (hP : ∀ c i, P c i → c ≠ 87 ∧ c ≠ ta) : Fo P t (FX9_fillTakings x a ta t) := by
  unfold FX9_fillTakings
  repeat' first
    | with_reducible exact Fo.ret
    | with_reducible exact Fo.no
    | with_reducible exact fo_FX9_fillAround _ (fun c i h => by have hh := hP c i h; first | exact hh | (obtain ⟨g0, g1⟩ := hh; and_intros <;> first | assumption | (intro e; exact absurd e (by assumption))) | omega | (have := net_q (by assumption); omega) | (have := net_q (x := el 10 _) (by assumption); omega) | (have := find_q (by assumption); omega) | (have := finds_q (by assumption); omega))
    | with_reducible refine Fo.wh (fun cc ss => fo_SX9_fillTakings_8 _ _ _ cc (fun c i h => by have hh := hP c i h; first | exact hh | (obtain ⟨g0, g1⟩ := hh; and_intros <;> first | assumption | (intro e; exact absurd e (by assumption))) | omega | (have := net_q (by assumption); omega) | (have := net_q (x := el 10 _) (by assumption); omega) | (have := find_q (by assumption); omega) | (have := finds_q (by assumption); omega)))
    | with_reducible refine Fo.bd ?_ (fun _ _ => ?_)
    | with_reducible refine Fo.ck (fun _ => ?_)
    | with_reducible refine Fo.ite ?_ ?_
    | with_reducible refine Fo.rd (fun _ => ?_)
    | with_reducible refine Fo.wr (fun c i h => by have hh := hP c i h; first | exact hh | (obtain ⟨g0, g1⟩ := hh; and_intros <;> first | assumption | (intro e; exact absurd e (by assumption))) | omega | (have := net_q (by assumption); omega) | (have := net_q (x := el 10 _) (by assumption); omega) | (have := find_q (by assumption); omega) | (have := finds_q (by assumption); omega)) (fun _ => ?_)
    | with_reducible refine Fo.cp (fun c i h => by have hh := hP c i h; first | exact hh | (obtain ⟨g0, g1⟩ := hh; and_intros <;> first | assumption | (intro e; exact absurd e (by assumption))) | omega | (have := net_q (by assumption); omega) | (have := net_q (x := el 10 _) (by assumption); omega)) (fun _ => ?_)
    | with_reducible refine Fo.oe ?_ (fun _ => ?_)
    | with_reducible refine Fo.se (fun _ => ?_) (fun _ => ?_)
set_option maxHeartbeats 4000000 in
theorem fo_SX9_fillSteps_40 {P : Nat → Nat → Prop} {t : St} (x1 : Nat) (w2 : Int32) (x3 : Nat) (w4 : Int32) (w5 : Int32) (c : Int32) (hP : ∀ c i, P c i → c ≠ x3) : Fo P t (SX9_fillSteps_40 x1 w2 x3 w4 w5 c t) := by
  unfold SX9_fillSteps_40
  repeat' first
    | with_reducible exact Fo.ret
    | with_reducible exact Fo.no
    | with_reducible refine Fo.bd ?_ (fun _ _ => ?_)
    | with_reducible refine Fo.ck (fun _ => ?_)
    | with_reducible refine Fo.ite ?_ ?_
    | with_reducible refine Fo.rd (fun _ => ?_)
    | with_reducible refine Fo.wr (fun c i h => by have hh := hP c i h; first | exact hh | (intro e; exact absurd e hh) | omega | (have := net_q (by assumption); omega) | (have := net_q (x := el 10 _) (by assumption); omega) | (have := find_q (by assumption); omega) | (have := finds_q (by assumption); omega)) (fun _ => ?_)
    | with_reducible refine Fo.cp (fun c i h => by have hh := hP c i h; first | exact hh | (intro e; exact absurd e hh) | omega | (have := net_q (by assumption); omega) | (have := net_q (x := el 10 _) (by assumption); omega)) (fun _ => ?_)
    | with_reducible refine Fo.oe ?_ (fun _ => ?_)
    | with_reducible refine Fo.se (fun _ => ?_) (fun _ => ?_)
set_option maxHeartbeats 4000000 in
theorem fo_SX9_fillSteps_18 {P : Nat → Nat → Prop} {t : St} (x1 : Nat) (w2 : Int32) (x3 : Nat) (c : Int32) (hP : ∀ c i, P c i → c ≠ x3) : Fo P t (SX9_fillSteps_18 x1 w2 x3 c t) := by
  unfold SX9_fillSteps_18
  repeat' first
    | with_reducible exact Fo.ret
    | with_reducible exact Fo.no
    | with_reducible exact fo_FX5_allBits _
    | with_reducible exact fo_FX6_of _ _ _ _
    | with_reducible refine Fo.wh (fun cc ss => fo_SX9_fillSteps_40 _ _ _ _ _ cc (fun c i h => by have hh := hP c i h; first | exact hh | (intro e; exact absurd e hh) | omega | (have := net_q (by assumption); omega) | (have := net_q (x := el 10 _) (by assumption); omega) | (have := find_q (by assumption); omega) | (have := finds_q (by assumption); omega)))
    | with_reducible refine Fo.bd ?_ (fun _ _ => ?_)
    | with_reducible refine Fo.ck (fun _ => ?_)
    | with_reducible refine Fo.ite ?_ ?_
    | with_reducible refine Fo.rd (fun _ => ?_)
    | with_reducible refine Fo.wr (fun c i h => by have hh := hP c i h; first | exact hh | (intro e; exact absurd e hh) | omega | (have := net_q (by assumption); omega) | (have := net_q (x := el 10 _) (by assumption); omega) | (have := find_q (by assumption); omega) | (have := finds_q (by assumption); omega)) (fun _ => ?_)
    | with_reducible refine Fo.cp (fun c i h => by have hh := hP c i h; first | exact hh | (intro e; exact absurd e hh) | omega | (have := net_q (by assumption); omega) | (have := net_q (x := el 10 _) (by assumption); omega)) (fun _ => ?_)
    | with_reducible refine Fo.oe ?_ (fun _ => ?_)
    | with_reducible refine Fo.se (fun _ => ?_) (fun _ => ?_)
set_option maxHeartbeats 4000000 in
theorem fo_FX9_fillSteps {P : Nat → Nat → Prop} {t : St} (x : Nat) (a : Int32) (ta : Nat) (hP : ∀ c i, P c i → c ≠ 87 ∧ c ≠ ta) : Fo P t (FX9_fillSteps x a ta t) := by
  unfold FX9_fillSteps
  repeat' first
    | with_reducible exact Fo.ret
    | with_reducible exact Fo.no
    | with_reducible exact fo_FX6_isTakenOut _
    | with_reducible refine Fo.wh (fun cc ss => fo_SX9_fillSteps_18 _ _ _ cc (fun c i h => by have hh := hP c i h; first | exact hh | (obtain ⟨g0, g1⟩ := hh; and_intros <;> first | assumption | (intro e; exact absurd e (by assumption))) | omega | (have := net_q (by assumption); omega) | (have := net_q (x := el 10 _) (by assumption); omega) | (have := find_q (by assumption); omega) | (have := finds_q (by assumption); omega)))
    | with_reducible exact fo_FX9_fillTakings _ _ _ (fun c i h => by have hh := hP c i h; first | exact hh | (obtain ⟨g0, g1⟩ := hh; and_intros <;> first | assumption | (intro e; exact absurd e (by assumption))) | omega | (have := net_q (by assumption); omega) | (have := net_q (x := el 10 _) (by assumption); omega) | (have := find_q (by assumption); omega) | (have := finds_q (by assumption); omega))
    | with_reducible refine Fo.bd ?_ (fun _ _ => ?_)
    | with_reducible refine Fo.ck (fun _ => ?_)
    | with_reducible refine Fo.ite ?_ ?_
    | with_reducible refine Fo.rd (fun _ => ?_)
    | with_reducible refine Fo.wr (fun c i h => by have hh := hP c i h; first | exact hh | (obtain ⟨g0, g1⟩ := hh; and_intros <;> first | assumption | (intro e; exact absurd e (by assumption))) | omega | (have := net_q (by assumption); omega) | (have := net_q (x := el 10 _) (by assumption); omega) | (have := find_q (by assumption); omega) | (have := finds_q (by assumption); omega)) (fun _ => ?_)
    | with_reducible refine Fo.cp (fun c i h => by have hh := hP c i h; first | exact hh | (obtain ⟨g0, g1⟩ := hh; and_intros <;> first | assumption | (intro e; exact absurd e (by assumption))) | omega | (have := net_q (by assumption); omega) | (have := net_q (x := el 10 _) (by assumption); omega)) (fun _ => ?_)
    | with_reducible refine Fo.oe ?_ (fun _ => ?_)
    | with_reducible refine Fo.se (fun _ => ?_) (fun _ => ?_)
set_option maxHeartbeats 4000000 in
theorem fo_SX9_leadersFrom_6 {P : Nat → Nat → Prop} {t : St} (x1 : Nat) (w2 : Int32) (w3 : Int32) (w4 : Int32) (c : Int32 × Int32) : Fo P t (SX9_leadersFrom_6 x1 w2 w3 w4 c t) := by
  unfold SX9_leadersFrom_6
  repeat' first
    | with_reducible exact Fo.ret
    | with_reducible exact Fo.no
    | with_reducible exact fo_FX9_fits _ _ _ _
    | with_reducible refine Fo.bd ?_ (fun _ _ => ?_)
    | with_reducible refine Fo.ck (fun _ => ?_)
    | with_reducible refine Fo.ite ?_ ?_
    | with_reducible refine Fo.rd (fun _ => ?_)
    | with_reducible refine Fo.oe ?_ (fun _ => ?_)
    | with_reducible refine Fo.se (fun _ => ?_) (fun _ => ?_)
set_option maxHeartbeats 4000000 in
theorem fo_FX9_leadersFrom {P : Nat → Nat → Prop} {t : St} (x : Nat) (a : Int32) (b : Int32) (c : Int32) : Fo P t (FX9_leadersFrom x a b c t) := by
  unfold FX9_leadersFrom
  repeat' first
    | with_reducible exact Fo.ret
    | with_reducible exact Fo.no
    | with_reducible refine Fo.wh (fun cc ss => fo_SX9_leadersFrom_6 _ _ _ _ cc)
    | with_reducible refine Fo.bd ?_ (fun _ _ => ?_)
    | with_reducible refine Fo.ck (fun _ => ?_)
    | with_reducible refine Fo.ite ?_ ?_
    | with_reducible refine Fo.rd (fun _ => ?_)
    | with_reducible refine Fo.oe ?_ (fun _ => ?_)
    | with_reducible refine Fo.se (fun _ => ?_) (fun _ => ?_)
set_option maxHeartbeats 4000000 in
theorem fo_SX9_find_77 {P : Nat → Nat → Prop} {t : St} (x1 : Nat) (w2 : Int32) (x3 : Nat) (c : Int32 × Int32) (hP : ∀ c i, P c i → c ≠ x3 + 1) : Fo P t (SX9_find_77 x1 w2 x3 c t) := by
  unfold SX9_find_77
  repeat' first
    | with_reducible exact Fo.ret
    | with_reducible exact Fo.no
    | with_reducible exact fo_FX9_leadersFrom _ _ _ _
    | with_reducible exact fo_FX9_lowest _
    | with_reducible refine Fo.bd ?_ (fun _ _ => ?_)
    | with_reducible refine Fo.ck (fun _ => ?_)
    | with_reducible refine Fo.ite ?_ ?_
    | with_reducible refine Fo.rd (fun _ => ?_)
    | with_reducible refine Fo.wr (fun c i h => by have hh := hP c i h; first | exact hh | (intro e; exact absurd e hh) | omega | (have := net_q (by assumption); omega) | (have := net_q (x := el 10 _) (by assumption); omega) | (have := find_q (by assumption); omega) | (have := finds_q (by assumption); omega)) (fun _ => ?_)
    | with_reducible refine Fo.cp (fun c i h => by have hh := hP c i h; first | exact hh | (intro e; exact absurd e hh) | omega | (have := net_q (by assumption); omega) | (have := net_q (x := el 10 _) (by assumption); omega)) (fun _ => ?_)
    | with_reducible refine Fo.oe ?_ (fun _ => ?_)
    | with_reducible refine Fo.se (fun _ => ?_) (fun _ => ?_)
set_option maxHeartbeats 4000000 in
theorem fo_FX9_find {P : Nat → Nat → Prop} {t : St} (x : Nat) (a : Int32) (z : Nat) (hP : ∀ c i, P c i → c ≠ 85 ∧ c ≠ 87 ∧ c ≠ 88 ∧ c ≠ 89 ∧ c ≠ z ∧ c ≠ z + 1) : Fo P t (FX9_find x a z t) := by
  unfold FX9_find
  repeat' first
    | with_reducible exact Fo.ret
    | with_reducible exact Fo.no
    | with_reducible exact fo_FX9_fillSteps _ _ _ (fun c i h => by have hh := hP c i h; first | exact hh | (obtain ⟨g0, g1, g2, g3, g4, g5⟩ := hh; and_intros <;> first | assumption | (intro e; exact absurd e (by assumption))) | omega | (have := net_q (by assumption); omega) | (have := net_q (x := el 10 _) (by assumption); omega) | (have := find_q (by assumption); omega) | (have := finds_q (by assumption); omega))
    | with_reducible exact fo_FX9_fillRest _ _ _ _ (fun c i h => by have hh := hP c i h; first | exact hh | (obtain ⟨g0, g1, g2, g3, g4, g5⟩ := hh; and_intros <;> first | assumption | (intro e; exact absurd e (by assumption))) | omega | (have := net_q (by assumption); omega) | (have := net_q (x := el 10 _) (by assumption); omega) | (have := find_q (by assumption); omega) | (have := finds_q (by assumption); omega))
    | with_reducible exact fo_FX9_countRows _ _ _ (fun c i h => by have hh := hP c i h; first | exact hh | (obtain ⟨g0, g1, g2, g3, g4, g5⟩ := hh; and_intros <;> first | assumption | (intro e; exact absurd e (by assumption))) | omega | (have := net_q (by assumption); omega) | (have := net_q (x := el 10 _) (by assumption); omega) | (have := find_q (by assumption); omega) | (have := finds_q (by assumption); omega))
    | with_reducible exact fo_FX9_leadersFrom _ _ _ _
    | with_reducible refine Fo.wh (fun cc ss => fo_SX9_find_77 _ _ _ cc (fun c i h => by have hh := hP c i h; first | exact hh | (obtain ⟨g0, g1, g2, g3, g4, g5⟩ := hh; and_intros <;> first | assumption | (intro e; exact absurd e (by assumption))) | omega | (have := net_q (by assumption); omega) | (have := net_q (x := el 10 _) (by assumption); omega) | (have := find_q (by assumption); omega) | (have := finds_q (by assumption); omega)))
    | with_reducible refine Fo.bd ?_ (fun _ _ => ?_)
    | with_reducible refine Fo.ck (fun _ => ?_)
    | with_reducible refine Fo.ite ?_ ?_
    | with_reducible refine Fo.rd (fun _ => ?_)
    | with_reducible refine Fo.wr (fun c i h => by have hh := hP c i h; first | exact hh | (obtain ⟨g0, g1, g2, g3, g4, g5⟩ := hh; and_intros <;> first | assumption | (intro e; exact absurd e (by assumption))) | omega | (have := net_q (by assumption); omega) | (have := net_q (x := el 10 _) (by assumption); omega) | (have := find_q (by assumption); omega) | (have := finds_q (by assumption); omega)) (fun _ => ?_)
    | with_reducible refine Fo.cp (fun c i h => by have hh := hP c i h; first | exact hh | (obtain ⟨g0, g1, g2, g3, g4, g5⟩ := hh; and_intros <;> first | assumption | (intro e; exact absurd e (by assumption))) | omega | (have := net_q (by assumption); omega) | (have := net_q (x := el 10 _) (by assumption); omega)) (fun _ => ?_)
    | with_reducible refine Fo.oe ?_ (fun _ => ?_)
    | with_reducible refine Fo.se (fun _ => ?_) (fun _ => ?_)
set_option maxHeartbeats 4000000 in
theorem fo_FX9_leastWhere {P : Nat → Nat → Prop} {t : St} (x : Nat) (a : Int32) (b : Int32) (c : Int32) (hP : ∀ c i, P c i → c ≠ 85 ∧ c ≠ 86 ∧ c ≠ 87 ∧ c ≠ 88) : Fo P t (FX9_leastWhere x a b c t) := by
  unfold FX9_leastWhere
  repeat' first
    | with_reducible exact Fo.ret
    | with_reducible exact Fo.no
    | with_reducible exact fo_FX9_fillSteps _ _ _ (fun c i h => by have hh := hP c i h; first | exact hh | (obtain ⟨g0, g1, g2, g3⟩ := hh; and_intros <;> first | assumption | (intro e; exact absurd e (by assumption))) | omega | (have := net_q (by assumption); omega) | (have := net_q (x := el 10 _) (by assumption); omega) | (have := find_q (by assumption); omega) | (have := finds_q (by assumption); omega))
    | with_reducible exact fo_FX9_fillRest _ _ _ _ (fun c i h => by have hh := hP c i h; first | exact hh | (obtain ⟨g0, g1, g2, g3⟩ := hh; and_intros <;> first | assumption | (intro e; exact absurd e (by assumption))) | omega | (have := net_q (by assumption); omega) | (have := net_q (x := el 10 _) (by assumption); omega) | (have := find_q (by assumption); omega) | (have := finds_q (by assumption); omega))
    | with_reducible refine Fo.bd ?_ (fun _ _ => ?_)
    | with_reducible refine Fo.ck (fun _ => ?_)
    | with_reducible refine Fo.ite ?_ ?_
    | with_reducible refine Fo.rd (fun _ => ?_)
    | with_reducible refine Fo.wr (fun c i h => by have hh := hP c i h; first | exact hh | (obtain ⟨g0, g1, g2, g3⟩ := hh; and_intros <;> first | assumption | (intro e; exact absurd e (by assumption))) | omega | (have := net_q (by assumption); omega) | (have := net_q (x := el 10 _) (by assumption); omega) | (have := find_q (by assumption); omega) | (have := finds_q (by assumption); omega)) (fun _ => ?_)
    | with_reducible refine Fo.cp (fun c i h => by have hh := hP c i h; first | exact hh | (obtain ⟨g0, g1, g2, g3⟩ := hh; and_intros <;> first | assumption | (intro e; exact absurd e (by assumption))) | omega | (have := net_q (by assumption); omega) | (have := net_q (x := el 10 _) (by assumption); omega)) (fun _ => ?_)
    | with_reducible refine Fo.oe ?_ (fun _ => ?_)
    | with_reducible refine Fo.se (fun _ => ?_) (fun _ => ?_)
set_option maxHeartbeats 4000000 in
theorem fo_FX9_rowsWithin {P : Nat → Nat → Prop} {t : St} (x : Nat) (a : Int32) (b : Int32) (hP : ∀ c i, P c i → c ≠ 85 ∧ c ≠ 87 ∧ c ≠ 89) : Fo P t (FX9_rowsWithin x a b t) := by
  unfold FX9_rowsWithin
  repeat' first
    | with_reducible exact Fo.ret
    | with_reducible exact Fo.no
    | with_reducible exact fo_FX9_fillSteps _ _ _ (fun c i h => by have hh := hP c i h; first | exact hh | (obtain ⟨g0, g1, g2⟩ := hh; and_intros <;> first | assumption | (intro e; exact absurd e (by assumption))) | omega | (have := net_q (by assumption); omega) | (have := net_q (x := el 10 _) (by assumption); omega) | (have := find_q (by assumption); omega) | (have := finds_q (by assumption); omega))
    | with_reducible exact fo_FX9_countRows _ _ _ (fun c i h => by have hh := hP c i h; first | exact hh | (obtain ⟨g0, g1, g2⟩ := hh; and_intros <;> first | assumption | (intro e; exact absurd e (by assumption))) | omega | (have := net_q (by assumption); omega) | (have := net_q (x := el 10 _) (by assumption); omega) | (have := find_q (by assumption); omega) | (have := finds_q (by assumption); omega))
    | with_reducible refine Fo.bd ?_ (fun _ _ => ?_)
    | with_reducible refine Fo.ck (fun _ => ?_)
    | with_reducible refine Fo.ite ?_ ?_
    | with_reducible refine Fo.rd (fun _ => ?_)
    | with_reducible refine Fo.wr (fun c i h => by have hh := hP c i h; first | exact hh | (obtain ⟨g0, g1, g2⟩ := hh; and_intros <;> first | assumption | (intro e; exact absurd e (by assumption))) | omega | (have := net_q (by assumption); omega) | (have := net_q (x := el 10 _) (by assumption); omega) | (have := find_q (by assumption); omega) | (have := finds_q (by assumption); omega)) (fun _ => ?_)
    | with_reducible refine Fo.cp (fun c i h => by have hh := hP c i h; first | exact hh | (obtain ⟨g0, g1, g2⟩ := hh; and_intros <;> first | assumption | (intro e; exact absurd e (by assumption))) | omega | (have := net_q (by assumption); omega) | (have := net_q (x := el 10 _) (by assumption); omega)) (fun _ => ?_)
    | with_reducible refine Fo.oe ?_ (fun _ => ?_)
    | with_reducible refine Fo.se (fun _ => ?_) (fun _ => ?_)
set_option maxHeartbeats 4000000 in
theorem fo_FX11_isSlot {P : Nat → Nat → Prop} {t : St} (a : Int32) : Fo P t (FX11_isSlot a t) := by
  unfold FX11_isSlot
  repeat' first
    | with_reducible exact Fo.ret
    | with_reducible exact Fo.no
    | with_reducible refine Fo.bd ?_ (fun _ _ => ?_)
    | with_reducible refine Fo.ck (fun _ => ?_)
    | with_reducible refine Fo.ite ?_ ?_
    | with_reducible refine Fo.rd (fun _ => ?_)
    | with_reducible refine Fo.oe ?_ (fun _ => ?_)
    | with_reducible refine Fo.se (fun _ => ?_) (fun _ => ?_)
set_option maxHeartbeats 4000000 in
theorem fo_FX11_netIn {P : Nat → Nat → Prop} {t : St} (a : Int32) : Fo P t (FX11_netIn a t) := by
  unfold FX11_netIn
  repeat' first
    | with_reducible exact Fo.ret
    | with_reducible exact Fo.no
    | with_reducible exact fo_FX11_isSlot _
    | with_reducible refine Fo.bd ?_ (fun _ _ => ?_)
    | with_reducible refine Fo.ck (fun _ => ?_)
    | with_reducible refine Fo.ite ?_ ?_
    | with_reducible refine Fo.rd (fun _ => ?_)
    | with_reducible refine Fo.oe ?_ (fun _ => ?_)
    | with_reducible refine Fo.se (fun _ => ?_) (fun _ => ?_)
set_option maxHeartbeats 4000000 in
theorem fo_FX11_noteAct {P : Nat → Nat → Prop} {t : St} (a : Int32) (hP : ∀ c i, P c i → c ≠ 98 ∧ c ≠ 99 ∧ (c < 6 ∨ 149 ≤ c)) : Fo P t (FX11_noteAct a t) := by
  unfold FX11_noteAct
  repeat' first
    | with_reducible exact Fo.ret
    | with_reducible exact Fo.no
    | with_reducible exact fo_FX5_sameAs _ _
    | with_reducible exact fo_FX4_remember _ _ (fun c i h => by have hh := hP c i h; first | omega | (have := net_q (by assumption); omega) | (have := net_q (x := el 10 _) (by assumption); omega) | (have := find_q (by assumption); omega) | (have := finds_q (by assumption); omega))
    | with_reducible refine Fo.bd ?_ (fun _ _ => ?_)
    | with_reducible refine Fo.ck (fun _ => ?_)
    | with_reducible refine Fo.ite ?_ ?_
    | with_reducible refine Fo.rd (fun _ => ?_)
    | with_reducible refine Fo.wr (fun c i h => by have hh := hP c i h; first | omega | (have := net_q (by assumption); omega) | (have := net_q (x := el 10 _) (by assumption); omega) | (have := find_q (by assumption); omega) | (have := finds_q (by assumption); omega)) (fun _ => ?_)
    | with_reducible refine Fo.cp (fun c i h => by have hh := hP c i h; first | omega | (have := net_q (by assumption); omega) | (have := net_q (x := el 10 _) (by assumption); omega)) (fun _ => ?_)
    | with_reducible refine Fo.oe ?_ (fun _ => ?_)
    | with_reducible refine Fo.se (fun _ => ?_) (fun _ => ?_)
set_option maxHeartbeats 4000000 in
theorem fo_FX11_adds {P : Nat → Nat → Prop} {t : St} (a : Int32) (b : Int32) (c : Int32) (d : Int32) (hP : ∀ c i, P c i → c ≠ 98 ∧ c ≠ 99 ∧ c ≠ 141 ∧ c ≠ 142 ∧ c ≠ 143 ∧ c ≠ 144 ∧ (c < 6 ∨ 149 ≤ c)) : Fo P t (FX11_adds a b c d t) := by
  unfold FX11_adds
  repeat' first
    | with_reducible exact Fo.ret
    | with_reducible exact Fo.no
    | with_reducible exact fo_FX11_netIn _
    | with_reducible exact fo_FX5_hasTwo _ _ _
    | with_reducible exact fo_FX5_weightOf _ _ _
    | with_reducible exact fo_FX5_copyFrom _ _ (fun c i h => by have hh := hP c i h; first | omega | (have := net_q (by assumption); omega) | (have := net_q (x := el 10 _) (by assumption); omega) | (have := find_q (by assumption); omega) | (have := finds_q (by assumption); omega))
    | with_reducible exact fo_FX5_setWeight _ _ _ _ (fun c i h => by have hh := hP c i h; first | omega | (have := net_q (by assumption); omega) | (have := net_q (x := el 10 _) (by assumption); omega) | (have := find_q (by assumption); omega) | (have := finds_q (by assumption); omega))
    | with_reducible exact fo_FX11_noteAct _ (fun c i h => by have hh := hP c i h; first | omega | (have := net_q (by assumption); omega) | (have := net_q (x := el 10 _) (by assumption); omega) | (have := find_q (by assumption); omega) | (have := finds_q (by assumption); omega))
    | with_reducible refine Fo.bd ?_ (fun _ _ => ?_)
    | with_reducible refine Fo.ck (fun _ => ?_)
    | with_reducible refine Fo.ite ?_ ?_
    | with_reducible refine Fo.rd (fun _ => ?_)
    | with_reducible refine Fo.wr (fun c i h => by have hh := hP c i h; first | omega | (have := net_q (by assumption); omega) | (have := net_q (x := el 10 _) (by assumption); omega) | (have := find_q (by assumption); omega) | (have := finds_q (by assumption); omega)) (fun _ => ?_)
    | with_reducible refine Fo.cp (fun c i h => by have hh := hP c i h; first | omega | (have := net_q (by assumption); omega) | (have := net_q (x := el 10 _) (by assumption); omega)) (fun _ => ?_)
    | with_reducible refine Fo.oe ?_ (fun _ => ?_)
    | with_reducible refine Fo.se (fun _ => ?_) (fun _ => ?_)
set_option maxHeartbeats 4000000 in
theorem fo_FX11_isMeasure {P : Nat → Nat → Prop} {t : St} (a : Int32) : Fo P t (FX11_isMeasure a t) := by
  unfold FX11_isMeasure
  repeat' first
    | with_reducible exact Fo.ret
    | with_reducible exact Fo.no
    | with_reducible refine Fo.bd ?_ (fun _ _ => ?_)
    | with_reducible refine Fo.ck (fun _ => ?_)
    | with_reducible refine Fo.ite ?_ ?_
    | with_reducible refine Fo.rd (fun _ => ?_)
    | with_reducible refine Fo.oe ?_ (fun _ => ?_)
    | with_reducible refine Fo.se (fun _ => ?_) (fun _ => ?_)
set_option maxHeartbeats 4000000 in
theorem fo_FX11_findingOf {P : Nat → Nat → Prop} {t : St} (a : Int32) (b : Int32) (hP : ∀ c i, P c i → c ≠ 85 ∧ c ≠ 87 ∧ c ≠ 88 ∧ c ≠ 89 ∧ c ≠ 91 ∧ c ≠ 92 ∧ c ≠ 93 ∧ c ≠ 94 ∧ c ≠ 95 ∧ c ≠ 96 ∧ c ≠ 97 ∧ (c < 6 ∨ 149 ≤ c)) : Fo P t (FX11_findingOf a b t) := by
  unfold FX11_findingOf
  repeat' first
    | with_reducible exact Fo.ret
    | with_reducible exact Fo.no
    | with_reducible exact fo_FX11_netIn _
    | with_reducible exact fo_FX11_isMeasure _
    | with_reducible exact fo_FX3_turnTo _ _ (fun c i h => by have hh := hP c i h; first | omega | (have := net_q (by assumption); omega) | (have := net_q (x := el 10 _) (by assumption); omega) | (have := find_q (by assumption); omega) | (have := finds_q (by assumption); omega))
    | with_reducible exact fo_FX0_find _ _ (fun c i h => by have hh := hP c i h; first | omega | (have := net_q (by assumption); omega) | (have := net_q (x := el 10 _) (by assumption); omega) | (have := find_q (by assumption); omega) | (have := finds_q (by assumption); omega))
    | with_reducible exact fo_FX9_find _ _ _ (fun c i h => by have hh := hP c i h; first | omega | (have := net_q (by assumption); omega) | (have := net_q (x := el 10 _) (by assumption); omega) | (have := find_q (by assumption); omega) | (have := finds_q (by assumption); omega))
    | with_reducible refine Fo.bd ?_ (fun _ _ => ?_)
    | with_reducible refine Fo.ck (fun _ => ?_)
    | with_reducible refine Fo.ite ?_ ?_
    | with_reducible refine Fo.rd (fun _ => ?_)
    | with_reducible refine Fo.wr (fun c i h => by have hh := hP c i h; first | omega | (have := net_q (by assumption); omega) | (have := net_q (x := el 10 _) (by assumption); omega) | (have := find_q (by assumption); omega) | (have := finds_q (by assumption); omega)) (fun _ => ?_)
    | with_reducible refine Fo.cp (fun c i h => by have hh := hP c i h; first | omega | (have := net_q (by assumption); omega) | (have := net_q (x := el 10 _) (by assumption); omega)) (fun _ => ?_)
    | with_reducible refine Fo.oe ?_ (fun _ => ?_)
    | with_reducible refine Fo.se (fun _ => ?_) (fun _ => ?_)
set_option maxHeartbeats 4000000 in
theorem fo_FX11_isBounded {P : Nat → Nat → Prop} {t : St} (a : Int32) : Fo P t (FX11_isBounded a t) := by
  unfold FX11_isBounded
  repeat' first
    | with_reducible exact Fo.ret
    | with_reducible exact Fo.no
    | with_reducible refine Fo.bd ?_ (fun _ _ => ?_)
    | with_reducible refine Fo.ck (fun _ => ?_)
    | with_reducible refine Fo.ite ?_ ?_
    | with_reducible refine Fo.rd (fun _ => ?_)
    | with_reducible refine Fo.oe ?_ (fun _ => ?_)
    | with_reducible refine Fo.se (fun _ => ?_) (fun _ => ?_)
set_option maxHeartbeats 4000000 in
theorem fo_FX11_isPriced {P : Nat → Nat → Prop} {t : St} (a : Int32) : Fo P t (FX11_isPriced a t) := by
  unfold FX11_isPriced
  repeat' first
    | with_reducible exact Fo.ret
    | with_reducible exact Fo.no
    | with_reducible exact fo_FX11_isMeasure _
    | with_reducible refine Fo.bd ?_ (fun _ _ => ?_)
    | with_reducible refine Fo.ck (fun _ => ?_)
    | with_reducible refine Fo.ite ?_ ?_
    | with_reducible refine Fo.rd (fun _ => ?_)
    | with_reducible refine Fo.oe ?_ (fun _ => ?_)
    | with_reducible refine Fo.se (fun _ => ?_) (fun _ => ?_)
set_option maxHeartbeats 4000000 in
theorem fo_FX11_among {P : Nat → Nat → Prop} {t : St} (a : Int32) (b : Int32) (c : Int32) (hP : ∀ c i, P c i → c ≠ 85 ∧ c ≠ 86 ∧ c ≠ 87 ∧ c ≠ 88 ∧ c ≠ 89 ∧ c ≠ 91 ∧ c ≠ 92 ∧ c ≠ 93 ∧ c ≠ 94 ∧ c ≠ 95 ∧ c ≠ 96 ∧ c ≠ 97 ∧ (c < 6 ∨ 149 ≤ c)) : Fo P t (FX11_among a b c t) := by
  unfold FX11_among
  repeat' first
    | with_reducible exact Fo.ret
    | with_reducible exact Fo.no
    | with_reducible exact fo_FX11_findingOf _ _ (fun c i h => by have hh := hP c i h; first | omega | (have := net_q (by assumption); omega) | (have := net_q (x := el 10 _) (by assumption); omega) | (have := find_q (by assumption); omega) | (have := finds_q (by assumption); omega))
    | with_reducible exact fo_FX11_isBounded _
    | with_reducible exact fo_FX11_isPriced _
    | with_reducible exact fo_FX9_leastWhere _ _ _ _ (fun c i h => by have hh := hP c i h; first | omega | (have := net_q (by assumption); omega) | (have := net_q (x := el 10 _) (by assumption); omega) | (have := find_q (by assumption); omega) | (have := finds_q (by assumption); omega))
    | with_reducible refine Fo.bd ?_ (fun _ _ => ?_)
    | with_reducible refine Fo.ck (fun _ => ?_)
    | with_reducible refine Fo.ite ?_ ?_
    | with_reducible refine Fo.rd (fun _ => ?_)
    | with_reducible refine Fo.wr (fun c i h => by have hh := hP c i h; first | omega | (have := net_q (by assumption); omega) | (have := net_q (x := el 10 _) (by assumption); omega) | (have := find_q (by assumption); omega) | (have := finds_q (by assumption); omega)) (fun _ => ?_)
    | with_reducible refine Fo.cp (fun c i h => by have hh := hP c i h; first | omega | (have := net_q (by assumption); omega) | (have := net_q (x := el 10 _) (by assumption); omega)) (fun _ => ?_)
    | with_reducible refine Fo.oe ?_ (fun _ => ?_)
    | with_reducible refine Fo.se (fun _ => ?_) (fun _ => ?_)
set_option maxHeartbeats 4000000 in
theorem fo_FX11_bag {P : Nat → Nat → Prop} {t : St} (a : Int32) (b : Int32) (c : Int32) : Fo P t (FX11_bag a b c t) := by
  unfold FX11_bag
  repeat' first
    | with_reducible exact Fo.ret
    | with_reducible exact Fo.no
    | with_reducible exact fo_FX11_netIn _
    | with_reducible exact fo_FX5_has _ _
    | with_reducible exact fo_FX8_bagGoing _ _
    | with_reducible exact fo_FX8_bagTaken _ _
    | with_reducible refine Fo.bd ?_ (fun _ _ => ?_)
    | with_reducible refine Fo.ck (fun _ => ?_)
    | with_reducible refine Fo.ite ?_ ?_
    | with_reducible refine Fo.rd (fun _ => ?_)
    | with_reducible refine Fo.oe ?_ (fun _ => ?_)
    | with_reducible refine Fo.se (fun _ => ?_) (fun _ => ?_)
set_option maxHeartbeats 4000000 in
theorem fo_FX11_best {P : Nat → Nat → Prop} {t : St} (a : Int32) (b : Int32) (c : Int32) (hP : ∀ c i, P c i → c ≠ 85 ∧ c ≠ 87 ∧ c ≠ 88 ∧ c ≠ 89 ∧ c ≠ 91 ∧ c ≠ 92 ∧ c ≠ 93 ∧ c ≠ 94 ∧ c ≠ 95 ∧ c ≠ 96 ∧ c ≠ 97 ∧ (c < 6 ∨ 149 ≤ c)) : Fo P t (FX11_best a b c t) := by
  unfold FX11_best
  repeat' first
    | with_reducible exact Fo.ret
    | with_reducible exact Fo.no
    | with_reducible exact fo_FX11_findingOf _ _ (fun c i h => by have hh := hP c i h; first | omega | (have := net_q (by assumption); omega) | (have := net_q (x := el 10 _) (by assumption); omega) | (have := find_q (by assumption); omega) | (have := finds_q (by assumption); omega))
    | with_reducible exact fo_FX5_has _ _
    | with_reducible refine Fo.bd ?_ (fun _ _ => ?_)
    | with_reducible refine Fo.ck (fun _ => ?_)
    | with_reducible refine Fo.ite ?_ ?_
    | with_reducible refine Fo.rd (fun _ => ?_)
    | with_reducible refine Fo.wr (fun c i h => by have hh := hP c i h; first | omega | (have := net_q (by assumption); omega) | (have := net_q (x := el 10 _) (by assumption); omega) | (have := find_q (by assumption); omega) | (have := finds_q (by assumption); omega)) (fun _ => ?_)
    | with_reducible refine Fo.cp (fun c i h => by have hh := hP c i h; first | omega | (have := net_q (by assumption); omega) | (have := net_q (x := el 10 _) (by assumption); omega)) (fun _ => ?_)
    | with_reducible refine Fo.oe ?_ (fun _ => ?_)
    | with_reducible refine Fo.se (fun _ => ?_) (fun _ => ?_)
set_option maxHeartbeats 4000000 in
theorem fo_FX11_bound {P : Nat → Nat → Prop} {t : St} (a : Int32) (b : Int32) (c : Int32) : Fo P t (FX11_bound a b c t) := by
  unfold FX11_bound
  repeat' first
    | with_reducible exact Fo.ret
    | with_reducible exact Fo.no
    | with_reducible exact fo_FX11_netIn _
    | with_reducible exact fo_FX11_isBounded _
    | with_reducible exact fo_FX10_ballBound _
    | with_reducible exact fo_FX10_lineBound _ _
    | with_reducible refine Fo.bd ?_ (fun _ _ => ?_)
    | with_reducible refine Fo.ck (fun _ => ?_)
    | with_reducible refine Fo.ite ?_ ?_
    | with_reducible refine Fo.rd (fun _ => ?_)
    | with_reducible refine Fo.oe ?_ (fun _ => ?_)
    | with_reducible refine Fo.se (fun _ => ?_) (fun _ => ?_)
set_option maxHeartbeats 4000000 in
theorem fo_SX11_filledSlots_4 {P : Nat → Nat → Prop} {t : St} (c : Int32 × Int32) : Fo P t (SX11_filledSlots_4 c t) := by
  unfold SX11_filledSlots_4
  repeat' first
    | with_reducible exact Fo.ret
    | with_reducible exact Fo.no
    | with_reducible refine Fo.bd ?_ (fun _ _ => ?_)
    | with_reducible refine Fo.ck (fun _ => ?_)
    | with_reducible refine Fo.ite ?_ ?_
    | with_reducible refine Fo.rd (fun _ => ?_)
    | with_reducible refine Fo.oe ?_ (fun _ => ?_)
    | with_reducible refine Fo.se (fun _ => ?_) (fun _ => ?_)
set_option maxHeartbeats 4000000 in
theorem fo_FX11_filledSlots {P : Nat → Nat → Prop} {t : St} : Fo P t (FX11_filledSlots t) := by
  unfold FX11_filledSlots
  repeat' first
    | with_reducible exact Fo.ret
    | with_reducible exact Fo.no
    | with_reducible refine Fo.wh (fun cc ss => fo_SX11_filledSlots_4 cc)
    | with_reducible refine Fo.bd ?_ (fun _ _ => ?_)
    | with_reducible refine Fo.ck (fun _ => ?_)
    | with_reducible refine Fo.ite ?_ ?_
    | with_reducible refine Fo.rd (fun _ => ?_)
    | with_reducible refine Fo.oe ?_ (fun _ => ?_)
    | with_reducible refine Fo.se (fun _ => ?_) (fun _ => ?_)
set_option maxHeartbeats 4000000 in
theorem fo_FX11_count {P : Nat → Nat → Prop} {t : St} (a : Int32) : Fo P t (FX11_count a t) := by
  unfold FX11_count
  repeat' first
    | with_reducible exact Fo.ret
    | with_reducible exact Fo.no
    | with_reducible exact fo_FX11_filledSlots
    | with_reducible refine Fo.bd ?_ (fun _ _ => ?_)
    | with_reducible refine Fo.ck (fun _ => ?_)
    | with_reducible refine Fo.ite ?_ ?_
    | with_reducible refine Fo.rd (fun _ => ?_)
    | with_reducible refine Fo.oe ?_ (fun _ => ?_)
    | with_reducible refine Fo.se (fun _ => ?_) (fun _ => ?_)
set_option maxHeartbeats 4000000 in
theorem fo_FX11_cuts {P : Nat → Nat → Prop} {t : St} (a : Int32) (b : Int32) (c : Int32) (hP : ∀ c i, P c i → c ≠ 98 ∧ c ≠ 99 ∧ c ≠ 141 ∧ c ≠ 142 ∧ c ≠ 143 ∧ c ≠ 144 ∧ (c < 6 ∨ 149 ≤ c)) : Fo P t (FX11_cuts a b c t) := by
  unfold FX11_cuts
  repeat' first
    | with_reducible exact Fo.ret
    | with_reducible exact Fo.no
    | with_reducible exact fo_FX11_netIn _
    | with_reducible exact fo_FX5_hasTwo _ _ _
    | with_reducible exact fo_FX5_weightOf _ _ _
    | with_reducible exact fo_FX5_copyFrom _ _ (fun c i h => by have hh := hP c i h; first | omega | (have := net_q (by assumption); omega) | (have := net_q (x := el 10 _) (by assumption); omega) | (have := find_q (by assumption); omega) | (have := finds_q (by assumption); omega))
    | with_reducible exact fo_FX5_setWeight _ _ _ _ (fun c i h => by have hh := hP c i h; first | omega | (have := net_q (by assumption); omega) | (have := net_q (x := el 10 _) (by assumption); omega) | (have := find_q (by assumption); omega) | (have := finds_q (by assumption); omega))
    | with_reducible exact fo_FX11_noteAct _ (fun c i h => by have hh := hP c i h; first | omega | (have := net_q (by assumption); omega) | (have := net_q (x := el 10 _) (by assumption); omega) | (have := find_q (by assumption); omega) | (have := finds_q (by assumption); omega))
    | with_reducible refine Fo.bd ?_ (fun _ _ => ?_)
    | with_reducible refine Fo.ck (fun _ => ?_)
    | with_reducible refine Fo.ite ?_ ?_
    | with_reducible refine Fo.rd (fun _ => ?_)
    | with_reducible refine Fo.wr (fun c i h => by have hh := hP c i h; first | omega | (have := net_q (by assumption); omega) | (have := net_q (x := el 10 _) (by assumption); omega) | (have := find_q (by assumption); omega) | (have := finds_q (by assumption); omega)) (fun _ => ?_)
    | with_reducible refine Fo.cp (fun c i h => by have hh := hP c i h; first | omega | (have := net_q (by assumption); omega) | (have := net_q (x := el 10 _) (by assumption); omega)) (fun _ => ?_)
    | with_reducible refine Fo.oe ?_ (fun _ => ?_)
    | with_reducible refine Fo.se (fun _ => ?_) (fun _ => ?_)
set_option maxHeartbeats 4000000 in
theorem fo_FX11_drops {P : Nat → Nat → Prop} {t : St} (a : Int32) (hP : ∀ c i, P c i → c ≠ 98 ∧ c ≠ 99 ∧ c ≠ 141 ∧ c ≠ 142 ∧ c ≠ 143 ∧ c ≠ 144 ∧ (c < 6 ∨ 149 ≤ c)) : Fo P t (FX11_drops a t) := by
  unfold FX11_drops
  repeat' first
    | with_reducible exact Fo.ret
    | with_reducible exact Fo.no
    | with_reducible exact fo_FX11_isSlot _
    | with_reducible exact fo_FX5_copyFrom _ _ (fun c i h => by have hh := hP c i h; first | omega | (have := net_q (by assumption); omega) | (have := net_q (x := el 10 _) (by assumption); omega) | (have := find_q (by assumption); omega) | (have := finds_q (by assumption); omega))
    | with_reducible exact fo_FX5_begin _ _ (fun c i h => by have hh := hP c i h; first | omega | (have := net_q (by assumption); omega) | (have := net_q (x := el 10 _) (by assumption); omega) | (have := find_q (by assumption); omega) | (have := finds_q (by assumption); omega))
    | with_reducible exact fo_FX11_noteAct _ (fun c i h => by have hh := hP c i h; first | omega | (have := net_q (by assumption); omega) | (have := net_q (x := el 10 _) (by assumption); omega) | (have := find_q (by assumption); omega) | (have := finds_q (by assumption); omega))
    | with_reducible refine Fo.bd ?_ (fun _ _ => ?_)
    | with_reducible refine Fo.ck (fun _ => ?_)
    | with_reducible refine Fo.ite ?_ ?_
    | with_reducible refine Fo.rd (fun _ => ?_)
    | with_reducible refine Fo.wr (fun c i h => by have hh := hP c i h; first | omega | (have := net_q (by assumption); omega) | (have := net_q (x := el 10 _) (by assumption); omega) | (have := find_q (by assumption); omega) | (have := finds_q (by assumption); omega)) (fun _ => ?_)
    | with_reducible refine Fo.cp (fun c i h => by have hh := hP c i h; first | omega | (have := net_q (by assumption); omega) | (have := net_q (x := el 10 _) (by assumption); omega)) (fun _ => ?_)
    | with_reducible refine Fo.oe ?_ (fun _ => ?_)
    | with_reducible refine Fo.se (fun _ => ?_) (fun _ => ?_)
set_option maxHeartbeats 4000000 in
theorem fo_FX11_far {P : Nat → Nat → Prop} {t : St} (a : Int32) (b : Int32) (c : Int32) : Fo P t (FX11_far a b c t) := by
  unfold FX11_far
  repeat' first
    | with_reducible exact Fo.ret
    | with_reducible exact Fo.no
    | with_reducible exact fo_FX11_netIn _
    | with_reducible exact fo_FX5_has _ _
    | with_reducible exact fo_FX10_distance _ _ _
    | with_reducible refine Fo.bd ?_ (fun _ _ => ?_)
    | with_reducible refine Fo.ck (fun _ => ?_)
    | with_reducible refine Fo.ite ?_ ?_
    | with_reducible refine Fo.rd (fun _ => ?_)
    | with_reducible refine Fo.oe ?_ (fun _ => ?_)
    | with_reducible refine Fo.se (fun _ => ?_) (fun _ => ?_)
set_option maxHeartbeats 4000000 in
theorem fo_FX11_fault {P : Nat → Nat → Prop} {t : St} (a : Int32) : Fo P t (FX11_fault a t) := by
  unfold FX11_fault
  repeat' first
    | with_reducible exact Fo.ret
    | with_reducible exact Fo.no
    | with_reducible refine Fo.bd ?_ (fun _ _ => ?_)
    | with_reducible refine Fo.ck (fun _ => ?_)
    | with_reducible refine Fo.ite ?_ ?_
    | with_reducible refine Fo.rd (fun _ => ?_)
    | with_reducible refine Fo.oe ?_ (fun _ => ?_)
    | with_reducible refine Fo.se (fun _ => ?_) (fun _ => ?_)
set_option maxHeartbeats 4000000 in
theorem fo_FX11_filled {P : Nat → Nat → Prop} {t : St} (a : Int32) (b : Int32) : Fo P t (FX11_filled a b t) := by
  unfold FX11_filled
  repeat' first
    | with_reducible exact Fo.ret
    | with_reducible exact Fo.no
    | with_reducible exact fo_FX11_netIn _
    | with_reducible exact fo_FX8_newLine _ _
    | with_reducible refine Fo.bd ?_ (fun _ _ => ?_)
    | with_reducible refine Fo.ck (fun _ => ?_)
    | with_reducible refine Fo.ite ?_ ?_
    | with_reducible refine Fo.rd (fun _ => ?_)
    | with_reducible refine Fo.oe ?_ (fun _ => ?_)
    | with_reducible refine Fo.se (fun _ => ?_) (fun _ => ?_)
set_option maxHeartbeats 4000000 in
theorem fo_FX11_firsts {P : Nat → Nat → Prop} {t : St} (a : Int32) (b : Int32) (hP : ∀ c i, P c i → c ≠ 85 ∧ c ≠ 87 ∧ c ≠ 88 ∧ c ≠ 89 ∧ c ≠ 91 ∧ c ≠ 92 ∧ c ≠ 93 ∧ c ≠ 94 ∧ c ≠ 95 ∧ c ≠ 96 ∧ c ≠ 97 ∧ (c < 6 ∨ 149 ≤ c)) : Fo P t (FX11_firsts a b t) := by
  unfold FX11_firsts
  repeat' first
    | with_reducible exact Fo.ret
    | with_reducible exact Fo.no
    | with_reducible exact fo_FX11_findingOf _ _ (fun c i h => by have hh := hP c i h; first | omega | (have := net_q (by assumption); omega) | (have := net_q (x := el 10 _) (by assumption); omega) | (have := find_q (by assumption); omega) | (have := finds_q (by assumption); omega))
    | with_reducible refine Fo.bd ?_ (fun _ _ => ?_)
    | with_reducible refine Fo.ck (fun _ => ?_)
    | with_reducible refine Fo.ite ?_ ?_
    | with_reducible refine Fo.rd (fun _ => ?_)
    | with_reducible refine Fo.wr (fun c i h => by have hh := hP c i h; first | omega | (have := net_q (by assumption); omega) | (have := net_q (x := el 10 _) (by assumption); omega) | (have := find_q (by assumption); omega) | (have := finds_q (by assumption); omega)) (fun _ => ?_)
    | with_reducible refine Fo.cp (fun c i h => by have hh := hP c i h; first | omega | (have := net_q (by assumption); omega) | (have := net_q (x := el 10 _) (by assumption); omega)) (fun _ => ?_)
    | with_reducible refine Fo.oe ?_ (fun _ => ?_)
    | with_reducible refine Fo.se (fun _ => ?_) (fun _ => ?_)
set_option maxHeartbeats 4000000 in
theorem fo_FX11_gain {P : Nat → Nat → Prop} {t : St} (a : Int32) (b : Int32) (c : Int32) (d : Int32) (hP : ∀ c i, P c i → c ≠ 145 ∧ c ≠ 146 ∧ c ≠ 147 ∧ c ≠ 148) : Fo P t (FX11_gain a b c d t) := by
  unfold FX11_gain
  repeat' first
    | with_reducible exact Fo.ret
    | with_reducible exact Fo.no
    | with_reducible exact fo_FX11_netIn _
    | with_reducible exact fo_FX11_isMeasure _
    | with_reducible exact fo_FX5_has _ _
    | with_reducible exact fo_FX5_copyFrom _ _ (fun c i h => by have hh := hP c i h; first | exact hh | (obtain ⟨g0, g1, g2, g3⟩ := hh; and_intros <;> first | assumption | (intro e; exact absurd e (by assumption))) | omega | (have := net_q (by assumption); omega) | (have := net_q (x := el 10 _) (by assumption); omega) | (have := find_q (by assumption); omega) | (have := finds_q (by assumption); omega))
    | with_reducible exact fo_FX5_changeOver _ _ _ (fun c i h => by have hh := hP c i h; first | exact hh | (obtain ⟨g0, g1, g2, g3⟩ := hh; and_intros <;> first | assumption | (intro e; exact absurd e (by assumption))) | omega | (have := net_q (by assumption); omega) | (have := net_q (x := el 10 _) (by assumption); omega) | (have := find_q (by assumption); omega) | (have := finds_q (by assumption); omega))
    | with_reducible exact fo_FX8_measured _ _
    | with_reducible refine Fo.bd ?_ (fun _ _ => ?_)
    | with_reducible refine Fo.ck (fun _ => ?_)
    | with_reducible refine Fo.ite ?_ ?_
    | with_reducible refine Fo.rd (fun _ => ?_)
    | with_reducible refine Fo.wr (fun c i h => by have hh := hP c i h; first | exact hh | (obtain ⟨g0, g1, g2, g3⟩ := hh; and_intros <;> first | assumption | (intro e; exact absurd e (by assumption))) | omega | (have := net_q (by assumption); omega) | (have := net_q (x := el 10 _) (by assumption); omega) | (have := find_q (by assumption); omega) | (have := finds_q (by assumption); omega)) (fun _ => ?_)
    | with_reducible refine Fo.cp (fun c i h => by have hh := hP c i h; first | exact hh | (obtain ⟨g0, g1, g2, g3⟩ := hh; and_intros <;> first | assumption | (intro e; exact absurd e (by assumption))) | omega | (have := net_q (by assumption); omega) | (have := net_q (x := el 10 _) (by assumption); omega)) (fun _ => ?_)
    | with_reducible refine Fo.oe ?_ (fun _ => ?_)
    | with_reducible refine Fo.se (fun _ => ?_) (fun _ => ?_)
set_option maxHeartbeats 4000000 in
theorem fo_FX11_greedy {P : Nat → Nat → Prop} {t : St} (a : Int32) (b : Int32) (hP : ∀ c i, P c i → c ≠ 98 ∧ c ≠ 99 ∧ c ≠ 141 ∧ c ≠ 142 ∧ c ≠ 143 ∧ c ≠ 144 ∧ (c < 6 ∨ 149 ≤ c)) : Fo P t (FX11_greedy a b t) := by
  unfold FX11_greedy
  repeat' first
    | with_reducible exact Fo.ret
    | with_reducible exact Fo.no
    | with_reducible exact fo_FX11_netIn _
    | with_reducible exact fo_FX11_isPriced _
    | with_reducible exact fo_FX5_copyFrom _ _ (fun c i h => by have hh := hP c i h; first | omega | (have := net_q (by assumption); omega) | (have := net_q (x := el 10 _) (by assumption); omega) | (have := find_q (by assumption); omega) | (have := finds_q (by assumption); omega))
    | with_reducible exact fo_FX8_makeGreedy _ _ (fun c i h => by have hh := hP c i h; first | omega | (have := net_q (by assumption); omega) | (have := net_q (x := el 10 _) (by assumption); omega) | (have := find_q (by assumption); omega) | (have := finds_q (by assumption); omega))
    | with_reducible exact fo_FX11_noteAct _ (fun c i h => by have hh := hP c i h; first | omega | (have := net_q (by assumption); omega) | (have := net_q (x := el 10 _) (by assumption); omega) | (have := find_q (by assumption); omega) | (have := finds_q (by assumption); omega))
    | with_reducible exact fo_FX8_measured _ _
    | with_reducible refine Fo.bd ?_ (fun _ _ => ?_)
    | with_reducible refine Fo.ck (fun _ => ?_)
    | with_reducible refine Fo.ite ?_ ?_
    | with_reducible refine Fo.rd (fun _ => ?_)
    | with_reducible refine Fo.wr (fun c i h => by have hh := hP c i h; first | omega | (have := net_q (by assumption); omega) | (have := net_q (x := el 10 _) (by assumption); omega) | (have := find_q (by assumption); omega) | (have := finds_q (by assumption); omega)) (fun _ => ?_)
    | with_reducible refine Fo.cp (fun c i h => by have hh := hP c i h; first | omega | (have := net_q (by assumption); omega) | (have := net_q (x := el 10 _) (by assumption); omega)) (fun _ => ?_)
    | with_reducible refine Fo.oe ?_ (fun _ => ?_)
    | with_reducible refine Fo.se (fun _ => ?_) (fun _ => ?_)
set_option maxHeartbeats 4000000 in
theorem fo_FX11_halve {P : Nat → Nat → Prop} {t : St} (a : Int32) : Fo P t (FX11_halve a t) := by
  unfold FX11_halve
  repeat' first
    | with_reducible exact Fo.ret
    | with_reducible exact Fo.no
    | with_reducible exact fo_FX11_netIn _
    | with_reducible exact fo_FX10_thinnestHalf _
    | with_reducible refine Fo.bd ?_ (fun _ _ => ?_)
    | with_reducible refine Fo.ck (fun _ => ?_)
    | with_reducible refine Fo.ite ?_ ?_
    | with_reducible refine Fo.rd (fun _ => ?_)
    | with_reducible refine Fo.oe ?_ (fun _ => ?_)
    | with_reducible refine Fo.se (fun _ => ?_) (fun _ => ?_)
set_option maxHeartbeats 4000000 in
theorem fo_FX11_layers {P : Nat → Nat → Prop} {t : St} (a : Int32) (b : Int32) (hP : ∀ c i, P c i → c ≠ 98 ∧ c ≠ 99 ∧ c ≠ 141 ∧ c ≠ 142 ∧ c ≠ 143 ∧ c ≠ 144 ∧ (c < 6 ∨ 149 ≤ c)) : Fo P t (FX11_layers a b t) := by
  unfold FX11_layers
  repeat' first
    | with_reducible exact Fo.ret
    | with_reducible exact Fo.no
    | with_reducible exact fo_FX11_netIn _
    | with_reducible exact fo_FX5_has _ _
    | with_reducible exact fo_FX5_copyFrom _ _ (fun c i h => by have hh := hP c i h; first | omega | (have := net_q (by assumption); omega) | (have := net_q (x := el 10 _) (by assumption); omega) | (have := find_q (by assumption); omega) | (have := finds_q (by assumption); omega))
    | with_reducible exact fo_FX8_makeLayers _ _ (fun c i h => by have hh := hP c i h; first | omega | (have := net_q (by assumption); omega) | (have := net_q (x := el 10 _) (by assumption); omega) | (have := find_q (by assumption); omega) | (have := finds_q (by assumption); omega))
    | with_reducible exact fo_FX11_noteAct _ (fun c i h => by have hh := hP c i h; first | omega | (have := net_q (by assumption); omega) | (have := net_q (x := el 10 _) (by assumption); omega) | (have := find_q (by assumption); omega) | (have := finds_q (by assumption); omega))
    | with_reducible exact fo_FX5_placesUnlike _ _
    | with_reducible refine Fo.bd ?_ (fun _ _ => ?_)
    | with_reducible refine Fo.ck (fun _ => ?_)
    | with_reducible refine Fo.ite ?_ ?_
    | with_reducible refine Fo.rd (fun _ => ?_)
    | with_reducible refine Fo.wr (fun c i h => by have hh := hP c i h; first | omega | (have := net_q (by assumption); omega) | (have := net_q (x := el 10 _) (by assumption); omega) | (have := find_q (by assumption); omega) | (have := finds_q (by assumption); omega)) (fun _ => ?_)
    | with_reducible refine Fo.cp (fun c i h => by have hh := hP c i h; first | omega | (have := net_q (by assumption); omega) | (have := net_q (x := el 10 _) (by assumption); omega)) (fun _ => ?_)
    | with_reducible refine Fo.oe ?_ (fun _ => ?_)
    | with_reducible refine Fo.se (fun _ => ?_) (fun _ => ?_)
set_option maxHeartbeats 4000000 in
theorem fo_FX11_least {P : Nat → Nat → Prop} {t : St} (a : Int32) (b : Int32) (hP : ∀ c i, P c i → c ≠ 85 ∧ c ≠ 87 ∧ c ≠ 88 ∧ c ≠ 89 ∧ c ≠ 91 ∧ c ≠ 92 ∧ c ≠ 93 ∧ c ≠ 94 ∧ c ≠ 95 ∧ c ≠ 96 ∧ c ≠ 97 ∧ (c < 6 ∨ 149 ≤ c)) : Fo P t (FX11_least a b t) := by
  unfold FX11_least
  repeat' first
    | with_reducible exact Fo.ret
    | with_reducible exact Fo.no
    | with_reducible exact fo_FX11_findingOf _ _ (fun c i h => by have hh := hP c i h; first | omega | (have := net_q (by assumption); omega) | (have := net_q (x := el 10 _) (by assumption); omega) | (have := find_q (by assumption); omega) | (have := finds_q (by assumption); omega))
    | with_reducible refine Fo.bd ?_ (fun _ _ => ?_)
    | with_reducible refine Fo.ck (fun _ => ?_)
    | with_reducible refine Fo.ite ?_ ?_
    | with_reducible refine Fo.rd (fun _ => ?_)
    | with_reducible refine Fo.wr (fun c i h => by have hh := hP c i h; first | omega | (have := net_q (by assumption); omega) | (have := net_q (x := el 10 _) (by assumption); omega) | (have := find_q (by assumption); omega) | (have := finds_q (by assumption); omega)) (fun _ => ?_)
    | with_reducible refine Fo.cp (fun c i h => by have hh := hP c i h; first | omega | (have := net_q (by assumption); omega) | (have := net_q (x := el 10 _) (by assumption); omega)) (fun _ => ?_)
    | with_reducible refine Fo.oe ?_ (fun _ => ?_)
    | with_reducible refine Fo.se (fun _ => ?_) (fun _ => ?_)
set_option maxHeartbeats 4000000 in
theorem fo_FX11_line {P : Nat → Nat → Prop} {t : St} (a : Int32) (b : Int32) (c : Int32) : Fo P t (FX11_line a b c t) := by
  unfold FX11_line
  repeat' first
    | with_reducible exact Fo.ret
    | with_reducible exact Fo.no
    | with_reducible exact fo_FX11_netIn _
    | with_reducible exact fo_FX5_has _ _
    | with_reducible exact fo_FX5_weightOf _ _ _
    | with_reducible refine Fo.bd ?_ (fun _ _ => ?_)
    | with_reducible refine Fo.ck (fun _ => ?_)
    | with_reducible refine Fo.ite ?_ ?_
    | with_reducible refine Fo.rd (fun _ => ?_)
    | with_reducible refine Fo.oe ?_ (fun _ => ?_)
    | with_reducible refine Fo.se (fun _ => ?_) (fun _ => ?_)
set_option maxHeartbeats 4000000 in
theorem fo_FX11_longest {P : Nat → Nat → Prop} {t : St} (a : Int32) : Fo P t (FX11_longest a t) := by
  unfold FX11_longest
  repeat' first
    | with_reducible exact Fo.ret
    | with_reducible exact Fo.no
    | with_reducible exact fo_FX11_netIn _
    | with_reducible exact fo_FX8_longestLine _
    | with_reducible refine Fo.bd ?_ (fun _ _ => ?_)
    | with_reducible refine Fo.ck (fun _ => ?_)
    | with_reducible refine Fo.ite ?_ ?_
    | with_reducible refine Fo.rd (fun _ => ?_)
    | with_reducible refine Fo.oe ?_ (fun _ => ?_)
    | with_reducible refine Fo.se (fun _ => ?_) (fun _ => ?_)
set_option maxHeartbeats 4000000 in
theorem fo_FX11_look {P : Nat → Nat → Prop} {t : St} (a : Int32) (b : Int32) : Fo P t (FX11_look a b t) := by
  unfold FX11_look
  repeat' first
    | with_reducible exact Fo.ret
    | with_reducible exact Fo.no
    | with_reducible exact fo_FX11_netIn _
    | with_reducible exact fo_FX10_wholeWeight _
    | with_reducible exact fo_FX10_mostLinesAtPoint _
    | with_reducible exact fo_FX10_partCount _
    | with_reducible exact fo_FX10_diameter _
    | with_reducible exact fo_FX10_core _
    | with_reducible refine Fo.bd ?_ (fun _ _ => ?_)
    | with_reducible refine Fo.ck (fun _ => ?_)
    | with_reducible refine Fo.ite ?_ ?_
    | with_reducible refine Fo.rd (fun _ => ?_)
    | with_reducible refine Fo.oe ?_ (fun _ => ?_)
    | with_reducible refine Fo.se (fun _ => ?_) (fun _ => ?_)
set_option maxHeartbeats 4000000 in
theorem fo_FX11_merges {P : Nat → Nat → Prop} {t : St} (a : Int32) (b : Int32) (c : Int32) (hP : ∀ c i, P c i → c ≠ 98 ∧ c ≠ 99 ∧ c ≠ 141 ∧ c ≠ 142 ∧ c ≠ 143 ∧ c ≠ 144 ∧ (c < 6 ∨ 149 ≤ c)) : Fo P t (FX11_merges a b c t) := by
  unfold FX11_merges
  repeat' first
    | with_reducible exact Fo.ret
    | with_reducible exact Fo.no
    | with_reducible exact fo_FX11_netIn _
    | with_reducible exact fo_FX5_hasTwo _ _ _
    | with_reducible exact fo_FX5_weightOf _ _ _
    | with_reducible exact fo_FX5_copyFrom _ _ (fun c i h => by have hh := hP c i h; first | omega | (have := net_q (by assumption); omega) | (have := net_q (x := el 10 _) (by assumption); omega) | (have := find_q (by assumption); omega) | (have := finds_q (by assumption); omega))
    | with_reducible exact fo_FX5_drawTogether _ _ _ (fun c i h => by have hh := hP c i h; first | omega | (have := net_q (by assumption); omega) | (have := net_q (x := el 10 _) (by assumption); omega) | (have := find_q (by assumption); omega) | (have := finds_q (by assumption); omega))
    | with_reducible exact fo_FX11_noteAct _ (fun c i h => by have hh := hP c i h; first | omega | (have := net_q (by assumption); omega) | (have := net_q (x := el 10 _) (by assumption); omega) | (have := find_q (by assumption); omega) | (have := finds_q (by assumption); omega))
    | with_reducible refine Fo.bd ?_ (fun _ _ => ?_)
    | with_reducible refine Fo.ck (fun _ => ?_)
    | with_reducible refine Fo.ite ?_ ?_
    | with_reducible refine Fo.rd (fun _ => ?_)
    | with_reducible refine Fo.wr (fun c i h => by have hh := hP c i h; first | omega | (have := net_q (by assumption); omega) | (have := net_q (x := el 10 _) (by assumption); omega) | (have := find_q (by assumption); omega) | (have := finds_q (by assumption); omega)) (fun _ => ?_)
    | with_reducible refine Fo.cp (fun c i h => by have hh := hP c i h; first | omega | (have := net_q (by assumption); omega) | (have := net_q (x := el 10 _) (by assumption); omega)) (fun _ => ?_)
    | with_reducible refine Fo.oe ?_ (fun _ => ?_)
    | with_reducible refine Fo.se (fun _ => ?_) (fun _ => ?_)
set_option maxHeartbeats 4000000 in
theorem fo_FX11_minor {P : Nat → Nat → Prop} {t : St} (a : Int32) (hP : ∀ c i, P c i → c ≠ 145 ∧ c ≠ 146 ∧ c ≠ 147 ∧ c ≠ 148) : Fo P t (FX11_minor a t) := by
  unfold FX11_minor
  repeat' first
    | with_reducible exact Fo.ret
    | with_reducible exact Fo.no
    | with_reducible exact fo_FX11_netIn _
    | with_reducible exact fo_FX5_copyFrom _ _ (fun c i h => by have hh := hP c i h; first | exact hh | (obtain ⟨g0, g1, g2, g3⟩ := hh; and_intros <;> first | assumption | (intro e; exact absurd e (by assumption))) | omega | (have := net_q (by assumption); omega) | (have := net_q (x := el 10 _) (by assumption); omega) | (have := find_q (by assumption); omega) | (have := finds_q (by assumption); omega))
    | with_reducible exact fo_FX10_shrinkAway _ (fun c i h => by have hh := hP c i h; first | exact hh | (obtain ⟨g0, g1, g2, g3⟩ := hh; and_intros <;> first | assumption | (intro e; exact absurd e (by assumption))) | omega | (have := net_q (by assumption); omega) | (have := net_q (x := el 10 _) (by assumption); omega) | (have := find_q (by assumption); omega) | (have := finds_q (by assumption); omega))
    | with_reducible refine Fo.bd ?_ (fun _ _ => ?_)
    | with_reducible refine Fo.ck (fun _ => ?_)
    | with_reducible refine Fo.ite ?_ ?_
    | with_reducible refine Fo.rd (fun _ => ?_)
    | with_reducible refine Fo.wr (fun c i h => by have hh := hP c i h; first | exact hh | (obtain ⟨g0, g1, g2, g3⟩ := hh; and_intros <;> first | assumption | (intro e; exact absurd e (by assumption))) | omega | (have := net_q (by assumption); omega) | (have := net_q (x := el 10 _) (by assumption); omega) | (have := find_q (by assumption); omega) | (have := finds_q (by assumption); omega)) (fun _ => ?_)
    | with_reducible refine Fo.cp (fun c i h => by have hh := hP c i h; first | exact hh | (obtain ⟨g0, g1, g2, g3⟩ := hh; and_intros <;> first | assumption | (intro e; exact absurd e (by assumption))) | omega | (have := net_q (by assumption); omega) | (have := net_q (x := el 10 _) (by assumption); omega)) (fun _ => ?_)
    | with_reducible refine Fo.oe ?_ (fun _ => ?_)
    | with_reducible refine Fo.se (fun _ => ?_) (fun _ => ?_)
set_option maxHeartbeats 4000000 in
theorem fo_FX11_moves {P : Nat → Nat → Prop} {t : St} (a : Int32) (b : Int32) (c : Int32) (hP : ∀ c i, P c i → c ≠ 98 ∧ c ≠ 99 ∧ c ≠ 141 ∧ c ≠ 142 ∧ c ≠ 143 ∧ c ≠ 144 ∧ (c < 6 ∨ 149 ≤ c)) : Fo P t (FX11_moves a b c t) := by
  unfold FX11_moves
  repeat' first
    | with_reducible exact Fo.ret
    | with_reducible exact Fo.no
    | with_reducible exact fo_FX11_netIn _
    | with_reducible exact fo_FX5_has _ _
    | with_reducible exact fo_FX5_copyFrom _ _ (fun c i h => by have hh := hP c i h; first | omega | (have := net_q (by assumption); omega) | (have := net_q (x := el 10 _) (by assumption); omega) | (have := find_q (by assumption); omega) | (have := finds_q (by assumption); omega))
    | with_reducible exact fo_FX5_shift _ _ _ (fun c i h => by have hh := hP c i h; first | omega | (have := net_q (by assumption); omega) | (have := net_q (x := el 10 _) (by assumption); omega) | (have := find_q (by assumption); omega) | (have := finds_q (by assumption); omega))
    | with_reducible exact fo_FX11_noteAct _ (fun c i h => by have hh := hP c i h; first | omega | (have := net_q (by assumption); omega) | (have := net_q (x := el 10 _) (by assumption); omega) | (have := find_q (by assumption); omega) | (have := finds_q (by assumption); omega))
    | with_reducible refine Fo.bd ?_ (fun _ _ => ?_)
    | with_reducible refine Fo.ck (fun _ => ?_)
    | with_reducible refine Fo.ite ?_ ?_
    | with_reducible refine Fo.rd (fun _ => ?_)
    | with_reducible refine Fo.wr (fun c i h => by have hh := hP c i h; first | omega | (have := net_q (by assumption); omega) | (have := net_q (x := el 10 _) (by assumption); omega) | (have := find_q (by assumption); omega) | (have := finds_q (by assumption); omega)) (fun _ => ?_)
    | with_reducible refine Fo.cp (fun c i h => by have hh := hP c i h; first | omega | (have := net_q (by assumption); omega) | (have := net_q (x := el 10 _) (by assumption); omega)) (fun _ => ?_)
    | with_reducible refine Fo.oe ?_ (fun _ => ?_)
    | with_reducible refine Fo.se (fun _ => ?_) (fun _ => ?_)
set_option maxHeartbeats 4000000 in
theorem fo_FX11_near {P : Nat → Nat → Prop} {t : St} (a : Int32) (b : Int32) : Fo P t (FX11_near a b t) := by
  unfold FX11_near
  repeat' first
    | with_reducible exact Fo.ret
    | with_reducible exact Fo.no
    | with_reducible exact fo_FX11_netIn _
    | with_reducible exact fo_FX5_has _ _
    | with_reducible refine Fo.bd ?_ (fun _ _ => ?_)
    | with_reducible refine Fo.ck (fun _ => ?_)
    | with_reducible refine Fo.ite ?_ ?_
    | with_reducible refine Fo.rd (fun _ => ?_)
    | with_reducible refine Fo.oe ?_ (fun _ => ?_)
    | with_reducible refine Fo.se (fun _ => ?_) (fun _ => ?_)
set_option maxHeartbeats 4000000 in
theorem fo_FX11_octet {P : Nat → Nat → Prop} {t : St} (a : Int32) : Fo P t (FX11_octet a t) := by
  unfold FX11_octet
  repeat' first
    | with_reducible exact Fo.ret
    | with_reducible exact Fo.no
    | with_reducible exact fo_FX1_at_3 _
    | with_reducible refine Fo.bd ?_ (fun _ _ => ?_)
    | with_reducible refine Fo.ck (fun _ => ?_)
    | with_reducible refine Fo.ite ?_ ?_
    | with_reducible refine Fo.rd (fun _ => ?_)
    | with_reducible refine Fo.oe ?_ (fun _ => ?_)
    | with_reducible refine Fo.se (fun _ => ?_) (fun _ => ?_)
set_option maxHeartbeats 4000000 in
theorem fo_FX11_place {P : Nat → Nat → Prop} {t : St} (a : Int32) (b : Int32) : Fo P t (FX11_place a b t) := by
  unfold FX11_place
  repeat' first
    | with_reducible exact Fo.ret
    | with_reducible exact Fo.no
    | with_reducible exact fo_FX11_netIn _
    | with_reducible exact fo_FX5_has _ _
    | with_reducible exact fo_FX5_placeOf _ _
    | with_reducible refine Fo.bd ?_ (fun _ _ => ?_)
    | with_reducible refine Fo.ck (fun _ => ?_)
    | with_reducible refine Fo.ite ?_ ?_
    | with_reducible refine Fo.rd (fun _ => ?_)
    | with_reducible refine Fo.oe ?_ (fun _ => ?_)
    | with_reducible refine Fo.se (fun _ => ?_) (fun _ => ?_)
set_option maxHeartbeats 4000000 in
theorem fo_FX11_polish {P : Nat → Nat → Prop} {t : St} (a : Int32) (b : Int32) (hP : ∀ c i, P c i → c ≠ 98 ∧ c ≠ 99 ∧ c ≠ 141 ∧ c ≠ 142 ∧ c ≠ 143 ∧ c ≠ 144 ∧ (c < 6 ∨ 149 ≤ c)) : Fo P t (FX11_polish a b t) := by
  unfold FX11_polish
  repeat' first
    | with_reducible exact Fo.ret
    | with_reducible exact Fo.no
    | with_reducible exact fo_FX11_netIn _
    | with_reducible exact fo_FX11_isMeasure _
    | with_reducible exact fo_FX5_copyFrom _ _ (fun c i h => by have hh := hP c i h; first | omega | (have := net_q (by assumption); omega) | (have := net_q (x := el 10 _) (by assumption); omega) | (have := find_q (by assumption); omega) | (have := finds_q (by assumption); omega))
    | with_reducible exact fo_FX8_polishRow _ _ (fun c i h => by have hh := hP c i h; first | omega | (have := net_q (by assumption); omega) | (have := net_q (x := el 10 _) (by assumption); omega) | (have := find_q (by assumption); omega) | (have := finds_q (by assumption); omega))
    | with_reducible exact fo_FX11_noteAct _ (fun c i h => by have hh := hP c i h; first | omega | (have := net_q (by assumption); omega) | (have := net_q (x := el 10 _) (by assumption); omega) | (have := find_q (by assumption); omega) | (have := finds_q (by assumption); omega))
    | with_reducible refine Fo.bd ?_ (fun _ _ => ?_)
    | with_reducible refine Fo.ck (fun _ => ?_)
    | with_reducible refine Fo.ite ?_ ?_
    | with_reducible refine Fo.rd (fun _ => ?_)
    | with_reducible refine Fo.wr (fun c i h => by have hh := hP c i h; first | omega | (have := net_q (by assumption); omega) | (have := net_q (x := el 10 _) (by assumption); omega) | (have := find_q (by assumption); omega) | (have := finds_q (by assumption); omega)) (fun _ => ?_)
    | with_reducible refine Fo.cp (fun c i h => by have hh := hP c i h; first | omega | (have := net_q (by assumption); omega) | (have := net_q (x := el 10 _) (by assumption); omega)) (fun _ => ?_)
    | with_reducible refine Fo.oe ?_ (fun _ => ?_)
    | with_reducible refine Fo.se (fun _ => ?_) (fun _ => ?_)
set_option maxHeartbeats 4000000 in
theorem fo_FX11_polished {P : Nat → Nat → Prop} {t : St} (a : Int32) (b : Int32) (hP : ∀ c i, P c i → c ≠ 145 ∧ c ≠ 146 ∧ c ≠ 147 ∧ c ≠ 148) : Fo P t (FX11_polished a b t) := by
  unfold FX11_polished
  repeat' first
    | with_reducible exact Fo.ret
    | with_reducible exact Fo.no
    | with_reducible exact fo_FX11_netIn _
    | with_reducible exact fo_FX11_isMeasure _
    | with_reducible exact fo_FX5_copyFrom _ _ (fun c i h => by have hh := hP c i h; first | exact hh | (obtain ⟨g0, g1, g2, g3⟩ := hh; and_intros <;> first | assumption | (intro e; exact absurd e (by assumption))) | omega | (have := net_q (by assumption); omega) | (have := net_q (x := el 10 _) (by assumption); omega) | (have := find_q (by assumption); omega) | (have := finds_q (by assumption); omega))
    | with_reducible exact fo_FX8_polishRow _ _ (fun c i h => by have hh := hP c i h; first | exact hh | (obtain ⟨g0, g1, g2, g3⟩ := hh; and_intros <;> first | assumption | (intro e; exact absurd e (by assumption))) | omega | (have := net_q (by assumption); omega) | (have := net_q (x := el 10 _) (by assumption); omega) | (have := find_q (by assumption); omega) | (have := finds_q (by assumption); omega))
    | with_reducible exact fo_FX8_measured _ _
    | with_reducible refine Fo.bd ?_ (fun _ _ => ?_)
    | with_reducible refine Fo.ck (fun _ => ?_)
    | with_reducible refine Fo.ite ?_ ?_
    | with_reducible refine Fo.rd (fun _ => ?_)
    | with_reducible refine Fo.wr (fun c i h => by have hh := hP c i h; first | exact hh | (obtain ⟨g0, g1, g2, g3⟩ := hh; and_intros <;> first | assumption | (intro e; exact absurd e (by assumption))) | omega | (have := net_q (by assumption); omega) | (have := net_q (x := el 10 _) (by assumption); omega) | (have := find_q (by assumption); omega) | (have := finds_q (by assumption); omega)) (fun _ => ?_)
    | with_reducible refine Fo.cp (fun c i h => by have hh := hP c i h; first | exact hh | (obtain ⟨g0, g1, g2, g3⟩ := hh; and_intros <;> first | assumption | (intro e; exact absurd e (by assumption))) | omega | (have := net_q (by assumption); omega) | (have := net_q (x := el 10 _) (by assumption); omega)) (fun _ => ?_)
    | with_reducible refine Fo.oe ?_ (fun _ => ?_)
    | with_reducible refine Fo.se (fun _ => ?_) (fun _ => ?_)
set_option maxHeartbeats 4000000 in
theorem fo_FX11_price {P : Nat → Nat → Prop} {t : St} (a : Int32) (b : Int32) (c : Int32) : Fo P t (FX11_price a b c t) := by
  unfold FX11_price
  repeat' first
    | with_reducible exact Fo.ret
    | with_reducible exact Fo.no
    | with_reducible exact fo_FX11_netIn _
    | with_reducible exact fo_FX11_isPriced _
    | with_reducible exact fo_FX5_has _ _
    | with_reducible exact fo_FX6_firstStep _
    | with_reducible exact fo_FX6_atPlace _ _ _
    | with_reducible refine Fo.bd ?_ (fun _ _ => ?_)
    | with_reducible refine Fo.ck (fun _ => ?_)
    | with_reducible refine Fo.ite ?_ ?_
    | with_reducible refine Fo.rd (fun _ => ?_)
    | with_reducible refine Fo.oe ?_ (fun _ => ?_)
    | with_reducible refine Fo.se (fun _ => ?_) (fun _ => ?_)
set_option maxHeartbeats 4000000 in
theorem fo_FX11_reverse {P : Nat → Nat → Prop} {t : St} (a : Int32) (hP : ∀ c i, P c i → c ≠ 98 ∧ c ≠ 99 ∧ c ≠ 141 ∧ c ≠ 142 ∧ c ≠ 143 ∧ c ≠ 144 ∧ (c < 6 ∨ 149 ≤ c)) : Fo P t (FX11_reverse a t) := by
  unfold FX11_reverse
  repeat' first
    | with_reducible exact Fo.ret
    | with_reducible exact Fo.no
    | with_reducible exact fo_FX11_netIn _
    | with_reducible exact fo_FX5_copyFrom _ _ (fun c i h => by have hh := hP c i h; first | omega | (have := net_q (by assumption); omega) | (have := net_q (x := el 10 _) (by assumption); omega) | (have := find_q (by assumption); omega) | (have := finds_q (by assumption); omega))
    | with_reducible exact fo_FX5_turnRound _ (fun c i h => by have hh := hP c i h; first | omega | (have := net_q (by assumption); omega) | (have := net_q (x := el 10 _) (by assumption); omega) | (have := find_q (by assumption); omega) | (have := finds_q (by assumption); omega))
    | with_reducible exact fo_FX11_noteAct _ (fun c i h => by have hh := hP c i h; first | omega | (have := net_q (by assumption); omega) | (have := net_q (x := el 10 _) (by assumption); omega) | (have := find_q (by assumption); omega) | (have := finds_q (by assumption); omega))
    | with_reducible refine Fo.bd ?_ (fun _ _ => ?_)
    | with_reducible refine Fo.ck (fun _ => ?_)
    | with_reducible refine Fo.ite ?_ ?_
    | with_reducible refine Fo.rd (fun _ => ?_)
    | with_reducible refine Fo.wr (fun c i h => by have hh := hP c i h; first | omega | (have := net_q (by assumption); omega) | (have := net_q (x := el 10 _) (by assumption); omega) | (have := find_q (by assumption); omega) | (have := finds_q (by assumption); omega)) (fun _ => ?_)
    | with_reducible refine Fo.cp (fun c i h => by have hh := hP c i h; first | omega | (have := net_q (by assumption); omega) | (have := net_q (x := el 10 _) (by assumption); omega)) (fun _ => ?_)
    | with_reducible refine Fo.oe ?_ (fun _ => ?_)
    | with_reducible refine Fo.se (fun _ => ?_) (fun _ => ?_)
set_option maxHeartbeats 4000000 in
theorem fo_FX11_row {P : Nat → Nat → Prop} {t : St} (a : Int32) (b : Int32) : Fo P t (FX11_row a b t) := by
  unfold FX11_row
  repeat' first
    | with_reducible exact Fo.ret
    | with_reducible exact Fo.no
    | with_reducible exact fo_FX11_netIn _
    | with_reducible exact fo_FX5_has _ _
    | with_reducible refine Fo.bd ?_ (fun _ _ => ?_)
    | with_reducible refine Fo.ck (fun _ => ?_)
    | with_reducible refine Fo.ite ?_ ?_
    | with_reducible refine Fo.rd (fun _ => ?_)
    | with_reducible refine Fo.oe ?_ (fun _ => ?_)
    | with_reducible refine Fo.se (fun _ => ?_) (fun _ => ?_)
set_option maxHeartbeats 4000000 in
theorem fo_FX11_split {P : Nat → Nat → Prop} {t : St} (a : Int32) (b : Int32) (c : Int32) : Fo P t (FX11_split a b c t) := by
  unfold FX11_split
  repeat' first
    | with_reducible exact Fo.ret
    | with_reducible exact Fo.no
    | with_reducible exact fo_FX11_netIn _
    | with_reducible exact fo_FX5_allBits _
    | with_reducible exact fo_FX6_cutWeight _ _
    | with_reducible exact fo_FX6_gateSize _ _
    | with_reducible exact fo_FX6_fringeSize _ _
    | with_reducible refine Fo.bd ?_ (fun _ _ => ?_)
    | with_reducible refine Fo.ck (fun _ => ?_)
    | with_reducible refine Fo.ite ?_ ?_
    | with_reducible refine Fo.rd (fun _ => ?_)
    | with_reducible refine Fo.oe ?_ (fun _ => ?_)
    | with_reducible refine Fo.se (fun _ => ?_) (fun _ => ?_)
set_option maxHeartbeats 4000000 in
theorem fo_FX11_swaps {P : Nat → Nat → Prop} {t : St} (a : Int32) (b : Int32) (c : Int32) (hP : ∀ c i, P c i → c ≠ 98 ∧ c ≠ 99 ∧ c ≠ 141 ∧ c ≠ 142 ∧ c ≠ 143 ∧ c ≠ 144 ∧ (c < 6 ∨ 149 ≤ c)) : Fo P t (FX11_swaps a b c t) := by
  unfold FX11_swaps
  repeat' first
    | with_reducible exact Fo.ret
    | with_reducible exact Fo.no
    | with_reducible exact fo_FX11_netIn _
    | with_reducible exact fo_FX5_has _ _
    | with_reducible exact fo_FX5_copyFrom _ _ (fun c i h => by have hh := hP c i h; first | omega | (have := net_q (by assumption); omega) | (have := net_q (x := el 10 _) (by assumption); omega) | (have := find_q (by assumption); omega) | (have := finds_q (by assumption); omega))
    | with_reducible exact fo_FX5_changeOver _ _ _ (fun c i h => by have hh := hP c i h; first | omega | (have := net_q (by assumption); omega) | (have := net_q (x := el 10 _) (by assumption); omega) | (have := find_q (by assumption); omega) | (have := finds_q (by assumption); omega))
    | with_reducible exact fo_FX11_noteAct _ (fun c i h => by have hh := hP c i h; first | omega | (have := net_q (by assumption); omega) | (have := net_q (x := el 10 _) (by assumption); omega) | (have := find_q (by assumption); omega) | (have := finds_q (by assumption); omega))
    | with_reducible refine Fo.bd ?_ (fun _ _ => ?_)
    | with_reducible refine Fo.ck (fun _ => ?_)
    | with_reducible refine Fo.ite ?_ ?_
    | with_reducible refine Fo.rd (fun _ => ?_)
    | with_reducible refine Fo.wr (fun c i h => by have hh := hP c i h; first | omega | (have := net_q (by assumption); omega) | (have := net_q (x := el 10 _) (by assumption); omega) | (have := find_q (by assumption); omega) | (have := finds_q (by assumption); omega)) (fun _ => ?_)
    | with_reducible refine Fo.cp (fun c i h => by have hh := hP c i h; first | omega | (have := net_q (by assumption); omega) | (have := net_q (x := el 10 _) (by assumption); omega)) (fun _ => ?_)
    | with_reducible refine Fo.oe ?_ (fun _ => ?_)
    | with_reducible refine Fo.se (fun _ => ?_) (fun _ => ?_)
set_option maxHeartbeats 4000000 in
theorem fo_FX11_takes {P : Nat → Nat → Prop} {t : St} (a : Int32) (b : Int32) (hP : ∀ c i, P c i → c ≠ 85 ∧ c ≠ 87 ∧ c ≠ 88 ∧ c ≠ 89 ∧ c ≠ 91 ∧ c ≠ 92 ∧ c ≠ 93 ∧ c ≠ 94 ∧ c ≠ 95 ∧ c ≠ 96 ∧ c ≠ 97 ∧ c ≠ 98 ∧ c ≠ 99 ∧ c ≠ 141 ∧ c ≠ 142 ∧ c ≠ 143 ∧ c ≠ 144 ∧ (c < 6 ∨ 149 ≤ c)) : Fo P t (FX11_takes a b t) := by
  unfold FX11_takes
  repeat' first
    | with_reducible exact Fo.ret
    | with_reducible exact Fo.no
    | with_reducible exact fo_FX11_findingOf _ _ (fun c i h => by have hh := hP c i h; first | omega | (have := net_q (by assumption); omega) | (have := net_q (x := el 10 _) (by assumption); omega) | (have := find_q (by assumption); omega) | (have := finds_q (by assumption); omega))
    | with_reducible exact fo_FX5_copyFrom _ _ (fun c i h => by have hh := hP c i h; first | omega | (have := net_q (by assumption); omega) | (have := net_q (x := el 10 _) (by assumption); omega) | (have := find_q (by assumption); omega) | (have := finds_q (by assumption); omega))
    | with_reducible exact fo_FX11_noteAct _ (fun c i h => by have hh := hP c i h; first | omega | (have := net_q (by assumption); omega) | (have := net_q (x := el 10 _) (by assumption); omega) | (have := find_q (by assumption); omega) | (have := finds_q (by assumption); omega))
    | with_reducible exact fo_FX5_placesUnlike _ _
    | with_reducible refine Fo.bd ?_ (fun _ _ => ?_)
    | with_reducible refine Fo.ck (fun _ => ?_)
    | with_reducible refine Fo.ite ?_ ?_
    | with_reducible refine Fo.rd (fun _ => ?_)
    | with_reducible refine Fo.wr (fun c i h => by have hh := hP c i h; first | omega | (have := net_q (by assumption); omega) | (have := net_q (x := el 10 _) (by assumption); omega) | (have := find_q (by assumption); omega) | (have := finds_q (by assumption); omega)) (fun _ => ?_)
    | with_reducible refine Fo.cp (fun c i h => by have hh := hP c i h; first | omega | (have := net_q (by assumption); omega) | (have := net_q (x := el 10 _) (by assumption); omega)) (fun _ => ?_)
    | with_reducible refine Fo.oe ?_ (fun _ => ?_)
    | with_reducible refine Fo.se (fun _ => ?_) (fun _ => ?_)
set_option maxHeartbeats 4000000 in
theorem fo_SX11_tellCuts_2 {P : Nat → Nat → Prop} {t : St} (x1 : Nat) (c : Int32) (hP : ∀ c i, P c i → c ≠ 3 ∧ c ≠ 4) : Fo P t (SX11_tellCuts_2 x1 c t) := by
  unfold SX11_tellCuts_2
  repeat' first
    | with_reducible exact Fo.ret
    | with_reducible exact Fo.no
    | with_reducible exact fo_FX1_put_3 _ (fun c i h => by have hh := hP c i h; first | exact hh | (obtain ⟨g0, g1⟩ := hh; and_intros <;> first | assumption | (intro e; exact absurd e (by assumption))) | omega | (have := net_q (by assumption); omega) | (have := net_q (x := el 10 _) (by assumption); omega) | (have := find_q (by assumption); omega) | (have := finds_q (by assumption); omega))
    | with_reducible exact fo_FX6_atPlace _ _ _
    | with_reducible exact fo_FX1_putNumber_3 _ (fun c i h => by have hh := hP c i h; first | exact hh | (obtain ⟨g0, g1⟩ := hh; and_intros <;> first | assumption | (intro e; exact absurd e (by assumption))) | omega | (have := net_q (by assumption); omega) | (have := net_q (x := el 10 _) (by assumption); omega) | (have := find_q (by assumption); omega) | (have := finds_q (by assumption); omega))
    | with_reducible refine Fo.bd ?_ (fun _ _ => ?_)
    | with_reducible refine Fo.ck (fun _ => ?_)
    | with_reducible refine Fo.ite ?_ ?_
    | with_reducible refine Fo.rd (fun _ => ?_)
    | with_reducible refine Fo.wr (fun c i h => by have hh := hP c i h; first | exact hh | (obtain ⟨g0, g1⟩ := hh; and_intros <;> first | assumption | (intro e; exact absurd e (by assumption))) | omega | (have := net_q (by assumption); omega) | (have := net_q (x := el 10 _) (by assumption); omega) | (have := find_q (by assumption); omega) | (have := finds_q (by assumption); omega)) (fun _ => ?_)
    | with_reducible refine Fo.cp (fun c i h => by have hh := hP c i h; first | exact hh | (obtain ⟨g0, g1⟩ := hh; and_intros <;> first | assumption | (intro e; exact absurd e (by assumption))) | omega | (have := net_q (by assumption); omega) | (have := net_q (x := el 10 _) (by assumption); omega)) (fun _ => ?_)
    | with_reducible refine Fo.oe ?_ (fun _ => ?_)
    | with_reducible refine Fo.se (fun _ => ?_) (fun _ => ?_)
set_option maxHeartbeats 4000000 in
theorem fo_FX11_tellCuts {P : Nat → Nat → Prop} {t : St} (x : Nat) (hP : ∀ c i, P c i → c ≠ 3 ∧ c ≠ 4) : Fo P t (FX11_tellCuts x t) := by
  unfold FX11_tellCuts
  repeat' first
    | with_reducible exact Fo.ret
    | with_reducible exact Fo.no
    | with_reducible refine Fo.wh (fun cc ss => fo_SX11_tellCuts_2 _ cc (fun c i h => by have hh := hP c i h; first | exact hh | (obtain ⟨g0, g1⟩ := hh; and_intros <;> first | assumption | (intro e; exact absurd e (by assumption))) | omega | (have := net_q (by assumption); omega) | (have := net_q (x := el 10 _) (by assumption); omega) | (have := find_q (by assumption); omega) | (have := finds_q (by assumption); omega)))
    | with_reducible refine Fo.bd ?_ (fun _ _ => ?_)
    | with_reducible refine Fo.ck (fun _ => ?_)
    | with_reducible refine Fo.ite ?_ ?_
    | with_reducible refine Fo.rd (fun _ => ?_)
    | with_reducible refine Fo.wr (fun c i h => by have hh := hP c i h; first | exact hh | (obtain ⟨g0, g1⟩ := hh; and_intros <;> first | assumption | (intro e; exact absurd e (by assumption))) | omega | (have := net_q (by assumption); omega) | (have := net_q (x := el 10 _) (by assumption); omega) | (have := find_q (by assumption); omega) | (have := finds_q (by assumption); omega)) (fun _ => ?_)
    | with_reducible refine Fo.cp (fun c i h => by have hh := hP c i h; first | exact hh | (obtain ⟨g0, g1⟩ := hh; and_intros <;> first | assumption | (intro e; exact absurd e (by assumption))) | omega | (have := net_q (by assumption); omega) | (have := net_q (x := el 10 _) (by assumption); omega)) (fun _ => ?_)
    | with_reducible refine Fo.oe ?_ (fun _ => ?_)
    | with_reducible refine Fo.se (fun _ => ?_) (fun _ => ?_)
set_option maxHeartbeats 4000000 in
theorem fo_FX11_tellLine {P : Nat → Nat → Prop} {t : St} (a : Int32) (b : Int32) (c : Int32) (hP : ∀ c i, P c i → c ≠ 3 ∧ c ≠ 4) : Fo P t (FX11_tellLine a b c t) := by
  unfold FX11_tellLine
  repeat' first
    | with_reducible exact Fo.ret
    | with_reducible exact Fo.no
    | with_reducible exact fo_FX1_putNumber_3 _ (fun c i h => by have hh := hP c i h; first | exact hh | (obtain ⟨g0, g1⟩ := hh; and_intros <;> first | assumption | (intro e; exact absurd e (by assumption))) | omega | (have := net_q (by assumption); omega) | (have := net_q (x := el 10 _) (by assumption); omega) | (have := find_q (by assumption); omega) | (have := finds_q (by assumption); omega))
    | with_reducible exact fo_FX1_put_3 _ (fun c i h => by have hh := hP c i h; first | exact hh | (obtain ⟨g0, g1⟩ := hh; and_intros <;> first | assumption | (intro e; exact absurd e (by assumption))) | omega | (have := net_q (by assumption); omega) | (have := net_q (x := el 10 _) (by assumption); omega) | (have := find_q (by assumption); omega) | (have := finds_q (by assumption); omega))
    | with_reducible refine Fo.bd ?_ (fun _ _ => ?_)
    | with_reducible refine Fo.ck (fun _ => ?_)
    | with_reducible refine Fo.ite ?_ ?_
    | with_reducible refine Fo.rd (fun _ => ?_)
    | with_reducible refine Fo.wr (fun c i h => by have hh := hP c i h; first | exact hh | (obtain ⟨g0, g1⟩ := hh; and_intros <;> first | assumption | (intro e; exact absurd e (by assumption))) | omega | (have := net_q (by assumption); omega) | (have := net_q (x := el 10 _) (by assumption); omega) | (have := find_q (by assumption); omega) | (have := finds_q (by assumption); omega)) (fun _ => ?_)
    | with_reducible refine Fo.cp (fun c i h => by have hh := hP c i h; first | exact hh | (obtain ⟨g0, g1⟩ := hh; and_intros <;> first | assumption | (intro e; exact absurd e (by assumption))) | omega | (have := net_q (by assumption); omega) | (have := net_q (x := el 10 _) (by assumption); omega)) (fun _ => ?_)
    | with_reducible refine Fo.oe ?_ (fun _ => ?_)
    | with_reducible refine Fo.se (fun _ => ?_) (fun _ => ?_)
set_option maxHeartbeats 4000000 in
theorem fo_SX11_tellNet_39 {P : Nat → Nat → Prop} {t : St} (x1 : Nat) (w3 : Int32) (c : Int32 × Int32) (hP : ∀ c i, P c i → c ≠ 3 ∧ c ≠ 4) : Fo P t (SX11_tellNet_39 x1 w3 c t) := by
  unfold SX11_tellNet_39
  repeat' first
    | with_reducible exact Fo.ret
    | with_reducible exact Fo.no
    | with_reducible exact fo_FX5_weightOf _ _ _
    | with_reducible exact fo_FX1_put_3 _ (fun c i h => by have hh := hP c i h; first | exact hh | (obtain ⟨g0, g1⟩ := hh; and_intros <;> first | assumption | (intro e; exact absurd e (by assumption))) | omega | (have := net_q (by assumption); omega) | (have := net_q (x := el 10 _) (by assumption); omega) | (have := find_q (by assumption); omega) | (have := finds_q (by assumption); omega))
    | with_reducible exact fo_FX11_tellLine _ _ _ (fun c i h => by have hh := hP c i h; first | exact hh | (obtain ⟨g0, g1⟩ := hh; and_intros <;> first | assumption | (intro e; exact absurd e (by assumption))) | omega | (have := net_q (by assumption); omega) | (have := net_q (x := el 10 _) (by assumption); omega) | (have := find_q (by assumption); omega) | (have := finds_q (by assumption); omega))
    | with_reducible refine Fo.bd ?_ (fun _ _ => ?_)
    | with_reducible refine Fo.ck (fun _ => ?_)
    | with_reducible refine Fo.ite ?_ ?_
    | with_reducible refine Fo.rd (fun _ => ?_)
    | with_reducible refine Fo.wr (fun c i h => by have hh := hP c i h; first | exact hh | (obtain ⟨g0, g1⟩ := hh; and_intros <;> first | assumption | (intro e; exact absurd e (by assumption))) | omega | (have := net_q (by assumption); omega) | (have := net_q (x := el 10 _) (by assumption); omega) | (have := find_q (by assumption); omega) | (have := finds_q (by assumption); omega)) (fun _ => ?_)
    | with_reducible refine Fo.cp (fun c i h => by have hh := hP c i h; first | exact hh | (obtain ⟨g0, g1⟩ := hh; and_intros <;> first | assumption | (intro e; exact absurd e (by assumption))) | omega | (have := net_q (by assumption); omega) | (have := net_q (x := el 10 _) (by assumption); omega)) (fun _ => ?_)
    | with_reducible refine Fo.oe ?_ (fun _ => ?_)
    | with_reducible refine Fo.se (fun _ => ?_) (fun _ => ?_)
set_option maxHeartbeats 4000000 in
theorem fo_SX11_tellNet_26 {P : Nat → Nat → Prop} {t : St} (x1 : Nat) (c : Int32 × Int32) (hP : ∀ c i, P c i → c ≠ 3 ∧ c ≠ 4) : Fo P t (SX11_tellNet_26 x1 c t) := by
  unfold SX11_tellNet_26
  repeat' first
    | with_reducible exact Fo.ret
    | with_reducible exact Fo.no
    | with_reducible refine Fo.wh (fun cc ss => fo_SX11_tellNet_39 _ _ cc (fun c i h => by have hh := hP c i h; first | exact hh | (obtain ⟨g0, g1⟩ := hh; and_intros <;> first | assumption | (intro e; exact absurd e (by assumption))) | omega | (have := net_q (by assumption); omega) | (have := net_q (x := el 10 _) (by assumption); omega) | (have := find_q (by assumption); omega) | (have := finds_q (by assumption); omega)))
    | with_reducible refine Fo.bd ?_ (fun _ _ => ?_)
    | with_reducible refine Fo.ck (fun _ => ?_)
    | with_reducible refine Fo.ite ?_ ?_
    | with_reducible refine Fo.rd (fun _ => ?_)
    | with_reducible refine Fo.wr (fun c i h => by have hh := hP c i h; first | exact hh | (obtain ⟨g0, g1⟩ := hh; and_intros <;> first | assumption | (intro e; exact absurd e (by assumption))) | omega | (have := net_q (by assumption); omega) | (have := net_q (x := el 10 _) (by assumption); omega) | (have := find_q (by assumption); omega) | (have := finds_q (by assumption); omega)) (fun _ => ?_)
    | with_reducible refine Fo.cp (fun c i h => by have hh := hP c i h; first | exact hh | (obtain ⟨g0, g1⟩ := hh; and_intros <;> first | assumption | (intro e; exact absurd e (by assumption))) | omega | (have := net_q (by assumption); omega) | (have := net_q (x := el 10 _) (by assumption); omega)) (fun _ => ?_)
    | with_reducible refine Fo.oe ?_ (fun _ => ?_)
    | with_reducible refine Fo.se (fun _ => ?_) (fun _ => ?_)
set_option maxHeartbeats 4000000 in
theorem fo_FX11_tellNet {P : Nat → Nat → Prop} {t : St} (x : Nat) (hP : ∀ c i, P c i → c ≠ 3 ∧ c ≠ 4) : Fo P t (FX11_tellNet x t) := by
  unfold FX11_tellNet
  repeat' first
    | with_reducible exact Fo.ret
    | with_reducible exact Fo.no
    | with_reducible exact fo_FX1_putText_3_s2 (fun c i h => by have hh := hP c i h; first | exact hh | (obtain ⟨g0, g1⟩ := hh; and_intros <;> first | assumption | (intro e; exact absurd e (by assumption))) | omega | (have := net_q (by assumption); omega) | (have := net_q (x := el 10 _) (by assumption); omega) | (have := find_q (by assumption); omega) | (have := finds_q (by assumption); omega))
    | with_reducible exact fo_FX1_putNumber_3 _ (fun c i h => by have hh := hP c i h; first | exact hh | (obtain ⟨g0, g1⟩ := hh; and_intros <;> first | assumption | (intro e; exact absurd e (by assumption))) | omega | (have := net_q (by assumption); omega) | (have := net_q (x := el 10 _) (by assumption); omega) | (have := find_q (by assumption); omega) | (have := finds_q (by assumption); omega))
    | with_reducible refine Fo.wh (fun cc ss => fo_SX11_tellNet_26 _ cc (fun c i h => by have hh := hP c i h; first | exact hh | (obtain ⟨g0, g1⟩ := hh; and_intros <;> first | assumption | (intro e; exact absurd e (by assumption))) | omega | (have := net_q (by assumption); omega) | (have := net_q (x := el 10 _) (by assumption); omega) | (have := find_q (by assumption); omega) | (have := finds_q (by assumption); omega)))
    | with_reducible exact fo_FX1_put_3 _ (fun c i h => by have hh := hP c i h; first | exact hh | (obtain ⟨g0, g1⟩ := hh; and_intros <;> first | assumption | (intro e; exact absurd e (by assumption))) | omega | (have := net_q (by assumption); omega) | (have := net_q (x := el 10 _) (by assumption); omega) | (have := find_q (by assumption); omega) | (have := finds_q (by assumption); omega))
    | with_reducible refine Fo.bd ?_ (fun _ _ => ?_)
    | with_reducible refine Fo.ck (fun _ => ?_)
    | with_reducible refine Fo.ite ?_ ?_
    | with_reducible refine Fo.rd (fun _ => ?_)
    | with_reducible refine Fo.wr (fun c i h => by have hh := hP c i h; first | exact hh | (obtain ⟨g0, g1⟩ := hh; and_intros <;> first | assumption | (intro e; exact absurd e (by assumption))) | omega | (have := net_q (by assumption); omega) | (have := net_q (x := el 10 _) (by assumption); omega) | (have := find_q (by assumption); omega) | (have := finds_q (by assumption); omega)) (fun _ => ?_)
    | with_reducible refine Fo.cp (fun c i h => by have hh := hP c i h; first | exact hh | (obtain ⟨g0, g1⟩ := hh; and_intros <;> first | assumption | (intro e; exact absurd e (by assumption))) | omega | (have := net_q (by assumption); omega) | (have := net_q (x := el 10 _) (by assumption); omega)) (fun _ => ?_)
    | with_reducible refine Fo.oe ?_ (fun _ => ?_)
    | with_reducible refine Fo.se (fun _ => ?_) (fun _ => ?_)
set_option maxHeartbeats 4000000 in
theorem fo_SX11_tellRow_12 {P : Nat → Nat → Prop} {t : St} (x1 : Nat) (c : Int32) (hP : ∀ c i, P c i → c ≠ 3 ∧ c ≠ 4) : Fo P t (SX11_tellRow_12 x1 c t) := by
  unfold SX11_tellRow_12
  repeat' first
    | with_reducible exact Fo.ret
    | with_reducible exact Fo.no
    | with_reducible exact fo_FX1_putNumber_3 _ (fun c i h => by have hh := hP c i h; first | exact hh | (obtain ⟨g0, g1⟩ := hh; and_intros <;> first | assumption | (intro e; exact absurd e (by assumption))) | omega | (have := net_q (by assumption); omega) | (have := net_q (x := el 10 _) (by assumption); omega) | (have := find_q (by assumption); omega) | (have := finds_q (by assumption); omega))
    | with_reducible refine Fo.bd ?_ (fun _ _ => ?_)
    | with_reducible refine Fo.ck (fun _ => ?_)
    | with_reducible refine Fo.ite ?_ ?_
    | with_reducible refine Fo.rd (fun _ => ?_)
    | with_reducible refine Fo.wr (fun c i h => by have hh := hP c i h; first | exact hh | (obtain ⟨g0, g1⟩ := hh; and_intros <;> first | assumption | (intro e; exact absurd e (by assumption))) | omega | (have := net_q (by assumption); omega) | (have := net_q (x := el 10 _) (by assumption); omega) | (have := find_q (by assumption); omega) | (have := finds_q (by assumption); omega)) (fun _ => ?_)
    | with_reducible refine Fo.cp (fun c i h => by have hh := hP c i h; first | exact hh | (obtain ⟨g0, g1⟩ := hh; and_intros <;> first | assumption | (intro e; exact absurd e (by assumption))) | omega | (have := net_q (by assumption); omega) | (have := net_q (x := el 10 _) (by assumption); omega)) (fun _ => ?_)
    | with_reducible refine Fo.oe ?_ (fun _ => ?_)
    | with_reducible refine Fo.se (fun _ => ?_) (fun _ => ?_)
set_option maxHeartbeats 4000000 in
theorem fo_FX11_tellRow {P : Nat → Nat → Prop} {t : St} (x : Nat) (hP : ∀ c i, P c i → c ≠ 3 ∧ c ≠ 4) : Fo P t (FX11_tellRow x t) := by
  unfold FX11_tellRow
  repeat' first
    | with_reducible exact Fo.ret
    | with_reducible exact Fo.no
    | with_reducible exact fo_FX1_putText_3_s3 (fun c i h => by have hh := hP c i h; first | exact hh | (obtain ⟨g0, g1⟩ := hh; and_intros <;> first | assumption | (intro e; exact absurd e (by assumption))) | omega | (have := net_q (by assumption); omega) | (have := net_q (x := el 10 _) (by assumption); omega) | (have := find_q (by assumption); omega) | (have := finds_q (by assumption); omega))
    | with_reducible refine Fo.wh (fun cc ss => fo_SX11_tellRow_12 _ cc (fun c i h => by have hh := hP c i h; first | exact hh | (obtain ⟨g0, g1⟩ := hh; and_intros <;> first | assumption | (intro e; exact absurd e (by assumption))) | omega | (have := net_q (by assumption); omega) | (have := net_q (x := el 10 _) (by assumption); omega) | (have := find_q (by assumption); omega) | (have := finds_q (by assumption); omega)))
    | with_reducible exact fo_FX1_put_3 _ (fun c i h => by have hh := hP c i h; first | exact hh | (obtain ⟨g0, g1⟩ := hh; and_intros <;> first | assumption | (intro e; exact absurd e (by assumption))) | omega | (have := net_q (by assumption); omega) | (have := net_q (x := el 10 _) (by assumption); omega) | (have := find_q (by assumption); omega) | (have := finds_q (by assumption); omega))
    | with_reducible refine Fo.bd ?_ (fun _ _ => ?_)
    | with_reducible refine Fo.ck (fun _ => ?_)
    | with_reducible refine Fo.ite ?_ ?_
    | with_reducible refine Fo.rd (fun _ => ?_)
    | with_reducible refine Fo.wr (fun c i h => by have hh := hP c i h; first | exact hh | (obtain ⟨g0, g1⟩ := hh; and_intros <;> first | assumption | (intro e; exact absurd e (by assumption))) | omega | (have := net_q (by assumption); omega) | (have := net_q (x := el 10 _) (by assumption); omega) | (have := find_q (by assumption); omega) | (have := finds_q (by assumption); omega)) (fun _ => ?_)
    | with_reducible refine Fo.cp (fun c i h => by have hh := hP c i h; first | exact hh | (obtain ⟨g0, g1⟩ := hh; and_intros <;> first | assumption | (intro e; exact absurd e (by assumption))) | omega | (have := net_q (by assumption); omega) | (have := net_q (x := el 10 _) (by assumption); omega)) (fun _ => ?_)
    | with_reducible refine Fo.oe ?_ (fun _ => ?_)
    | with_reducible refine Fo.se (fun _ => ?_) (fun _ => ?_)
set_option maxHeartbeats 4000000 in
theorem fo_FX11_tell {P : Nat → Nat → Prop} {t : St} (a : Int32) (b : Int32) (hP : ∀ c i, P c i → c ≠ 3 ∧ c ≠ 4) : Fo P t (FX11_tell a b t) := by
  unfold FX11_tell
  repeat' first
    | with_reducible exact Fo.ret
    | with_reducible exact Fo.no
    | with_reducible exact fo_FX11_netIn _
    | with_reducible exact fo_FX11_tellNet _ (fun c i h => by have hh := hP c i h; first | exact hh | (obtain ⟨g0, g1⟩ := hh; and_intros <;> first | assumption | (intro e; exact absurd e (by assumption))) | omega | (have := net_q (by assumption); omega) | (have := net_q (x := el 10 _) (by assumption); omega) | (have := find_q (by assumption); omega) | (have := finds_q (by assumption); omega))
    | with_reducible exact fo_FX11_tellRow _ (fun c i h => by have hh := hP c i h; first | exact hh | (obtain ⟨g0, g1⟩ := hh; and_intros <;> first | assumption | (intro e; exact absurd e (by assumption))) | omega | (have := net_q (by assumption); omega) | (have := net_q (x := el 10 _) (by assumption); omega) | (have := find_q (by assumption); omega) | (have := finds_q (by assumption); omega))
    | with_reducible exact fo_FX11_tellCuts _ (fun c i h => by have hh := hP c i h; first | exact hh | (obtain ⟨g0, g1⟩ := hh; and_intros <;> first | assumption | (intro e; exact absurd e (by assumption))) | omega | (have := net_q (by assumption); omega) | (have := net_q (x := el 10 _) (by assumption); omega) | (have := find_q (by assumption); omega) | (have := finds_q (by assumption); omega))
    | with_reducible refine Fo.bd ?_ (fun _ _ => ?_)
    | with_reducible refine Fo.ck (fun _ => ?_)
    | with_reducible refine Fo.ite ?_ ?_
    | with_reducible refine Fo.rd (fun _ => ?_)
    | with_reducible refine Fo.wr (fun c i h => by have hh := hP c i h; first | exact hh | (obtain ⟨g0, g1⟩ := hh; and_intros <;> first | assumption | (intro e; exact absurd e (by assumption))) | omega | (have := net_q (by assumption); omega) | (have := net_q (x := el 10 _) (by assumption); omega) | (have := find_q (by assumption); omega) | (have := finds_q (by assumption); omega)) (fun _ => ?_)
    | with_reducible refine Fo.cp (fun c i h => by have hh := hP c i h; first | exact hh | (obtain ⟨g0, g1⟩ := hh; and_intros <;> first | assumption | (intro e; exact absurd e (by assumption))) | omega | (have := net_q (by assumption); omega) | (have := net_q (x := el 10 _) (by assumption); omega)) (fun _ => ?_)
    | with_reducible refine Fo.oe ?_ (fun _ => ?_)
    | with_reducible refine Fo.se (fun _ => ?_) (fun _ => ?_)
set_option maxHeartbeats 4000000 in
theorem fo_FX11_undo {P : Nat → Nat → Prop} {t : St} (hP : ∀ c i, P c i → c ≠ 98 ∧ (c < 6 ∨ 149 ≤ c)) : Fo P t (FX11_undo t) := by
  unfold FX11_undo
  repeat' first
    | with_reducible exact Fo.ret
    | with_reducible exact Fo.no
    | with_reducible exact fo_FX4_takeBack (fun c i h => by have hh := hP c i h; first | omega | (have := net_q (by assumption); omega) | (have := net_q (x := el 10 _) (by assumption); omega) | (have := find_q (by assumption); omega) | (have := finds_q (by assumption); omega))
    | with_reducible refine Fo.bd ?_ (fun _ _ => ?_)
    | with_reducible refine Fo.ck (fun _ => ?_)
    | with_reducible refine Fo.ite ?_ ?_
    | with_reducible refine Fo.rd (fun _ => ?_)
    | with_reducible refine Fo.wr (fun c i h => by have hh := hP c i h; first | omega | (have := net_q (by assumption); omega) | (have := net_q (x := el 10 _) (by assumption); omega) | (have := find_q (by assumption); omega) | (have := finds_q (by assumption); omega)) (fun _ => ?_)
    | with_reducible refine Fo.cp (fun c i h => by have hh := hP c i h; first | omega | (have := net_q (by assumption); omega) | (have := net_q (x := el 10 _) (by assumption); omega)) (fun _ => ?_)
    | with_reducible refine Fo.oe ?_ (fun _ => ?_)
    | with_reducible refine Fo.se (fun _ => ?_) (fun _ => ?_)
set_option maxHeartbeats 4000000 in
theorem fo_FX11_value {P : Nat → Nat → Prop} {t : St} (a : Int32) (b : Int32) : Fo P t (FX11_value a b t) := by
  unfold FX11_value
  repeat' first
    | with_reducible exact Fo.ret
    | with_reducible exact Fo.no
    | with_reducible exact fo_FX11_netIn _
    | with_reducible exact fo_FX11_isMeasure _
    | with_reducible exact fo_FX8_measured _ _
    | with_reducible refine Fo.bd ?_ (fun _ _ => ?_)
    | with_reducible refine Fo.ck (fun _ => ?_)
    | with_reducible refine Fo.ite ?_ ?_
    | with_reducible refine Fo.rd (fun _ => ?_)
    | with_reducible refine Fo.oe ?_ (fun _ => ?_)
    | with_reducible refine Fo.se (fun _ => ?_) (fun _ => ?_)
set_option maxHeartbeats 4000000 in
theorem fo_FX11_ways {P : Nat → Nat → Prop} {t : St} (a : Int32) (b : Int32) (hP : ∀ c i, P c i → c ≠ 85 ∧ c ≠ 87 ∧ c ≠ 88 ∧ c ≠ 89 ∧ c ≠ 91 ∧ c ≠ 92 ∧ c ≠ 93 ∧ c ≠ 94 ∧ c ≠ 95 ∧ c ≠ 96 ∧ c ≠ 97 ∧ (c < 6 ∨ 149 ≤ c)) : Fo P t (FX11_ways a b t) := by
  unfold FX11_ways
  repeat' first
    | with_reducible exact Fo.ret
    | with_reducible exact Fo.no
    | with_reducible exact fo_FX11_findingOf _ _ (fun c i h => by have hh := hP c i h; first | omega | (have := net_q (by assumption); omega) | (have := net_q (x := el 10 _) (by assumption); omega) | (have := find_q (by assumption); omega) | (have := finds_q (by assumption); omega))
    | with_reducible refine Fo.bd ?_ (fun _ _ => ?_)
    | with_reducible refine Fo.ck (fun _ => ?_)
    | with_reducible refine Fo.ite ?_ ?_
    | with_reducible refine Fo.rd (fun _ => ?_)
    | with_reducible refine Fo.wr (fun c i h => by have hh := hP c i h; first | omega | (have := net_q (by assumption); omega) | (have := net_q (x := el 10 _) (by assumption); omega) | (have := find_q (by assumption); omega) | (have := finds_q (by assumption); omega)) (fun _ => ?_)
    | with_reducible refine Fo.cp (fun c i h => by have hh := hP c i h; first | omega | (have := net_q (by assumption); omega) | (have := net_q (x := el 10 _) (by assumption); omega)) (fun _ => ?_)
    | with_reducible refine Fo.oe ?_ (fun _ => ?_)
    | with_reducible refine Fo.se (fun _ => ?_) (fun _ => ?_)
set_option maxHeartbeats 4000000 in
theorem fo_FX11_within {P : Nat → Nat → Prop} {t : St} (a : Int32) (b : Int32) (c : Int32) (hP : ∀ c i, P c i → c ≠ 85 ∧ c ≠ 87 ∧ c ≠ 89 ∧ c ≠ 91 ∧ c ≠ 92 ∧ c ≠ 93 ∧ c ≠ 94 ∧ c ≠ 95 ∧ c ≠ 96 ∧ c ≠ 97) : Fo P t (FX11_within a b c t) := by
  unfold FX11_within
  repeat' first
    | with_reducible exact Fo.ret
    | with_reducible exact Fo.no
    | with_reducible exact fo_FX11_netIn _
    | with_reducible exact fo_FX11_isBounded _
    | with_reducible exact fo_FX0_rowsWithin _ _ (fun c i h => by have hh := hP c i h; first | exact hh | (obtain ⟨g0, g1, g2, g3, g4, g5, g6, g7, g8, g9⟩ := hh; and_intros <;> first | assumption | (intro e; exact absurd e (by assumption))) | omega | (have := net_q (by assumption); omega) | (have := net_q (x := el 10 _) (by assumption); omega) | (have := find_q (by assumption); omega) | (have := finds_q (by assumption); omega))
    | with_reducible exact fo_FX9_rowsWithin _ _ _ (fun c i h => by have hh := hP c i h; first | exact hh | (obtain ⟨g0, g1, g2, g3, g4, g5, g6, g7, g8, g9⟩ := hh; and_intros <;> first | assumption | (intro e; exact absurd e (by assumption))) | omega | (have := net_q (by assumption); omega) | (have := net_q (x := el 10 _) (by assumption); omega) | (have := find_q (by assumption); omega) | (have := finds_q (by assumption); omega))
    | with_reducible refine Fo.bd ?_ (fun _ _ => ?_)
    | with_reducible refine Fo.ck (fun _ => ?_)
    | with_reducible refine Fo.ite ?_ ?_
    | with_reducible refine Fo.rd (fun _ => ?_)
    | with_reducible refine Fo.wr (fun c i h => by have hh := hP c i h; first | exact hh | (obtain ⟨g0, g1, g2, g3, g4, g5, g6, g7, g8, g9⟩ := hh; and_intros <;> first | assumption | (intro e; exact absurd e (by assumption))) | omega | (have := net_q (by assumption); omega) | (have := net_q (x := el 10 _) (by assumption); omega) | (have := find_q (by assumption); omega) | (have := finds_q (by assumption); omega)) (fun _ => ?_)
    | with_reducible refine Fo.cp (fun c i h => by have hh := hP c i h; first | exact hh | (obtain ⟨g0, g1, g2, g3, g4, g5, g6, g7, g8, g9⟩ := hh; and_intros <;> first | assumption | (intro e; exact absurd e (by assumption))) | omega | (have := net_q (by assumption); omega) | (have := net_q (x := el 10 _) (by assumption); omega)) (fun _ => ?_)
    | with_reducible refine Fo.oe ?_ (fun _ => ?_)
    | with_reducible refine Fo.se (fun _ => ?_) (fun _ => ?_)
set_option maxHeartbeats 4000000 in
theorem fo_FX11_worst {P : Nat → Nat → Prop} {t : St} (a : Int32) (b : Int32) : Fo P t (FX11_worst a b t) := by
  unfold FX11_worst
  repeat' first
    | with_reducible exact Fo.ret
    | with_reducible exact Fo.no
    | with_reducible exact fo_FX11_netIn _
    | with_reducible exact fo_FX11_isPriced _
    | with_reducible exact fo_FX6_firstStep _
    | with_reducible exact fo_FX5_has _ _
    | with_reducible exact fo_FX8_worstStep _ _
    | with_reducible refine Fo.bd ?_ (fun _ _ => ?_)
    | with_reducible refine Fo.ck (fun _ => ?_)
    | with_reducible refine Fo.ite ?_ ?_
    | with_reducible refine Fo.rd (fun _ => ?_)
    | with_reducible refine Fo.oe ?_ (fun _ => ?_)
    | with_reducible refine Fo.se (fun _ => ?_) (fun _ => ?_)
set_option maxHeartbeats 4000000 in
theorem fo_FX12_in {P : Nat → Nat → Prop} {t : St} (a : Int64) (b : Int64) (c : Int64) : Fo P t (FX12_in a b c t) := by
  unfold FX12_in
  repeat' first
    | with_reducible exact Fo.ret
    | with_reducible exact Fo.no
    | with_reducible refine Fo.bd ?_ (fun _ _ => ?_)
    | with_reducible refine Fo.ck (fun _ => ?_)
    | with_reducible refine Fo.ite ?_ ?_
    | with_reducible refine Fo.rd (fun _ => ?_)
    | with_reducible refine Fo.oe ?_ (fun _ => ?_)
    | with_reducible refine Fo.se (fun _ => ?_) (fun _ => ?_)
set_option maxHeartbeats 4000000 in
theorem fo_FX12_isSlot {P : Nat → Nat → Prop} {t : St} (a : Int32) : Fo P t (FX12_isSlot a t) := by
  unfold FX12_isSlot
  repeat' first
    | with_reducible exact Fo.ret
    | with_reducible exact Fo.no
    | with_reducible exact fo_FX12_in _ _ _
    | with_reducible refine Fo.bd ?_ (fun _ _ => ?_)
    | with_reducible refine Fo.ck (fun _ => ?_)
    | with_reducible refine Fo.ite ?_ ?_
    | with_reducible refine Fo.rd (fun _ => ?_)
    | with_reducible refine Fo.oe ?_ (fun _ => ?_)
    | with_reducible refine Fo.se (fun _ => ?_) (fun _ => ?_)
set_option maxHeartbeats 4000000 in
theorem fo_FX12_points {P : Nat → Nat → Prop} {t : St} (a : Int32) : Fo P t (FX12_points a t) := by
  unfold FX12_points
  repeat' first
    | with_reducible exact Fo.ret
    | with_reducible exact Fo.no
    | with_reducible refine Fo.bd ?_ (fun _ _ => ?_)
    | with_reducible refine Fo.ck (fun _ => ?_)
    | with_reducible refine Fo.ite ?_ ?_
    | with_reducible refine Fo.rd (fun _ => ?_)
    | with_reducible refine Fo.oe ?_ (fun _ => ?_)
    | with_reducible refine Fo.se (fun _ => ?_) (fun _ => ?_)
set_option maxHeartbeats 4000000 in
theorem fo_FX12_isNet {P : Nat → Nat → Prop} {t : St} (a : Int32) : Fo P t (FX12_isNet a t) := by
  unfold FX12_isNet
  repeat' first
    | with_reducible exact Fo.ret
    | with_reducible exact Fo.no
    | with_reducible exact fo_FX12_isSlot _
    | with_reducible exact fo_FX12_points _
    | with_reducible refine Fo.bd ?_ (fun _ _ => ?_)
    | with_reducible refine Fo.ck (fun _ => ?_)
    | with_reducible refine Fo.ite ?_ ?_
    | with_reducible refine Fo.rd (fun _ => ?_)
    | with_reducible refine Fo.oe ?_ (fun _ => ?_)
    | with_reducible refine Fo.se (fun _ => ?_) (fun _ => ?_)
set_option maxHeartbeats 4000000 in
theorem fo_FX12_isPoint {P : Nat → Nat → Prop} {t : St} (a : Int32) (b : Int32) : Fo P t (FX12_isPoint a b t) := by
  unfold FX12_isPoint
  repeat' first
    | with_reducible exact Fo.ret
    | with_reducible exact Fo.no
    | with_reducible exact fo_FX12_isNet _
    | with_reducible exact fo_FX12_points _
    | with_reducible exact fo_FX12_in _ _ _
    | with_reducible refine Fo.bd ?_ (fun _ _ => ?_)
    | with_reducible refine Fo.ck (fun _ => ?_)
    | with_reducible refine Fo.ite ?_ ?_
    | with_reducible refine Fo.rd (fun _ => ?_)
    | with_reducible refine Fo.oe ?_ (fun _ => ?_)
    | with_reducible refine Fo.se (fun _ => ?_) (fun _ => ?_)
set_option maxHeartbeats 4000000 in
theorem fo_FX12_areTwo {P : Nat → Nat → Prop} {t : St} (a : Int32) (b : Int32) (c : Int32) : Fo P t (FX12_areTwo a b c t) := by
  unfold FX12_areTwo
  repeat' first
    | with_reducible exact Fo.ret
    | with_reducible exact Fo.no
    | with_reducible exact fo_FX12_isPoint _ _
    | with_reducible refine Fo.bd ?_ (fun _ _ => ?_)
    | with_reducible refine Fo.ck (fun _ => ?_)
    | with_reducible refine Fo.ite ?_ ?_
    | with_reducible refine Fo.rd (fun _ => ?_)
    | with_reducible refine Fo.oe ?_ (fun _ => ?_)
    | with_reducible refine Fo.se (fun _ => ?_) (fun _ => ?_)
set_option maxHeartbeats 4000000 in
theorem fo_SX12_keeps_52 {P : Nat → Nat → Prop} {t : St} (w1 : Int32) (c : Int32) (hP : ∀ c i, P c i → c ≠ 152) : Fo P t (SX12_keeps_52 w1 c t) := by
  unfold SX12_keeps_52
  repeat' first
    | with_reducible exact Fo.ret
    | with_reducible exact Fo.no
    | with_reducible refine Fo.bd ?_ (fun _ _ => ?_)
    | with_reducible refine Fo.ck (fun _ => ?_)
    | with_reducible refine Fo.ite ?_ ?_
    | with_reducible refine Fo.rd (fun _ => ?_)
    | with_reducible refine Fo.wr (fun c i h => by have hh := hP c i h; first | exact hh | (intro e; exact absurd e hh) | omega | (have := net_q (by assumption); omega) | (have := net_q (x := el 10 _) (by assumption); omega) | (have := find_q (by assumption); omega) | (have := finds_q (by assumption); omega)) (fun _ => ?_)
    | with_reducible refine Fo.cp (fun c i h => by have hh := hP c i h; first | exact hh | (intro e; exact absurd e hh) | omega | (have := net_q (by assumption); omega) | (have := net_q (x := el 10 _) (by assumption); omega)) (fun _ => ?_)
    | with_reducible refine Fo.oe ?_ (fun _ => ?_)
    | with_reducible refine Fo.se (fun _ => ?_) (fun _ => ?_)
set_option maxHeartbeats 4000000 in
theorem fo_SX12_keeps_11 {P : Nat → Nat → Prop} {t : St} (w1 : Int32) (c : Int32) (hP : ∀ c i, P c i → c ≠ 152) : Fo P t (SX12_keeps_11 w1 c t) := by
  unfold SX12_keeps_11
  repeat' first
    | with_reducible exact Fo.ret
    | with_reducible exact Fo.no
    | with_reducible refine Fo.bd ?_ (fun _ _ => ?_)
    | with_reducible refine Fo.ck (fun _ => ?_)
    | with_reducible refine Fo.ite ?_ ?_
    | with_reducible refine Fo.rd (fun _ => ?_)
    | with_reducible refine Fo.wr (fun c i h => by have hh := hP c i h; first | exact hh | (intro e; exact absurd e hh) | omega | (have := net_q (by assumption); omega) | (have := net_q (x := el 10 _) (by assumption); omega) | (have := find_q (by assumption); omega) | (have := finds_q (by assumption); omega)) (fun _ => ?_)
    | with_reducible refine Fo.cp (fun c i h => by have hh := hP c i h; first | exact hh | (intro e; exact absurd e hh) | omega | (have := net_q (by assumption); omega) | (have := net_q (x := el 10 _) (by assumption); omega)) (fun _ => ?_)
    | with_reducible refine Fo.oe ?_ (fun _ => ?_)
    | with_reducible refine Fo.se (fun _ => ?_) (fun _ => ?_)
set_option maxHeartbeats 4000000 in
theorem fo_FX12_keeps {P : Nat → Nat → Prop} {t : St} (a : Int32) (hP : ∀ c i, P c i → c ≠ 152 ∧ (c = 149 → i ≠ 3)) : Fo P t (FX12_keeps a t) := by
  unfold FX12_keeps
  repeat' first
    | with_reducible exact Fo.ret
    | with_reducible exact Fo.no
    | with_reducible refine Fo.wh (fun cc ss => fo_SX12_keeps_11 _ cc (fun c i h => by have hh := hP c i h; first | exact hh | (obtain ⟨g0, g1⟩ := hh; and_intros <;> first | assumption | (intro e; exact absurd e (by assumption))) | omega | (have := net_q (by assumption); omega) | (have := net_q (x := el 10 _) (by assumption); omega) | (have := find_q (by assumption); omega) | (have := finds_q (by assumption); omega)))
    | with_reducible refine Fo.wh (fun cc ss => fo_SX12_keeps_52 _ cc (fun c i h => by have hh := hP c i h; first | exact hh | (obtain ⟨g0, g1⟩ := hh; and_intros <;> first | assumption | (intro e; exact absurd e (by assumption))) | omega | (have := net_q (by assumption); omega) | (have := net_q (x := el 10 _) (by assumption); omega) | (have := find_q (by assumption); omega) | (have := finds_q (by assumption); omega)))
    | with_reducible refine Fo.bd ?_ (fun _ _ => ?_)
    | with_reducible refine Fo.ck (fun _ => ?_)
    | with_reducible refine Fo.ite ?_ ?_
    | with_reducible refine Fo.rd (fun _ => ?_)
    | with_reducible refine Fo.wr (fun c i h => by have hh := hP c i h; first | exact hh | (obtain ⟨g0, g1⟩ := hh; and_intros <;> first | assumption | (intro e; exact absurd e (by assumption))) | omega | (have := net_q (by assumption); omega) | (have := net_q (x := el 10 _) (by assumption); omega) | (have := find_q (by assumption); omega) | (have := finds_q (by assumption); omega)) (fun _ => ?_)
    | with_reducible refine Fo.cp (fun c i h => by have hh := hP c i h; first | exact hh | (obtain ⟨g0, g1⟩ := hh; and_intros <;> first | assumption | (intro e; exact absurd e (by assumption))) | omega | (have := net_q (by assumption); omega) | (have := net_q (x := el 10 _) (by assumption); omega)) (fun _ => ?_)
    | with_reducible refine Fo.oe ?_ (fun _ => ?_)
    | with_reducible refine Fo.se (fun _ => ?_) (fun _ => ?_)
set_option maxHeartbeats 4000000 in
theorem fo_SX12_done_2 {P : Nat → Nat → Prop} {t : St} (w1 : Int32) (c : Int32) (hP : ∀ c i, P c i → c ≠ 152 ∧ (c = 149 → i ≠ 3)) : Fo P t (SX12_done_2 w1 c t) := by
  unfold SX12_done_2
  repeat' first
    | with_reducible exact Fo.ret
    | with_reducible exact Fo.no
    | with_reducible exact fo_FX12_keeps _ (fun c i h => by have hh := hP c i h; first | exact hh | (obtain ⟨g0, g1⟩ := hh; and_intros <;> first | assumption | (intro e; exact absurd e (by assumption))) | omega | (have := net_q (by assumption); omega) | (have := net_q (x := el 10 _) (by assumption); omega) | (have := find_q (by assumption); omega) | (have := finds_q (by assumption); omega))
    | with_reducible refine Fo.bd ?_ (fun _ _ => ?_)
    | with_reducible refine Fo.ck (fun _ => ?_)
    | with_reducible refine Fo.ite ?_ ?_
    | with_reducible refine Fo.rd (fun _ => ?_)
    | with_reducible refine Fo.wr (fun c i h => by have hh := hP c i h; first | exact hh | (obtain ⟨g0, g1⟩ := hh; and_intros <;> first | assumption | (intro e; exact absurd e (by assumption))) | omega | (have := net_q (by assumption); omega) | (have := net_q (x := el 10 _) (by assumption); omega) | (have := find_q (by assumption); omega) | (have := finds_q (by assumption); omega)) (fun _ => ?_)
    | with_reducible refine Fo.cp (fun c i h => by have hh := hP c i h; first | exact hh | (obtain ⟨g0, g1⟩ := hh; and_intros <;> first | assumption | (intro e; exact absurd e (by assumption))) | omega | (have := net_q (by assumption); omega) | (have := net_q (x := el 10 _) (by assumption); omega)) (fun _ => ?_)
    | with_reducible refine Fo.oe ?_ (fun _ => ?_)
    | with_reducible refine Fo.se (fun _ => ?_) (fun _ => ?_)
set_option maxHeartbeats 4000000 in
theorem fo_FX12_done {P : Nat → Nat → Prop} {t : St} (a : Int32) (hP : ∀ c i, P c i → c ≠ 152 ∧ (c = 149 → i ≠ 3)) : Fo P t (FX12_done a t) := by
  unfold FX12_done
  repeat' first
    | with_reducible exact Fo.ret
    | with_reducible exact Fo.no
    | with_reducible refine Fo.wh (fun cc ss => fo_SX12_done_2 _ cc (fun c i h => by have hh := hP c i h; first | exact hh | (obtain ⟨g0, g1⟩ := hh; and_intros <;> first | assumption | (intro e; exact absurd e (by assumption))) | omega | (have := net_q (by assumption); omega) | (have := net_q (x := el 10 _) (by assumption); omega) | (have := find_q (by assumption); omega) | (have := finds_q (by assumption); omega)))
    | with_reducible refine Fo.bd ?_ (fun _ _ => ?_)
    | with_reducible refine Fo.ck (fun _ => ?_)
    | with_reducible refine Fo.ite ?_ ?_
    | with_reducible refine Fo.rd (fun _ => ?_)
    | with_reducible refine Fo.wr (fun c i h => by have hh := hP c i h; first | exact hh | (obtain ⟨g0, g1⟩ := hh; and_intros <;> first | assumption | (intro e; exact absurd e (by assumption))) | omega | (have := net_q (by assumption); omega) | (have := net_q (x := el 10 _) (by assumption); omega) | (have := find_q (by assumption); omega) | (have := finds_q (by assumption); omega)) (fun _ => ?_)
    | with_reducible refine Fo.cp (fun c i h => by have hh := hP c i h; first | exact hh | (obtain ⟨g0, g1⟩ := hh; and_intros <;> first | assumption | (intro e; exact absurd e (by assumption))) | omega | (have := net_q (by assumption); omega) | (have := net_q (x := el 10 _) (by assumption); omega)) (fun _ => ?_)
    | with_reducible refine Fo.oe ?_ (fun _ => ?_)
    | with_reducible refine Fo.se (fun _ => ?_) (fun _ => ?_)
set_option maxHeartbeats 4000000 in
theorem fo_FX12_weight {P : Nat → Nat → Prop} {t : St} (a : Int32) (b : Int32) (c : Int32) : Fo P t (FX12_weight a b c t) := by
  unfold FX12_weight
  repeat' first
    | with_reducible exact Fo.ret
    | with_reducible exact Fo.no
    | with_reducible refine Fo.bd ?_ (fun _ _ => ?_)
    | with_reducible refine Fo.ck (fun _ => ?_)
    | with_reducible refine Fo.ite ?_ ?_
    | with_reducible refine Fo.rd (fun _ => ?_)
    | with_reducible refine Fo.oe ?_ (fun _ => ?_)
    | with_reducible refine Fo.se (fun _ => ?_) (fun _ => ?_)
set_option maxHeartbeats 4000000 in
theorem fo_SX12_nearOf_5 {P : Nat → Nat → Prop} {t : St} (w1 : Int32) (w2 : Int32) (c : Int32 × Int32) : Fo P t (SX12_nearOf_5 w1 w2 c t) := by
  unfold SX12_nearOf_5
  repeat' first
    | with_reducible exact Fo.ret
    | with_reducible exact Fo.no
    | with_reducible exact fo_FX12_points _
    | with_reducible exact fo_FX12_weight _ _ _
    | with_reducible refine Fo.bd ?_ (fun _ _ => ?_)
    | with_reducible refine Fo.ck (fun _ => ?_)
    | with_reducible refine Fo.ite ?_ ?_
    | with_reducible refine Fo.rd (fun _ => ?_)
    | with_reducible refine Fo.oe ?_ (fun _ => ?_)
    | with_reducible refine Fo.se (fun _ => ?_) (fun _ => ?_)
set_option maxHeartbeats 4000000 in
theorem fo_FX12_nearOf {P : Nat → Nat → Prop} {t : St} (a : Int32) (b : Int32) : Fo P t (FX12_nearOf a b t) := by
  unfold FX12_nearOf
  repeat' first
    | with_reducible exact Fo.ret
    | with_reducible exact Fo.no
    | with_reducible refine Fo.wh (fun cc ss => fo_SX12_nearOf_5 _ _ cc)
    | with_reducible refine Fo.bd ?_ (fun _ _ => ?_)
    | with_reducible refine Fo.ck (fun _ => ?_)
    | with_reducible refine Fo.ite ?_ ?_
    | with_reducible refine Fo.rd (fun _ => ?_)
    | with_reducible refine Fo.oe ?_ (fun _ => ?_)
    | with_reducible refine Fo.se (fun _ => ?_) (fun _ => ?_)
set_option maxHeartbeats 4000000 in
theorem fo_SX12_ones_4 {P : Nat → Nat → Prop} {t : St} (c : Int32 × Int32) : Fo P t (SX12_ones_4 c t) := by
  unfold SX12_ones_4
  repeat' first
    | with_reducible exact Fo.ret
    | with_reducible exact Fo.no
    | with_reducible refine Fo.bd ?_ (fun _ _ => ?_)
    | with_reducible refine Fo.ck (fun _ => ?_)
    | with_reducible refine Fo.ite ?_ ?_
    | with_reducible refine Fo.rd (fun _ => ?_)
    | with_reducible refine Fo.oe ?_ (fun _ => ?_)
    | with_reducible refine Fo.se (fun _ => ?_) (fun _ => ?_)
set_option maxHeartbeats 4000000 in
theorem fo_FX12_ones {P : Nat → Nat → Prop} {t : St} (a : Int32) : Fo P t (FX12_ones a t) := by
  unfold FX12_ones
  repeat' first
    | with_reducible exact Fo.ret
    | with_reducible exact Fo.no
    | with_reducible refine Fo.wh (fun cc ss => fo_SX12_ones_4 cc)
    | with_reducible refine Fo.bd ?_ (fun _ _ => ?_)
    | with_reducible refine Fo.ck (fun _ => ?_)
    | with_reducible refine Fo.ite ?_ ?_
    | with_reducible refine Fo.rd (fun _ => ?_)
    | with_reducible refine Fo.oe ?_ (fun _ => ?_)
    | with_reducible refine Fo.se (fun _ => ?_) (fun _ => ?_)
set_option maxHeartbeats 4000000 in
theorem fo_SX12_lines_4 {P : Nat → Nat → Prop} {t : St} (w1 : Int32) (c : Int32 × Int32) : Fo P t (SX12_lines_4 w1 c t) := by
  unfold SX12_lines_4
  repeat' first
    | with_reducible exact Fo.ret
    | with_reducible exact Fo.no
    | with_reducible exact fo_FX12_points _
    | with_reducible exact fo_FX12_nearOf _ _
    | with_reducible exact fo_FX12_ones _
    | with_reducible refine Fo.bd ?_ (fun _ _ => ?_)
    | with_reducible refine Fo.ck (fun _ => ?_)
    | with_reducible refine Fo.ite ?_ ?_
    | with_reducible refine Fo.rd (fun _ => ?_)
    | with_reducible refine Fo.oe ?_ (fun _ => ?_)
    | with_reducible refine Fo.se (fun _ => ?_) (fun _ => ?_)
set_option maxHeartbeats 4000000 in
theorem fo_FX12_lines {P : Nat → Nat → Prop} {t : St} (a : Int32) : Fo P t (FX12_lines a t) := by
  unfold FX12_lines
  repeat' first
    | with_reducible exact Fo.ret
    | with_reducible exact Fo.no
    | with_reducible refine Fo.wh (fun cc ss => fo_SX12_lines_4 _ cc)
    | with_reducible refine Fo.bd ?_ (fun _ _ => ?_)
    | with_reducible refine Fo.ck (fun _ => ?_)
    | with_reducible refine Fo.ite ?_ ?_
    | with_reducible refine Fo.rd (fun _ => ?_)
    | with_reducible refine Fo.oe ?_ (fun _ => ?_)
    | with_reducible refine Fo.se (fun _ => ?_) (fun _ => ?_)
set_option maxHeartbeats 4000000 in
theorem fo_SX12_remembers_2 {P : Nat → Nat → Prop} {t : St} (c : Int32) (hP : ∀ c i, P c i → c ≠ 151) : Fo P t (SX12_remembers_2 c t) := by
  unfold SX12_remembers_2
  repeat' first
    | with_reducible exact Fo.ret
    | with_reducible exact Fo.no
    | with_reducible refine Fo.bd ?_ (fun _ _ => ?_)
    | with_reducible refine Fo.ck (fun _ => ?_)
    | with_reducible refine Fo.ite ?_ ?_
    | with_reducible refine Fo.rd (fun _ => ?_)
    | with_reducible refine Fo.wr (fun c i h => by have hh := hP c i h; first | exact hh | (intro e; exact absurd e hh) | omega | (have := net_q (by assumption); omega) | (have := net_q (x := el 10 _) (by assumption); omega) | (have := find_q (by assumption); omega) | (have := finds_q (by assumption); omega)) (fun _ => ?_)
    | with_reducible refine Fo.cp (fun c i h => by have hh := hP c i h; first | exact hh | (intro e; exact absurd e hh) | omega | (have := net_q (by assumption); omega) | (have := net_q (x := el 10 _) (by assumption); omega)) (fun _ => ?_)
    | with_reducible refine Fo.oe ?_ (fun _ => ?_)
    | with_reducible refine Fo.se (fun _ => ?_) (fun _ => ?_)
set_option maxHeartbeats 4000000 in
theorem fo_FX12_remembers {P : Nat → Nat → Prop} {t : St} (hP : ∀ c i, P c i → c ≠ 151) : Fo P t (FX12_remembers t) := by
  unfold FX12_remembers
  repeat' first
    | with_reducible exact Fo.ret
    | with_reducible exact Fo.no
    | with_reducible refine Fo.wh (fun cc ss => fo_SX12_remembers_2 cc (fun c i h => by have hh := hP c i h; first | exact hh | (intro e; exact absurd e hh) | omega | (have := net_q (by assumption); omega) | (have := net_q (x := el 10 _) (by assumption); omega) | (have := find_q (by assumption); omega) | (have := finds_q (by assumption); omega)))
    | with_reducible refine Fo.bd ?_ (fun _ _ => ?_)
    | with_reducible refine Fo.ck (fun _ => ?_)
    | with_reducible refine Fo.ite ?_ ?_
    | with_reducible refine Fo.rd (fun _ => ?_)
    | with_reducible refine Fo.wr (fun c i h => by have hh := hP c i h; first | exact hh | (intro e; exact absurd e hh) | omega | (have := net_q (by assumption); omega) | (have := net_q (x := el 10 _) (by assumption); omega) | (have := find_q (by assumption); omega) | (have := finds_q (by assumption); omega)) (fun _ => ?_)
    | with_reducible refine Fo.cp (fun c i h => by have hh := hP c i h; first | exact hh | (intro e; exact absurd e hh) | omega | (have := net_q (by assumption); omega) | (have := net_q (x := el 10 _) (by assumption); omega)) (fun _ => ?_)
    | with_reducible refine Fo.oe ?_ (fun _ => ?_)
    | with_reducible refine Fo.se (fun _ => ?_) (fun _ => ?_)
set_option maxHeartbeats 4000000 in
theorem fo_FX12_weighs {P : Nat → Nat → Prop} {t : St} (a : Int32) (b : Int32) (c : Int32) (d : Int32) (hP : ∀ c i, P c i → c ≠ 150) : Fo P t (FX12_weighs a b c d t) := by
  unfold FX12_weighs
  repeat' first
    | with_reducible exact Fo.ret
    | with_reducible exact Fo.no
    | with_reducible refine Fo.bd ?_ (fun _ _ => ?_)
    | with_reducible refine Fo.ck (fun _ => ?_)
    | with_reducible refine Fo.ite ?_ ?_
    | with_reducible refine Fo.rd (fun _ => ?_)
    | with_reducible refine Fo.wr (fun c i h => by have hh := hP c i h; first | exact hh | (intro e; exact absurd e hh) | omega | (have := net_q (by assumption); omega) | (have := net_q (x := el 10 _) (by assumption); omega) | (have := find_q (by assumption); omega) | (have := finds_q (by assumption); omega)) (fun _ => ?_)
    | with_reducible refine Fo.cp (fun c i h => by have hh := hP c i h; first | exact hh | (intro e; exact absurd e hh) | omega | (have := net_q (by assumption); omega) | (have := net_q (x := el 10 _) (by assumption); omega)) (fun _ => ?_)
    | with_reducible refine Fo.oe ?_ (fun _ => ?_)
    | with_reducible refine Fo.se (fun _ => ?_) (fun _ => ?_)
set_option maxHeartbeats 4000000 in
theorem fo_FX12_adds {P : Nat → Nat → Prop} {t : St} (a : Int32) (b : Int32) (c : Int32) (d : Int32) (hP : ∀ c i, P c i → c ≠ 150 ∧ c ≠ 151 ∧ c ≠ 152 ∧ (c = 149 → i ≠ 3)) : Fo P t (FX12_adds a b c d t) := by
  unfold FX12_adds
  repeat' first
    | with_reducible exact Fo.ret
    | with_reducible exact Fo.no
    | with_reducible exact fo_FX12_areTwo _ _ _
    | with_reducible exact fo_FX12_in _ _ _
    | with_reducible exact fo_FX12_weight _ _ _
    | with_reducible exact fo_FX12_lines _
    | with_reducible exact fo_FX12_remembers (fun c i h => by have hh := hP c i h; first | exact hh | (obtain ⟨g0, g1, g2, g3⟩ := hh; and_intros <;> first | assumption | (intro e; exact absurd e (by assumption))) | omega | (have := net_q (by assumption); omega) | (have := net_q (x := el 10 _) (by assumption); omega) | (have := find_q (by assumption); omega) | (have := finds_q (by assumption); omega))
    | with_reducible exact fo_FX12_weighs _ _ _ _ (fun c i h => by have hh := hP c i h; first | exact hh | (obtain ⟨g0, g1, g2, g3⟩ := hh; and_intros <;> first | assumption | (intro e; exact absurd e (by assumption))) | omega | (have := net_q (by assumption); omega) | (have := net_q (x := el 10 _) (by assumption); omega) | (have := find_q (by assumption); omega) | (have := finds_q (by assumption); omega))
    | with_reducible exact fo_FX12_done _ (fun c i h => by have hh := hP c i h; first | exact hh | (obtain ⟨g0, g1, g2, g3⟩ := hh; and_intros <;> first | assumption | (intro e; exact absurd e (by assumption))) | omega | (have := net_q (by assumption); omega) | (have := net_q (x := el 10 _) (by assumption); omega) | (have := find_q (by assumption); omega) | (have := finds_q (by assumption); omega))
    | with_reducible refine Fo.bd ?_ (fun _ _ => ?_)
    | with_reducible refine Fo.ck (fun _ => ?_)
    | with_reducible refine Fo.ite ?_ ?_
    | with_reducible refine Fo.rd (fun _ => ?_)
    | with_reducible refine Fo.wr (fun c i h => by have hh := hP c i h; first | exact hh | (obtain ⟨g0, g1, g2, g3⟩ := hh; and_intros <;> first | assumption | (intro e; exact absurd e (by assumption))) | omega | (have := net_q (by assumption); omega) | (have := net_q (x := el 10 _) (by assumption); omega) | (have := find_q (by assumption); omega) | (have := finds_q (by assumption); omega)) (fun _ => ?_)
    | with_reducible refine Fo.cp (fun c i h => by have hh := hP c i h; first | exact hh | (obtain ⟨g0, g1, g2, g3⟩ := hh; and_intros <;> first | assumption | (intro e; exact absurd e (by assumption))) | omega | (have := net_q (by assumption); omega) | (have := net_q (x := el 10 _) (by assumption); omega)) (fun _ => ?_)
    | with_reducible refine Fo.oe ?_ (fun _ => ?_)
    | with_reducible refine Fo.se (fun _ => ?_) (fun _ => ?_)
set_option maxHeartbeats 4000000 in
theorem fo_FX12_at {P : Nat → Nat → Prop} {t : St} (a : Int32) (b : Int32) : Fo P t (FX12_at a b t) := by
  unfold FX12_at
  repeat' first
    | with_reducible exact Fo.ret
    | with_reducible exact Fo.no
    | with_reducible refine Fo.bd ?_ (fun _ _ => ?_)
    | with_reducible refine Fo.ck (fun _ => ?_)
    | with_reducible refine Fo.ite ?_ ?_
    | with_reducible refine Fo.rd (fun _ => ?_)
    | with_reducible refine Fo.oe ?_ (fun _ => ?_)
    | with_reducible refine Fo.se (fun _ => ?_) (fun _ => ?_)
set_option maxHeartbeats 4000000 in
theorem fo_SX12_aheadOf_5 {P : Nat → Nat → Prop} {t : St} (w1 : Int32) (w2 : Int32) (c : Int32 × Int32) : Fo P t (SX12_aheadOf_5 w1 w2 c t) := by
  unfold SX12_aheadOf_5
  repeat' first
    | with_reducible exact Fo.ret
    | with_reducible exact Fo.no
    | with_reducible exact fo_FX12_at _ _
    | with_reducible refine Fo.bd ?_ (fun _ _ => ?_)
    | with_reducible refine Fo.ck (fun _ => ?_)
    | with_reducible refine Fo.ite ?_ ?_
    | with_reducible refine Fo.rd (fun _ => ?_)
    | with_reducible refine Fo.oe ?_ (fun _ => ?_)
    | with_reducible refine Fo.se (fun _ => ?_) (fun _ => ?_)
set_option maxHeartbeats 4000000 in
theorem fo_FX12_aheadOf {P : Nat → Nat → Prop} {t : St} (a : Int32) (b : Int32) : Fo P t (FX12_aheadOf a b t) := by
  unfold FX12_aheadOf
  repeat' first
    | with_reducible exact Fo.ret
    | with_reducible exact Fo.no
    | with_reducible refine Fo.wh (fun cc ss => fo_SX12_aheadOf_5 _ _ cc)
    | with_reducible refine Fo.bd ?_ (fun _ _ => ?_)
    | with_reducible refine Fo.ck (fun _ => ?_)
    | with_reducible refine Fo.ite ?_ ?_
    | with_reducible refine Fo.rd (fun _ => ?_)
    | with_reducible refine Fo.oe ?_ (fun _ => ?_)
    | with_reducible refine Fo.se (fun _ => ?_) (fun _ => ?_)
set_option maxHeartbeats 4000000 in
theorem fo_FX12_has {P : Nat → Nat → Prop} {t : St} (a : Int32) (b : Int32) : Fo P t (FX12_has a b t) := by
  unfold FX12_has
  repeat' first
    | with_reducible exact Fo.ret
    | with_reducible exact Fo.no
    | with_reducible refine Fo.bd ?_ (fun _ _ => ?_)
    | with_reducible refine Fo.ck (fun _ => ?_)
    | with_reducible refine Fo.ite ?_ ?_
    | with_reducible refine Fo.rd (fun _ => ?_)
    | with_reducible refine Fo.oe ?_ (fun _ => ?_)
    | with_reducible refine Fo.se (fun _ => ?_) (fun _ => ?_)
set_option maxHeartbeats 4000000 in
theorem fo_SX12_neighbours_25 {P : Nat → Nat → Prop} {t : St} (w1 : Int32) (w2 : Int32) (w3 : Int32) (w5 : Int32) (c : Int32 × Int32) : Fo P t (SX12_neighbours_25 w1 w2 w3 w5 c t) := by
  unfold SX12_neighbours_25
  repeat' first
    | with_reducible exact Fo.ret
    | with_reducible exact Fo.no
    | with_reducible exact fo_FX12_points _
    | with_reducible exact fo_FX12_has _ _
    | with_reducible exact fo_FX12_nearOf _ _
    | with_reducible refine Fo.bd ?_ (fun _ _ => ?_)
    | with_reducible refine Fo.ck (fun _ => ?_)
    | with_reducible refine Fo.ite ?_ ?_
    | with_reducible refine Fo.rd (fun _ => ?_)
    | with_reducible refine Fo.oe ?_ (fun _ => ?_)
    | with_reducible refine Fo.se (fun _ => ?_) (fun _ => ?_)
set_option maxHeartbeats 4000000 in
theorem fo_SX12_neighbours_11 {P : Nat → Nat → Prop} {t : St} (w1 : Int32) (w2 : Int32) (w3 : Int32) (c : Int32 × Int32) : Fo P t (SX12_neighbours_11 w1 w2 w3 c t) := by
  unfold SX12_neighbours_11
  repeat' first
    | with_reducible exact Fo.ret
    | with_reducible exact Fo.no
    | with_reducible refine Fo.wh (fun cc ss => fo_SX12_neighbours_25 _ _ _ _ cc)
    | with_reducible refine Fo.bd ?_ (fun _ _ => ?_)
    | with_reducible refine Fo.ck (fun _ => ?_)
    | with_reducible refine Fo.ite ?_ ?_
    | with_reducible refine Fo.rd (fun _ => ?_)
    | with_reducible refine Fo.oe ?_ (fun _ => ?_)
    | with_reducible refine Fo.se (fun _ => ?_) (fun _ => ?_)
set_option maxHeartbeats 4000000 in
theorem fo_FX12_neighbours {P : Nat → Nat → Prop} {t : St} (a : Int32) (b : Int32) (c : Int32) : Fo P t (FX12_neighbours a b c t) := by
  unfold FX12_neighbours
  repeat' first
    | with_reducible exact Fo.ret
    | with_reducible exact Fo.no
    | with_reducible exact fo_FX12_nearOf _ _
    | with_reducible refine Fo.wh (fun cc ss => fo_SX12_neighbours_11 _ _ _ cc)
    | with_reducible refine Fo.bd ?_ (fun _ _ => ?_)
    | with_reducible refine Fo.ck (fun _ => ?_)
    | with_reducible refine Fo.ite ?_ ?_
    | with_reducible refine Fo.rd (fun _ => ?_)
    | with_reducible refine Fo.oe ?_ (fun _ => ?_)
    | with_reducible refine Fo.se (fun _ => ?_) (fun _ => ?_)
set_option maxHeartbeats 4000000 in
theorem fo_SX12_fillOf_15 {P : Nat → Nat → Prop} {t : St} (w1 : Int32) (w2 : Int32) (w4 : Int32) (c : Int32 × Int32) : Fo P t (SX12_fillOf_15 w1 w2 w4 c t) := by
  unfold SX12_fillOf_15
  repeat' first
    | with_reducible exact Fo.ret
    | with_reducible exact Fo.no
    | with_reducible exact fo_FX12_points _
    | with_reducible exact fo_FX12_has _ _
    | with_reducible exact fo_FX12_neighbours _ _ _
    | with_reducible exact fo_FX12_ones _
    | with_reducible refine Fo.bd ?_ (fun _ _ => ?_)
    | with_reducible refine Fo.ck (fun _ => ?_)
    | with_reducible refine Fo.ite ?_ ?_
    | with_reducible refine Fo.rd (fun _ => ?_)
    | with_reducible refine Fo.oe ?_ (fun _ => ?_)
    | with_reducible refine Fo.se (fun _ => ?_) (fun _ => ?_)
set_option maxHeartbeats 4000000 in
theorem fo_FX12_fillOf {P : Nat → Nat → Prop} {t : St} (a : Int32) (b : Int32) (c : Int32) : Fo P t (FX12_fillOf a b c t) := by
  unfold FX12_fillOf
  repeat' first
    | with_reducible exact Fo.ret
    | with_reducible exact Fo.no
    | with_reducible exact fo_FX12_neighbours _ _ _
    | with_reducible refine Fo.wh (fun cc ss => fo_SX12_fillOf_15 _ _ _ cc)
    | with_reducible refine Fo.bd ?_ (fun _ _ => ?_)
    | with_reducible refine Fo.ck (fun _ => ?_)
    | with_reducible refine Fo.ite ?_ ?_
    | with_reducible refine Fo.rd (fun _ => ?_)
    | with_reducible refine Fo.oe ?_ (fun _ => ?_)
    | with_reducible refine Fo.se (fun _ => ?_) (fun _ => ?_)
set_option maxHeartbeats 4000000 in
theorem fo_SX12_splitOf_118 {P : Nat → Nat → Prop} {t : St} (w1 : Int32) (w2 : Int32) (w3 : Int32) (w5 : Int32) (c : Int32 × Int32) : Fo P t (SX12_splitOf_118 w1 w2 w3 w5 c t) := by
  unfold SX12_splitOf_118
  repeat' first
    | with_reducible exact Fo.ret
    | with_reducible exact Fo.no
    | with_reducible exact fo_FX12_points _
    | with_reducible exact fo_FX12_has _ _
    | with_reducible exact fo_FX12_weight _ _ _
    | with_reducible refine Fo.bd ?_ (fun _ _ => ?_)
    | with_reducible refine Fo.ck (fun _ => ?_)
    | with_reducible refine Fo.ite ?_ ?_
    | with_reducible refine Fo.rd (fun _ => ?_)
    | with_reducible refine Fo.oe ?_ (fun _ => ?_)
    | with_reducible refine Fo.se (fun _ => ?_) (fun _ => ?_)
set_option maxHeartbeats 4000000 in
theorem fo_SX12_splitOf_6 {P : Nat → Nat → Prop} {t : St} (w1 : Int32) (w2 : Int32) (w3 : Int32) (c : Int32 × Int32) : Fo P t (SX12_splitOf_6 w1 w2 w3 c t) := by
  unfold SX12_splitOf_6
  repeat' first
    | with_reducible exact Fo.ret
    | with_reducible exact Fo.no
    | with_reducible exact fo_FX12_points _
    | with_reducible exact fo_FX12_nearOf _ _
    | with_reducible exact fo_FX12_has _ _
    | with_reducible refine Fo.wh (fun cc ss => fo_SX12_splitOf_118 _ _ _ _ cc)
    | with_reducible refine Fo.bd ?_ (fun _ _ => ?_)
    | with_reducible refine Fo.ck (fun _ => ?_)
    | with_reducible refine Fo.ite ?_ ?_
    | with_reducible refine Fo.rd (fun _ => ?_)
    | with_reducible refine Fo.oe ?_ (fun _ => ?_)
    | with_reducible refine Fo.se (fun _ => ?_) (fun _ => ?_)
set_option maxHeartbeats 4000000 in
theorem fo_FX12_splitOf {P : Nat → Nat → Prop} {t : St} (a : Int32) (b : Int32) (c : Int32) : Fo P t (FX12_splitOf a b c t) := by
  unfold FX12_splitOf
  repeat' first
    | with_reducible exact Fo.ret
    | with_reducible exact Fo.no
    | with_reducible refine Fo.wh (fun cc ss => fo_SX12_splitOf_6 _ _ _ cc)
    | with_reducible refine Fo.bd ?_ (fun _ _ => ?_)
    | with_reducible refine Fo.ck (fun _ => ?_)
    | with_reducible refine Fo.ite ?_ ?_
    | with_reducible refine Fo.rd (fun _ => ?_)
    | with_reducible refine Fo.oe ?_ (fun _ => ?_)
    | with_reducible refine Fo.se (fun _ => ?_) (fun _ => ?_)
set_option maxHeartbeats 4000000 in
theorem fo_FX12_cost {P : Nat → Nat → Prop} {t : St} (a : Int32) (b : Int32) (c : Int32) (d : Int32) : Fo P t (FX12_cost a b c d t) := by
  unfold FX12_cost
  repeat' first
    | with_reducible exact Fo.ret
    | with_reducible exact Fo.no
    | with_reducible exact fo_FX12_neighbours _ _ _
    | with_reducible exact fo_FX12_ones _
    | with_reducible exact fo_FX12_fillOf _ _ _
    | with_reducible exact fo_FX12_points _
    | with_reducible exact fo_FX12_splitOf _ _ _
    | with_reducible refine Fo.bd ?_ (fun _ _ => ?_)
    | with_reducible refine Fo.ck (fun _ => ?_)
    | with_reducible refine Fo.ite ?_ ?_
    | with_reducible refine Fo.rd (fun _ => ?_)
    | with_reducible refine Fo.oe ?_ (fun _ => ?_)
    | with_reducible refine Fo.se (fun _ => ?_) (fun _ => ?_)
set_option maxHeartbeats 4000000 in
theorem fo_FX12_isGreatest {P : Nat → Nat → Prop} {t : St} (a : Int32) : Fo P t (FX12_isGreatest a t) := by
  unfold FX12_isGreatest
  repeat' first
    | with_reducible exact Fo.ret
    | with_reducible exact Fo.no
    | with_reducible refine Fo.bd ?_ (fun _ _ => ?_)
    | with_reducible refine Fo.ck (fun _ => ?_)
    | with_reducible refine Fo.ite ?_ ?_
    | with_reducible refine Fo.rd (fun _ => ?_)
    | with_reducible refine Fo.oe ?_ (fun _ => ?_)
    | with_reducible refine Fo.se (fun _ => ?_) (fun _ => ?_)
set_option maxHeartbeats 4000000 in
theorem fo_FX12_isMeasure {P : Nat → Nat → Prop} {t : St} (a : Int32) : Fo P t (FX12_isMeasure a t) := by
  unfold FX12_isMeasure
  repeat' first
    | with_reducible exact Fo.ret
    | with_reducible exact Fo.no
    | with_reducible exact fo_FX12_in _ _ _
    | with_reducible refine Fo.bd ?_ (fun _ _ => ?_)
    | with_reducible refine Fo.ck (fun _ => ?_)
    | with_reducible refine Fo.ite ?_ ?_
    | with_reducible refine Fo.rd (fun _ => ?_)
    | with_reducible refine Fo.oe ?_ (fun _ => ?_)
    | with_reducible refine Fo.se (fun _ => ?_) (fun _ => ?_)
set_option maxHeartbeats 4000000 in
theorem fo_SX12_laysCosts_26 {P : Nat → Nat → Prop} {t : St} (w1 : Int32) (w2 : Int32) (w3 : Int32) (c : Int32) (hP : ∀ c i, P c i → c ≠ 157) : Fo P t (SX12_laysCosts_26 w1 w2 w3 c t) := by
  unfold SX12_laysCosts_26
  repeat' first
    | with_reducible exact Fo.ret
    | with_reducible exact Fo.no
    | with_reducible exact fo_FX12_points _
    | with_reducible exact fo_FX12_has _ _
    | with_reducible exact fo_FX12_cost _ _ _ _
    | with_reducible refine Fo.bd ?_ (fun _ _ => ?_)
    | with_reducible refine Fo.ck (fun _ => ?_)
    | with_reducible refine Fo.ite ?_ ?_
    | with_reducible refine Fo.rd (fun _ => ?_)
    | with_reducible refine Fo.wr (fun c i h => by have hh := hP c i h; first | exact hh | (intro e; exact absurd e hh) | omega | (have := net_q (by assumption); omega) | (have := net_q (x := el 10 _) (by assumption); omega) | (have := find_q (by assumption); omega) | (have := finds_q (by assumption); omega)) (fun _ => ?_)
    | with_reducible refine Fo.cp (fun c i h => by have hh := hP c i h; first | exact hh | (intro e; exact absurd e hh) | omega | (have := net_q (by assumption); omega) | (have := net_q (x := el 10 _) (by assumption); omega)) (fun _ => ?_)
    | with_reducible refine Fo.oe ?_ (fun _ => ?_)
    | with_reducible refine Fo.se (fun _ => ?_) (fun _ => ?_)
set_option maxHeartbeats 4000000 in
theorem fo_SX12_laysCosts_15 {P : Nat → Nat → Prop} {t : St} (w1 : Int32) (w2 : Int32) (c : Int32) (hP : ∀ c i, P c i → c ≠ 157) : Fo P t (SX12_laysCosts_15 w1 w2 c t) := by
  unfold SX12_laysCosts_15
  repeat' first
    | with_reducible exact Fo.ret
    | with_reducible exact Fo.no
    | with_reducible refine Fo.wh (fun cc ss => fo_SX12_laysCosts_26 _ _ _ cc (fun c i h => by have hh := hP c i h; first | exact hh | (intro e; exact absurd e hh) | omega | (have := net_q (by assumption); omega) | (have := net_q (x := el 10 _) (by assumption); omega) | (have := find_q (by assumption); omega) | (have := finds_q (by assumption); omega)))
    | with_reducible refine Fo.bd ?_ (fun _ _ => ?_)
    | with_reducible refine Fo.ck (fun _ => ?_)
    | with_reducible refine Fo.ite ?_ ?_
    | with_reducible refine Fo.rd (fun _ => ?_)
    | with_reducible refine Fo.wr (fun c i h => by have hh := hP c i h; first | exact hh | (intro e; exact absurd e hh) | omega | (have := net_q (by assumption); omega) | (have := net_q (x := el 10 _) (by assumption); omega) | (have := find_q (by assumption); omega) | (have := finds_q (by assumption); omega)) (fun _ => ?_)
    | with_reducible refine Fo.cp (fun c i h => by have hh := hP c i h; first | exact hh | (intro e; exact absurd e hh) | omega | (have := net_q (by assumption); omega) | (have := net_q (x := el 10 _) (by assumption); omega)) (fun _ => ?_)
    | with_reducible refine Fo.oe ?_ (fun _ => ?_)
    | with_reducible refine Fo.se (fun _ => ?_) (fun _ => ?_)
set_option maxHeartbeats 4000000 in
theorem fo_FX12_laysCosts {P : Nat → Nat → Prop} {t : St} (a : Int32) (b : Int32) (hP : ∀ c i, P c i → c ≠ 157 ∧ (c = 149 → i ≠ 17)) : Fo P t (FX12_laysCosts a b t) := by
  unfold FX12_laysCosts
  repeat' first
    | with_reducible exact Fo.ret
    | with_reducible exact Fo.no
    | with_reducible exact fo_FX12_points _
    | with_reducible refine Fo.wh (fun cc ss => fo_SX12_laysCosts_15 _ _ cc (fun c i h => by have hh := hP c i h; first | exact hh | (obtain ⟨g0, g1⟩ := hh; and_intros <;> first | assumption | (intro e; exact absurd e (by assumption))) | omega | (have := net_q (by assumption); omega) | (have := net_q (x := el 10 _) (by assumption); omega) | (have := find_q (by assumption); omega) | (have := finds_q (by assumption); omega)))
    | with_reducible refine Fo.bd ?_ (fun _ _ => ?_)
    | with_reducible refine Fo.ck (fun _ => ?_)
    | with_reducible refine Fo.ite ?_ ?_
    | with_reducible refine Fo.rd (fun _ => ?_)
    | with_reducible refine Fo.wr (fun c i h => by have hh := hP c i h; first | exact hh | (obtain ⟨g0, g1⟩ := hh; and_intros <;> first | assumption | (intro e; exact absurd e (by assumption))) | omega | (have := net_q (by assumption); omega) | (have := net_q (x := el 10 _) (by assumption); omega) | (have := find_q (by assumption); omega) | (have := finds_q (by assumption); omega)) (fun _ => ?_)
    | with_reducible refine Fo.cp (fun c i h => by have hh := hP c i h; first | exact hh | (obtain ⟨g0, g1⟩ := hh; and_intros <;> first | assumption | (intro e; exact absurd e (by assumption))) | omega | (have := net_q (by assumption); omega) | (have := net_q (x := el 10 _) (by assumption); omega)) (fun _ => ?_)
    | with_reducible refine Fo.oe ?_ (fun _ => ?_)
    | with_reducible refine Fo.se (fun _ => ?_) (fun _ => ?_)
set_option maxHeartbeats 4000000 in
theorem fo_FX12_both {P : Nat → Nat → Prop} {t : St} (a : Int32) (b : Int32) (c : Int32) : Fo P t (FX12_both a b c t) := by
  unfold FX12_both
  repeat' first
    | with_reducible exact Fo.ret
    | with_reducible exact Fo.no
    | with_reducible exact fo_FX12_isGreatest _
    | with_reducible refine Fo.bd ?_ (fun _ _ => ?_)
    | with_reducible refine Fo.ck (fun _ => ?_)
    | with_reducible refine Fo.ite ?_ ?_
    | with_reducible refine Fo.rd (fun _ => ?_)
    | with_reducible refine Fo.oe ?_ (fun _ => ?_)
    | with_reducible refine Fo.se (fun _ => ?_) (fun _ => ?_)
set_option maxHeartbeats 4000000 in
theorem fo_SX12_laysRest_33 {P : Nat → Nat → Prop} {t : St} (w1 : Int32) (w2 : Int32) (w3 : Int32) (c : Int32) (hP : ∀ c i, P c i → c ≠ 155) : Fo P t (SX12_laysRest_33 w1 w2 w3 c t) := by
  unfold SX12_laysRest_33
  repeat' first
    | with_reducible exact Fo.ret
    | with_reducible exact Fo.no
    | with_reducible exact fo_FX12_points _
    | with_reducible exact fo_FX12_has _ _
    | with_reducible exact fo_FX12_both _ _ _
    | with_reducible refine Fo.bd ?_ (fun _ _ => ?_)
    | with_reducible refine Fo.ck (fun _ => ?_)
    | with_reducible refine Fo.ite ?_ ?_
    | with_reducible refine Fo.rd (fun _ => ?_)
    | with_reducible refine Fo.wr (fun c i h => by have hh := hP c i h; first | exact hh | (intro e; exact absurd e hh) | omega | (have := net_q (by assumption); omega) | (have := net_q (x := el 10 _) (by assumption); omega) | (have := find_q (by assumption); omega) | (have := finds_q (by assumption); omega)) (fun _ => ?_)
    | with_reducible refine Fo.cp (fun c i h => by have hh := hP c i h; first | exact hh | (intro e; exact absurd e hh) | omega | (have := net_q (by assumption); omega) | (have := net_q (x := el 10 _) (by assumption); omega)) (fun _ => ?_)
    | with_reducible refine Fo.oe ?_ (fun _ => ?_)
    | with_reducible refine Fo.se (fun _ => ?_) (fun _ => ?_)
set_option maxHeartbeats 4000000 in
theorem fo_SX12_laysRest_5 {P : Nat → Nat → Prop} {t : St} (w1 : Int32) (w2 : Int32) (c : Int32) (hP : ∀ c i, P c i → c ≠ 155) : Fo P t (SX12_laysRest_5 w1 w2 c t) := by
  unfold SX12_laysRest_5
  repeat' first
    | with_reducible exact Fo.ret
    | with_reducible exact Fo.no
    | with_reducible refine Fo.wh (fun cc ss => fo_SX12_laysRest_33 _ _ _ cc (fun c i h => by have hh := hP c i h; first | exact hh | (intro e; exact absurd e hh) | omega | (have := net_q (by assumption); omega) | (have := net_q (x := el 10 _) (by assumption); omega) | (have := find_q (by assumption); omega) | (have := finds_q (by assumption); omega)))
    | with_reducible refine Fo.bd ?_ (fun _ _ => ?_)
    | with_reducible refine Fo.ck (fun _ => ?_)
    | with_reducible refine Fo.ite ?_ ?_
    | with_reducible refine Fo.rd (fun _ => ?_)
    | with_reducible refine Fo.wr (fun c i h => by have hh := hP c i h; first | exact hh | (intro e; exact absurd e hh) | omega | (have := net_q (by assumption); omega) | (have := net_q (x := el 10 _) (by assumption); omega) | (have := find_q (by assumption); omega) | (have := finds_q (by assumption); omega)) (fun _ => ?_)
    | with_reducible refine Fo.cp (fun c i h => by have hh := hP c i h; first | exact hh | (intro e; exact absurd e hh) | omega | (have := net_q (by assumption); omega) | (have := net_q (x := el 10 _) (by assumption); omega)) (fun _ => ?_)
    | with_reducible refine Fo.oe ?_ (fun _ => ?_)
    | with_reducible refine Fo.se (fun _ => ?_) (fun _ => ?_)
set_option maxHeartbeats 4000000 in
theorem fo_FX12_laysRest {P : Nat → Nat → Prop} {t : St} (a : Int32) (b : Int32) (hP : ∀ c i, P c i → c ≠ 155) : Fo P t (FX12_laysRest a b t) := by
  unfold FX12_laysRest
  repeat' first
    | with_reducible exact Fo.ret
    | with_reducible exact Fo.no
    | with_reducible refine Fo.wh (fun cc ss => fo_SX12_laysRest_5 _ _ cc (fun c i h => by have hh := hP c i h; first | exact hh | (intro e; exact absurd e hh) | omega | (have := net_q (by assumption); omega) | (have := net_q (x := el 10 _) (by assumption); omega) | (have := find_q (by assumption); omega) | (have := finds_q (by assumption); omega)))
    | with_reducible refine Fo.bd ?_ (fun _ _ => ?_)
    | with_reducible refine Fo.ck (fun _ => ?_)
    | with_reducible refine Fo.ite ?_ ?_
    | with_reducible refine Fo.rd (fun _ => ?_)
    | with_reducible refine Fo.wr (fun c i h => by have hh := hP c i h; first | exact hh | (intro e; exact absurd e hh) | omega | (have := net_q (by assumption); omega) | (have := net_q (x := el 10 _) (by assumption); omega) | (have := find_q (by assumption); omega) | (have := finds_q (by assumption); omega)) (fun _ => ?_)
    | with_reducible refine Fo.cp (fun c i h => by have hh := hP c i h; first | exact hh | (intro e; exact absurd e hh) | omega | (have := net_q (by assumption); omega) | (have := net_q (x := el 10 _) (by assumption); omega)) (fun _ => ?_)
    | with_reducible refine Fo.oe ?_ (fun _ => ?_)
    | with_reducible refine Fo.se (fun _ => ?_) (fun _ => ?_)
set_option maxHeartbeats 4000000 in
theorem fo_FX12_laysLeast {P : Nat → Nat → Prop} {t : St} (a : Int32) (b : Int32) (hP : ∀ c i, P c i → c ≠ 155 ∧ c ≠ 157 ∧ (c = 149 → i ≠ 17)) : Fo P t (FX12_laysLeast a b t) := by
  unfold FX12_laysLeast
  repeat' first
    | with_reducible exact Fo.ret
    | with_reducible exact Fo.no
    | with_reducible exact fo_FX12_laysCosts _ _ (fun c i h => by have hh := hP c i h; first | exact hh | (obtain ⟨g0, g1, g2⟩ := hh; and_intros <;> first | assumption | (intro e; exact absurd e (by assumption))) | omega | (have := net_q (by assumption); omega) | (have := net_q (x := el 10 _) (by assumption); omega) | (have := find_q (by assumption); omega) | (have := finds_q (by assumption); omega))
    | with_reducible exact fo_FX12_laysRest _ _ (fun c i h => by have hh := hP c i h; first | exact hh | (obtain ⟨g0, g1, g2⟩ := hh; and_intros <;> first | assumption | (intro e; exact absurd e (by assumption))) | omega | (have := net_q (by assumption); omega) | (have := net_q (x := el 10 _) (by assumption); omega) | (have := find_q (by assumption); omega) | (have := finds_q (by assumption); omega))
    | with_reducible refine Fo.bd ?_ (fun _ _ => ?_)
    | with_reducible refine Fo.ck (fun _ => ?_)
    | with_reducible refine Fo.ite ?_ ?_
    | with_reducible refine Fo.rd (fun _ => ?_)
    | with_reducible refine Fo.wr (fun c i h => by have hh := hP c i h; first | exact hh | (obtain ⟨g0, g1, g2⟩ := hh; and_intros <;> first | assumption | (intro e; exact absurd e (by assumption))) | omega | (have := net_q (by assumption); omega) | (have := net_q (x := el 10 _) (by assumption); omega) | (have := find_q (by assumption); omega) | (have := finds_q (by assumption); omega)) (fun _ => ?_)
    | with_reducible refine Fo.cp (fun c i h => by have hh := hP c i h; first | exact hh | (obtain ⟨g0, g1, g2⟩ := hh; and_intros <;> first | assumption | (intro e; exact absurd e (by assumption))) | omega | (have := net_q (by assumption); omega) | (have := net_q (x := el 10 _) (by assumption); omega)) (fun _ => ?_)
    | with_reducible refine Fo.oe ?_ (fun _ => ?_)
    | with_reducible refine Fo.se (fun _ => ?_) (fun _ => ?_)
set_option maxHeartbeats 4000000 in
theorem fo_SX12_among_66 {P : Nat → Nat → Prop} {t : St} (w1 : Int32) (w3 : Int32) (w4 : Int32) (w5 : Int32) (c : Int32) (hP : ∀ c i, P c i → c ≠ 157) : Fo P t (SX12_among_66 w1 w3 w4 w5 c t) := by
  unfold SX12_among_66
  repeat' first
    | with_reducible exact Fo.ret
    | with_reducible exact Fo.no
    | with_reducible exact fo_FX12_points _
    | with_reducible exact fo_FX12_cost _ _ _ _
    | with_reducible refine Fo.bd ?_ (fun _ _ => ?_)
    | with_reducible refine Fo.ck (fun _ => ?_)
    | with_reducible refine Fo.ite ?_ ?_
    | with_reducible refine Fo.rd (fun _ => ?_)
    | with_reducible refine Fo.wr (fun c i h => by have hh := hP c i h; first | exact hh | (intro e; exact absurd e hh) | omega | (have := net_q (by assumption); omega) | (have := net_q (x := el 10 _) (by assumption); omega) | (have := find_q (by assumption); omega) | (have := finds_q (by assumption); omega)) (fun _ => ?_)
    | with_reducible refine Fo.cp (fun c i h => by have hh := hP c i h; first | exact hh | (intro e; exact absurd e hh) | omega | (have := net_q (by assumption); omega) | (have := net_q (x := el 10 _) (by assumption); omega)) (fun _ => ?_)
    | with_reducible refine Fo.oe ?_ (fun _ => ?_)
    | with_reducible refine Fo.se (fun _ => ?_) (fun _ => ?_)
set_option maxHeartbeats 4000000 in
theorem fo_SX12_among_54 {P : Nat → Nat → Prop} {t : St} (w1 : Int32) (w3 : Int32) (w4 : Int32) (c : Int32) (hP : ∀ c i, P c i → c ≠ 157) : Fo P t (SX12_among_54 w1 w3 w4 c t) := by
  unfold SX12_among_54
  repeat' first
    | with_reducible exact Fo.ret
    | with_reducible exact Fo.no
    | with_reducible refine Fo.wh (fun cc ss => fo_SX12_among_66 _ _ _ _ cc (fun c i h => by have hh := hP c i h; first | exact hh | (intro e; exact absurd e hh) | omega | (have := net_q (by assumption); omega) | (have := net_q (x := el 10 _) (by assumption); omega) | (have := find_q (by assumption); omega) | (have := finds_q (by assumption); omega)))
    | with_reducible refine Fo.bd ?_ (fun _ _ => ?_)
    | with_reducible refine Fo.ck (fun _ => ?_)
    | with_reducible refine Fo.ite ?_ ?_
    | with_reducible refine Fo.rd (fun _ => ?_)
    | with_reducible refine Fo.wr (fun c i h => by have hh := hP c i h; first | exact hh | (intro e; exact absurd e hh) | omega | (have := net_q (by assumption); omega) | (have := net_q (x := el 10 _) (by assumption); omega) | (have := find_q (by assumption); omega) | (have := finds_q (by assumption); omega)) (fun _ => ?_)
    | with_reducible refine Fo.cp (fun c i h => by have hh := hP c i h; first | exact hh | (intro e; exact absurd e hh) | omega | (have := net_q (by assumption); omega) | (have := net_q (x := el 10 _) (by assumption); omega)) (fun _ => ?_)
    | with_reducible refine Fo.oe ?_ (fun _ => ?_)
    | with_reducible refine Fo.se (fun _ => ?_) (fun _ => ?_)
set_option maxHeartbeats 4000000 in
theorem fo_FX12_among {P : Nat → Nat → Prop} {t : St} (a : Int32) (b : Int32) (c : Int32) (hP : ∀ c i, P c i → c ≠ 155 ∧ c ≠ 157 ∧ (c = 149 → i ≠ 17)) : Fo P t (FX12_among a b c t) := by
  unfold FX12_among
  repeat' first
    | with_reducible exact Fo.ret
    | with_reducible exact Fo.no
    | with_reducible exact fo_FX12_isNet _
    | with_reducible exact fo_FX12_isMeasure _
    | with_reducible exact fo_FX12_isGreatest _
    | with_reducible exact fo_FX12_laysLeast _ _ (fun c i h => by have hh := hP c i h; first | exact hh | (obtain ⟨g0, g1, g2⟩ := hh; and_intros <;> first | assumption | (intro e; exact absurd e (by assumption))) | omega | (have := net_q (by assumption); omega) | (have := net_q (x := el 10 _) (by assumption); omega) | (have := find_q (by assumption); omega) | (have := finds_q (by assumption); omega))
    | with_reducible refine Fo.wh (fun cc ss => fo_SX12_among_54 _ _ _ cc (fun c i h => by have hh := hP c i h; first | exact hh | (obtain ⟨g0, g1, g2⟩ := hh; and_intros <;> first | assumption | (intro e; exact absurd e (by assumption))) | omega | (have := net_q (by assumption); omega) | (have := net_q (x := el 10 _) (by assumption); omega) | (have := find_q (by assumption); omega) | (have := finds_q (by assumption); omega)))
    | with_reducible exact fo_FX12_laysRest _ _ (fun c i h => by have hh := hP c i h; first | exact hh | (obtain ⟨g0, g1, g2⟩ := hh; and_intros <;> first | assumption | (intro e; exact absurd e (by assumption))) | omega | (have := net_q (by assumption); omega) | (have := net_q (x := el 10 _) (by assumption); omega) | (have := find_q (by assumption); omega) | (have := finds_q (by assumption); omega))
    | with_reducible refine Fo.bd ?_ (fun _ _ => ?_)
    | with_reducible refine Fo.ck (fun _ => ?_)
    | with_reducible refine Fo.ite ?_ ?_
    | with_reducible refine Fo.rd (fun _ => ?_)
    | with_reducible refine Fo.wr (fun c i h => by have hh := hP c i h; first | exact hh | (obtain ⟨g0, g1, g2⟩ := hh; and_intros <;> first | assumption | (intro e; exact absurd e (by assumption))) | omega | (have := net_q (by assumption); omega) | (have := net_q (x := el 10 _) (by assumption); omega) | (have := find_q (by assumption); omega) | (have := finds_q (by assumption); omega)) (fun _ => ?_)
    | with_reducible refine Fo.cp (fun c i h => by have hh := hP c i h; first | exact hh | (obtain ⟨g0, g1, g2⟩ := hh; and_intros <;> first | assumption | (intro e; exact absurd e (by assumption))) | omega | (have := net_q (by assumption); omega) | (have := net_q (x := el 10 _) (by assumption); omega)) (fun _ => ?_)
    | with_reducible refine Fo.oe ?_ (fun _ => ?_)
    | with_reducible refine Fo.se (fun _ => ?_) (fun _ => ?_)
set_option maxHeartbeats 4000000 in
theorem fo_SX12_bag_67 {P : Nat → Nat → Prop} {t : St} (w1 : Int32) (w5 : Int32) (c : Int32 × Int32) : Fo P t (SX12_bag_67 w1 w5 c t) := by
  unfold SX12_bag_67
  repeat' first
    | with_reducible exact Fo.ret
    | with_reducible exact Fo.no
    | with_reducible exact fo_FX12_points _
    | with_reducible exact fo_FX12_has _ _
    | with_reducible exact fo_FX12_nearOf _ _
    | with_reducible refine Fo.bd ?_ (fun _ _ => ?_)
    | with_reducible refine Fo.ck (fun _ => ?_)
    | with_reducible refine Fo.ite ?_ ?_
    | with_reducible refine Fo.rd (fun _ => ?_)
    | with_reducible refine Fo.oe ?_ (fun _ => ?_)
    | with_reducible refine Fo.se (fun _ => ?_) (fun _ => ?_)
set_option maxHeartbeats 4000000 in
theorem fo_FX12_bag {P : Nat → Nat → Prop} {t : St} (a : Int32) (b : Int32) (c : Int32) : Fo P t (FX12_bag a b c t) := by
  unfold FX12_bag
  repeat' first
    | with_reducible exact Fo.ret
    | with_reducible exact Fo.no
    | with_reducible exact fo_FX12_isPoint _ _
    | with_reducible exact fo_FX12_in _ _ _
    | with_reducible exact fo_FX12_at _ _
    | with_reducible exact fo_FX12_aheadOf _ _
    | with_reducible exact fo_FX12_neighbours _ _ _
    | with_reducible refine Fo.wh (fun cc ss => fo_SX12_bag_67 _ _ cc)
    | with_reducible refine Fo.bd ?_ (fun _ _ => ?_)
    | with_reducible refine Fo.ck (fun _ => ?_)
    | with_reducible refine Fo.ite ?_ ?_
    | with_reducible refine Fo.rd (fun _ => ?_)
    | with_reducible refine Fo.oe ?_ (fun _ => ?_)
    | with_reducible refine Fo.se (fun _ => ?_) (fun _ => ?_)
set_option maxHeartbeats 4000000 in
theorem fo_SX12_farOf_24 {P : Nat → Nat → Prop} {t : St} (w1 : Int32) (w3 : Int32) (w4 : Int32) (w5 : Int32) (c : Int32 × Int32) : Fo P t (SX12_farOf_24 w1 w3 w4 w5 c t) := by
  unfold SX12_farOf_24
  repeat' first
    | with_reducible exact Fo.ret
    | with_reducible exact Fo.no
    | with_reducible exact fo_FX12_points _
    | with_reducible exact fo_FX12_has _ _
    | with_reducible exact fo_FX12_nearOf _ _
    | with_reducible refine Fo.bd ?_ (fun _ _ => ?_)
    | with_reducible refine Fo.ck (fun _ => ?_)
    | with_reducible refine Fo.ite ?_ ?_
    | with_reducible refine Fo.rd (fun _ => ?_)
    | with_reducible refine Fo.oe ?_ (fun _ => ?_)
    | with_reducible refine Fo.se (fun _ => ?_) (fun _ => ?_)
set_option maxHeartbeats 4000000 in
theorem fo_SX12_farOf_8 {P : Nat → Nat → Prop} {t : St} (w1 : Int32) (w3 : Int32) (c : Int32 × Int32) : Fo P t (SX12_farOf_8 w1 w3 c t) := by
  unfold SX12_farOf_8
  repeat' first
    | with_reducible exact Fo.ret
    | with_reducible exact Fo.no
    | with_reducible exact fo_FX12_has _ _
    | with_reducible refine Fo.wh (fun cc ss => fo_SX12_farOf_24 _ _ _ _ cc)
    | with_reducible refine Fo.bd ?_ (fun _ _ => ?_)
    | with_reducible refine Fo.ck (fun _ => ?_)
    | with_reducible refine Fo.ite ?_ ?_
    | with_reducible refine Fo.rd (fun _ => ?_)
    | with_reducible refine Fo.oe ?_ (fun _ => ?_)
    | with_reducible refine Fo.se (fun _ => ?_) (fun _ => ?_)
set_option maxHeartbeats 4000000 in
theorem fo_FX12_farOf {P : Nat → Nat → Prop} {t : St} (a : Int32) (b : Int32) (c : Int32) : Fo P t (FX12_farOf a b c t) := by
  unfold FX12_farOf
  repeat' first
    | with_reducible exact Fo.ret
    | with_reducible exact Fo.no
    | with_reducible refine Fo.wh (fun cc ss => fo_SX12_farOf_8 _ _ cc)
    | with_reducible refine Fo.bd ?_ (fun _ _ => ?_)
    | with_reducible refine Fo.ck (fun _ => ?_)
    | with_reducible refine Fo.ite ?_ ?_
    | with_reducible refine Fo.rd (fun _ => ?_)
    | with_reducible refine Fo.oe ?_ (fun _ => ?_)
    | with_reducible refine Fo.se (fun _ => ?_) (fun _ => ?_)
set_option maxHeartbeats 4000000 in
theorem fo_SX12_balls_32 {P : Nat → Nat → Prop} {t : St} (w1 : Int32) (w2 : Int32) (w3 : Int32) (w4 : Int32) (c : Int32 × Int32) : Fo P t (SX12_balls_32 w1 w2 w3 w4 c t) := by
  unfold SX12_balls_32
  repeat' first
    | with_reducible exact Fo.ret
    | with_reducible exact Fo.no
    | with_reducible exact fo_FX12_points _
    | with_reducible exact fo_FX12_farOf _ _ _
    | with_reducible exact fo_FX12_in _ _ _
    | with_reducible refine Fo.bd ?_ (fun _ _ => ?_)
    | with_reducible refine Fo.ck (fun _ => ?_)
    | with_reducible refine Fo.ite ?_ ?_
    | with_reducible refine Fo.rd (fun _ => ?_)
    | with_reducible refine Fo.oe ?_ (fun _ => ?_)
    | with_reducible refine Fo.se (fun _ => ?_) (fun _ => ?_)
set_option maxHeartbeats 4000000 in
theorem fo_SX12_balls_16 {P : Nat → Nat → Prop} {t : St} (w1 : Int32) (w3 : Int32) (c : Int32 × Int32) : Fo P t (SX12_balls_16 w1 w3 c t) := by
  unfold SX12_balls_16
  repeat' first
    | with_reducible exact Fo.ret
    | with_reducible exact Fo.no
    | with_reducible exact fo_FX12_points _
    | with_reducible refine Fo.wh (fun cc ss => fo_SX12_balls_32 _ _ _ _ cc)
    | with_reducible refine Fo.bd ?_ (fun _ _ => ?_)
    | with_reducible refine Fo.ck (fun _ => ?_)
    | with_reducible refine Fo.ite ?_ ?_
    | with_reducible refine Fo.rd (fun _ => ?_)
    | with_reducible refine Fo.oe ?_ (fun _ => ?_)
    | with_reducible refine Fo.se (fun _ => ?_) (fun _ => ?_)
set_option maxHeartbeats 4000000 in
theorem fo_SX12_balls_4 {P : Nat → Nat → Prop} {t : St} (w1 : Int32) (c : Int32 × Int32) : Fo P t (SX12_balls_4 w1 c t) := by
  unfold SX12_balls_4
  repeat' first
    | with_reducible exact Fo.ret
    | with_reducible exact Fo.no
    | with_reducible exact fo_FX12_points _
    | with_reducible refine Fo.wh (fun cc ss => fo_SX12_balls_16 _ _ cc)
    | with_reducible refine Fo.bd ?_ (fun _ _ => ?_)
    | with_reducible refine Fo.ck (fun _ => ?_)
    | with_reducible refine Fo.ite ?_ ?_
    | with_reducible refine Fo.rd (fun _ => ?_)
    | with_reducible refine Fo.oe ?_ (fun _ => ?_)
    | with_reducible refine Fo.se (fun _ => ?_) (fun _ => ?_)
set_option maxHeartbeats 4000000 in
theorem fo_FX12_balls {P : Nat → Nat → Prop} {t : St} (a : Int32) : Fo P t (FX12_balls a t) := by
  unfold FX12_balls
  repeat' first
    | with_reducible exact Fo.ret
    | with_reducible exact Fo.no
    | with_reducible refine Fo.wh (fun cc ss => fo_SX12_balls_4 _ cc)
    | with_reducible refine Fo.bd ?_ (fun _ _ => ?_)
    | with_reducible refine Fo.ck (fun _ => ?_)
    | with_reducible refine Fo.ite ?_ ?_
    | with_reducible refine Fo.rd (fun _ => ?_)
    | with_reducible refine Fo.oe ?_ (fun _ => ?_)
    | with_reducible refine Fo.se (fun _ => ?_) (fun _ => ?_)
set_option maxHeartbeats 4000000 in
theorem fo_SX12_bandOf_16 {P : Nat → Nat → Prop} {t : St} (w1 : Int32) (w3 : Int32) (c : Int32 × Int32) : Fo P t (SX12_bandOf_16 w1 w3 c t) := by
  unfold SX12_bandOf_16
  repeat' first
    | with_reducible exact Fo.ret
    | with_reducible exact Fo.no
    | with_reducible exact fo_FX12_weight _ _ _
    | with_reducible refine Fo.bd ?_ (fun _ _ => ?_)
    | with_reducible refine Fo.ck (fun _ => ?_)
    | with_reducible refine Fo.ite ?_ ?_
    | with_reducible refine Fo.rd (fun _ => ?_)
    | with_reducible refine Fo.oe ?_ (fun _ => ?_)
    | with_reducible refine Fo.se (fun _ => ?_) (fun _ => ?_)
set_option maxHeartbeats 4000000 in
theorem fo_SX12_bandOf_4 {P : Nat → Nat → Prop} {t : St} (w1 : Int32) (c : Int32 × Int32) : Fo P t (SX12_bandOf_4 w1 c t) := by
  unfold SX12_bandOf_4
  repeat' first
    | with_reducible exact Fo.ret
    | with_reducible exact Fo.no
    | with_reducible exact fo_FX12_points _
    | with_reducible refine Fo.wh (fun cc ss => fo_SX12_bandOf_16 _ _ cc)
    | with_reducible refine Fo.bd ?_ (fun _ _ => ?_)
    | with_reducible refine Fo.ck (fun _ => ?_)
    | with_reducible refine Fo.ite ?_ ?_
    | with_reducible refine Fo.rd (fun _ => ?_)
    | with_reducible refine Fo.oe ?_ (fun _ => ?_)
    | with_reducible refine Fo.se (fun _ => ?_) (fun _ => ?_)
set_option maxHeartbeats 4000000 in
theorem fo_FX12_bandOf {P : Nat → Nat → Prop} {t : St} (a : Int32) : Fo P t (FX12_bandOf a t) := by
  unfold FX12_bandOf
  repeat' first
    | with_reducible exact Fo.ret
    | with_reducible exact Fo.no
    | with_reducible refine Fo.wh (fun cc ss => fo_SX12_bandOf_4 _ cc)
    | with_reducible refine Fo.bd ?_ (fun _ _ => ?_)
    | with_reducible refine Fo.ck (fun _ => ?_)
    | with_reducible refine Fo.ite ?_ ?_
    | with_reducible refine Fo.rd (fun _ => ?_)
    | with_reducible refine Fo.oe ?_ (fun _ => ?_)
    | with_reducible refine Fo.se (fun _ => ?_) (fun _ => ?_)
set_option maxHeartbeats 4000000 in
theorem fo_FX12_keepsLeast {P : Nat → Nat → Prop} {t : St} (a : Int32) (b : Int32) (c : Int32) (d : Int32) : Fo P t (FX12_keepsLeast a b c d t) := by
  unfold FX12_keepsLeast
  repeat' first
    | with_reducible exact Fo.ret
    | with_reducible exact Fo.no
    | with_reducible exact fo_FX12_has _ _
    | with_reducible exact fo_FX12_both _ _ _
    | with_reducible refine Fo.bd ?_ (fun _ _ => ?_)
    | with_reducible refine Fo.ck (fun _ => ?_)
    | with_reducible refine Fo.ite ?_ ?_
    | with_reducible refine Fo.rd (fun _ => ?_)
    | with_reducible refine Fo.oe ?_ (fun _ => ?_)
    | with_reducible refine Fo.se (fun _ => ?_) (fun _ => ?_)
set_option maxHeartbeats 4000000 in
theorem fo_SX12_goesBand_107 {P : Nat → Nat → Prop} {t : St} (rec : Int32 → Int32 → Int32 → Int32 → Int32 → St → Option ((Int32) × St)) (w1 : Int32) (w2 : Int32) (w3 : Int32) (w4 : Int32) (w5 : Int32) (w6 : Int32) (c : Int32 × Int32) (hrec : ∀ q0 q1 q2 q3 q4 s, Fo P s (rec q0 q1 q2 q3 q4 s)) : Fo P t (SX12_goesBand_107 rec w1 w2 w3 w4 w5 w6 c t) := by
  unfold SX12_goesBand_107
  repeat' first
    | with_reducible exact Fo.ret
    | with_reducible exact Fo.no
    | with_reducible exact fo_FX12_weight _ _ _
    | with_reducible exact hrec _ _ _ _ _ _
    | with_reducible refine Fo.bd ?_ (fun _ _ => ?_)
    | with_reducible refine Fo.ck (fun _ => ?_)
    | with_reducible refine Fo.ite ?_ ?_
    | with_reducible refine Fo.rd (fun _ => ?_)
    | with_reducible refine Fo.oe ?_ (fun _ => ?_)
    | with_reducible refine Fo.se (fun _ => ?_) (fun _ => ?_)
set_option maxHeartbeats 4000000 in
theorem fo_SX12_goesBand_78 {P : Nat → Nat → Prop} {t : St} (rec : Int32 → Int32 → Int32 → Int32 → Int32 → St → Option ((Int32) × St)) (w1 : Int32) (w2 : Int32) (w3 : Int32) (w4 : Int32) (w5 : Int32) (c : Int32) (hrec : ∀ q0 q1 q2 q3 q4 s, Fo P s (rec q0 q1 q2 q3 q4 s)) (hP : ∀ c i, P c i → c ≠ 154) : Fo P t (SX12_goesBand_78 rec w1 w2 w3 w4 w5 c t) := by
  unfold SX12_goesBand_78
  repeat' first
    | with_reducible exact Fo.ret
    | with_reducible exact Fo.no
    | with_reducible exact fo_FX12_points _
    | with_reducible exact fo_FX12_has _ _
    | with_reducible refine Fo.wh (fun cc ss => fo_SX12_goesBand_107 _ _ _ _ _ _ _ cc hrec)
    | with_reducible exact hrec _ _ _ _ _ _
    | with_reducible refine Fo.bd ?_ (fun _ _ => ?_)
    | with_reducible refine Fo.ck (fun _ => ?_)
    | with_reducible refine Fo.ite ?_ ?_
    | with_reducible refine Fo.rd (fun _ => ?_)
    | with_reducible refine Fo.wr (fun c i h => by have hh := hP c i h; first | exact hh | (intro e; exact absurd e hh) | omega | (have := net_q (by assumption); omega) | (have := net_q (x := el 10 _) (by assumption); omega) | (have := find_q (by assumption); omega) | (have := finds_q (by assumption); omega)) (fun _ => ?_)
    | with_reducible refine Fo.cp (fun c i h => by have hh := hP c i h; first | exact hh | (intro e; exact absurd e hh) | omega | (have := net_q (by assumption); omega) | (have := net_q (x := el 10 _) (by assumption); omega)) (fun _ => ?_)
    | with_reducible refine Fo.oe ?_ (fun _ => ?_)
    | with_reducible refine Fo.se (fun _ => ?_) (fun _ => ?_)
set_option maxHeartbeats 4000000 in
theorem fo_SX12_goesBand_19 {P : Nat → Nat → Prop} {t : St} (rec : Int32 → Int32 → Int32 → Int32 → Int32 → St → Option ((Int32) × St)) (w2 : Int32) (w5 : Int32) (c : Int32) (hrec : ∀ q0 q1 q2 q3 q4 s, Fo P s (rec q0 q1 q2 q3 q4 s)) (hP : ∀ c i, P c i → c ≠ 158) : Fo P t (SX12_goesBand_19 rec w2 w5 c t) := by
  unfold SX12_goesBand_19
  repeat' first
    | with_reducible exact Fo.ret
    | with_reducible exact Fo.no
    | with_reducible exact hrec _ _ _ _ _ _
    | with_reducible refine Fo.bd ?_ (fun _ _ => ?_)
    | with_reducible refine Fo.ck (fun _ => ?_)
    | with_reducible refine Fo.ite ?_ ?_
    | with_reducible refine Fo.rd (fun _ => ?_)
    | with_reducible refine Fo.wr (fun c i h => by have hh := hP c i h; first | exact hh | (intro e; exact absurd e hh) | omega | (have := net_q (by assumption); omega) | (have := net_q (x := el 10 _) (by assumption); omega) | (have := find_q (by assumption); omega) | (have := finds_q (by assumption); omega)) (fun _ => ?_)
    | with_reducible refine Fo.cp (fun c i h => by have hh := hP c i h; first | exact hh | (intro e; exact absurd e hh) | omega | (have := net_q (by assumption); omega) | (have := net_q (x := el 10 _) (by assumption); omega)) (fun _ => ?_)
    | with_reducible refine Fo.oe ?_ (fun _ => ?_)
    | with_reducible refine Fo.se (fun _ => ?_) (fun _ => ?_)
set_option maxHeartbeats 4000000 in
theorem fo_FX12_goesBand_b {P : Nat → Nat → Prop} {t : St} (rec : Int32 → Int32 → Int32 → Int32 → Int32 → St → Option ((Int32) × St)) (a : Int32) (b : Int32) (c : Int32) (d : Int32) (e : Int32) (hrec : ∀ q0 q1 q2 q3 q4 s, Fo P s (rec q0 q1 q2 q3 q4 s)) (hP : ∀ c i, P c i → c ≠ 154 ∧ c ≠ 158 ∧ (c = 149 → i ≠ 18) ∧ (c = 149 → i ≠ 19)) : Fo P t (FX12_goesBand_b rec a b c d e t) := by
  unfold FX12_goesBand_b
  repeat' first
    | with_reducible exact Fo.ret
    | with_reducible exact Fo.no
    | with_reducible exact fo_FX12_points _
    | with_reducible refine Fo.wh (fun cc ss => fo_SX12_goesBand_19 _ _ _ cc hrec (fun c i h => by have hh := hP c i h; first | exact hh | (obtain ⟨g0, g1, g2, g3⟩ := hh; and_intros <;> first | assumption | (intro e; exact absurd e (by assumption))) | omega | (have := net_q (by assumption); omega) | (have := net_q (x := el 10 _) (by assumption); omega) | (have := find_q (by assumption); omega) | (have := finds_q (by assumption); omega)))
    | with_reducible refine Fo.wh (fun cc ss => fo_SX12_goesBand_78 _ _ _ _ _ _ cc hrec (fun c i h => by have hh := hP c i h; first | exact hh | (obtain ⟨g0, g1, g2, g3⟩ := hh; and_intros <;> first | assumption | (intro e; exact absurd e (by assumption))) | omega | (have := net_q (by assumption); omega) | (have := net_q (x := el 10 _) (by assumption); omega) | (have := find_q (by assumption); omega) | (have := finds_q (by assumption); omega)))
    | with_reducible exact hrec _ _ _ _ _ _
    | with_reducible refine Fo.bd ?_ (fun _ _ => ?_)
    | with_reducible refine Fo.ck (fun _ => ?_)
    | with_reducible refine Fo.ite ?_ ?_
    | with_reducible refine Fo.rd (fun _ => ?_)
    | with_reducible refine Fo.wr (fun c i h => by have hh := hP c i h; first | exact hh | (obtain ⟨g0, g1, g2, g3⟩ := hh; and_intros <;> first | assumption | (intro e; exact absurd e (by assumption))) | omega | (have := net_q (by assumption); omega) | (have := net_q (x := el 10 _) (by assumption); omega) | (have := find_q (by assumption); omega) | (have := finds_q (by assumption); omega)) (fun _ => ?_)
    | with_reducible refine Fo.cp (fun c i h => by have hh := hP c i h; first | exact hh | (obtain ⟨g0, g1, g2, g3⟩ := hh; and_intros <;> first | assumption | (intro e; exact absurd e (by assumption))) | omega | (have := net_q (by assumption); omega) | (have := net_q (x := el 10 _) (by assumption); omega)) (fun _ => ?_)
    | with_reducible refine Fo.oe ?_ (fun _ => ?_)
    | with_reducible refine Fo.se (fun _ => ?_) (fun _ => ?_)
theorem fo_FX12_goesBand {P : Nat → Nat → Prop} {t : St} (k : Nat) (q0 q1 q2 q3 q4 : Int32) (hP : ∀ c i, P c i → c ≠ 154 ∧ c ≠ 158 ∧ (c = 149 → i ≠ 18) ∧ (c = 149 → i ≠ 19)) : Fo P t (FX12_goesBand k q0 q1 q2 q3 q4 t) := by
  induction k generalizing t q0 q1 q2 q3 q4 with
  | zero => exact Fo.no
  | succ k ih => exact fo_FX12_goesBand_b _ _ _ _ _ _ (fun q0 q1 q2 q3 q4 s => ih q0 q1 q2 q3 q4) hP
set_option maxHeartbeats 4000000 in
theorem fo_FX12_rowsOfBand {P : Nat → Nat → Prop} {t : St} (a : Int32) (b : Int32) (c : Int32) (hP : ∀ c i, P c i → c ≠ 154 ∧ c ≠ 158 ∧ (c = 149 → i ≠ 18) ∧ (c = 149 → i ≠ 19)) : Fo P t (FX12_rowsOfBand a b c t) := by
  unfold FX12_rowsOfBand
  repeat' first
    | with_reducible exact Fo.ret
    | with_reducible exact Fo.no
    | with_reducible exact fo_FX12_goesBand _ _ _ _ _ _ (fun c i h => by have hh := hP c i h; first | exact hh | (obtain ⟨g0, g1, g2, g3⟩ := hh; and_intros <;> first | assumption | (intro e; exact absurd e (by assumption))) | omega | (have := net_q (by assumption); omega) | (have := net_q (x := el 10 _) (by assumption); omega) | (have := find_q (by assumption); omega) | (have := finds_q (by assumption); omega))
    | with_reducible refine Fo.bd ?_ (fun _ _ => ?_)
    | with_reducible refine Fo.ck (fun _ => ?_)
    | with_reducible refine Fo.ite ?_ ?_
    | with_reducible refine Fo.rd (fun _ => ?_)
    | with_reducible refine Fo.wr (fun c i h => by have hh := hP c i h; first | exact hh | (obtain ⟨g0, g1, g2, g3⟩ := hh; and_intros <;> first | assumption | (intro e; exact absurd e (by assumption))) | omega | (have := net_q (by assumption); omega) | (have := net_q (x := el 10 _) (by assumption); omega) | (have := find_q (by assumption); omega) | (have := finds_q (by assumption); omega)) (fun _ => ?_)
    | with_reducible refine Fo.cp (fun c i h => by have hh := hP c i h; first | exact hh | (obtain ⟨g0, g1, g2, g3⟩ := hh; and_intros <;> first | assumption | (intro e; exact absurd e (by assumption))) | omega | (have := net_q (by assumption); omega) | (have := net_q (x := el 10 _) (by assumption); omega)) (fun _ => ?_)
    | with_reducible refine Fo.oe ?_ (fun _ => ?_)
    | with_reducible refine Fo.se (fun _ => ?_) (fun _ => ?_)
set_option maxHeartbeats 4000000 in
theorem fo_SX12_leastBand_2 {P : Nat → Nat → Prop} {t : St} (w1 : Int32) (c : Int32) (hP : ∀ c i, P c i → c ≠ 154 ∧ c ≠ 158 ∧ (c = 149 → i ≠ 18) ∧ (c = 149 → i ≠ 19)) : Fo P t (SX12_leastBand_2 w1 c t) := by
  unfold SX12_leastBand_2
  repeat' first
    | with_reducible exact Fo.ret
    | with_reducible exact Fo.no
    | with_reducible exact fo_FX12_rowsOfBand _ _ _ (fun c i h => by have hh := hP c i h; first | exact hh | (obtain ⟨g0, g1, g2, g3⟩ := hh; and_intros <;> first | assumption | (intro e; exact absurd e (by assumption))) | omega | (have := net_q (by assumption); omega) | (have := net_q (x := el 10 _) (by assumption); omega) | (have := find_q (by assumption); omega) | (have := finds_q (by assumption); omega))
    | with_reducible refine Fo.bd ?_ (fun _ _ => ?_)
    | with_reducible refine Fo.ck (fun _ => ?_)
    | with_reducible refine Fo.ite ?_ ?_
    | with_reducible refine Fo.rd (fun _ => ?_)
    | with_reducible refine Fo.wr (fun c i h => by have hh := hP c i h; first | exact hh | (obtain ⟨g0, g1, g2, g3⟩ := hh; and_intros <;> first | assumption | (intro e; exact absurd e (by assumption))) | omega | (have := net_q (by assumption); omega) | (have := net_q (x := el 10 _) (by assumption); omega) | (have := find_q (by assumption); omega) | (have := finds_q (by assumption); omega)) (fun _ => ?_)
    | with_reducible refine Fo.cp (fun c i h => by have hh := hP c i h; first | exact hh | (obtain ⟨g0, g1, g2, g3⟩ := hh; and_intros <;> first | assumption | (intro e; exact absurd e (by assumption))) | omega | (have := net_q (by assumption); omega) | (have := net_q (x := el 10 _) (by assumption); omega)) (fun _ => ?_)
    | with_reducible refine Fo.oe ?_ (fun _ => ?_)
    | with_reducible refine Fo.se (fun _ => ?_) (fun _ => ?_)
set_option maxHeartbeats 4000000 in
theorem fo_FX12_leastBand {P : Nat → Nat → Prop} {t : St} (a : Int32) (hP : ∀ c i, P c i → c ≠ 154 ∧ c ≠ 158 ∧ (c = 149 → i ≠ 18) ∧ (c = 149 → i ≠ 19)) : Fo P t (FX12_leastBand a t) := by
  unfold FX12_leastBand
  repeat' first
    | with_reducible exact Fo.ret
    | with_reducible exact Fo.no
    | with_reducible refine Fo.wh (fun cc ss => fo_SX12_leastBand_2 _ cc (fun c i h => by have hh := hP c i h; first | exact hh | (obtain ⟨g0, g1, g2, g3⟩ := hh; and_intros <;> first | assumption | (intro e; exact absurd e (by assumption))) | omega | (have := net_q (by assumption); omega) | (have := net_q (x := el 10 _) (by assumption); omega) | (have := find_q (by assumption); omega) | (have := finds_q (by assumption); omega)))
    | with_reducible refine Fo.bd ?_ (fun _ _ => ?_)
    | with_reducible refine Fo.ck (fun _ => ?_)
    | with_reducible refine Fo.ite ?_ ?_
    | with_reducible refine Fo.rd (fun _ => ?_)
    | with_reducible refine Fo.wr (fun c i h => by have hh := hP c i h; first | exact hh | (obtain ⟨g0, g1, g2, g3⟩ := hh; and_intros <;> first | assumption | (intro e; exact absurd e (by assumption))) | omega | (have := net_q (by assumption); omega) | (have := net_q (x := el 10 _) (by assumption); omega) | (have := find_q (by assumption); omega) | (have := finds_q (by assumption); omega)) (fun _ => ?_)
    | with_reducible refine Fo.cp (fun c i h => by have hh := hP c i h; first | exact hh | (obtain ⟨g0, g1, g2, g3⟩ := hh; and_intros <;> first | assumption | (intro e; exact absurd e (by assumption))) | omega | (have := net_q (by assumption); omega) | (have := net_q (x := el 10 _) (by assumption); omega)) (fun _ => ?_)
    | with_reducible refine Fo.oe ?_ (fun _ => ?_)
    | with_reducible refine Fo.se (fun _ => ?_) (fun _ => ?_)
set_option maxHeartbeats 4000000 in
theorem fo_SX12_laysBest_72 {P : Nat → Nat → Prop} {t : St} (w1 : Int32) (w2 : Int32) (w3 : Int32) (w4 : Int32) (w5 : Int32) (c : Int32) : Fo P t (SX12_laysBest_72 w1 w2 w3 w4 w5 c t) := by
  unfold SX12_laysBest_72
  repeat' first
    | with_reducible exact Fo.ret
    | with_reducible exact Fo.no
    | with_reducible exact fo_FX12_keepsLeast _ _ _ _
    | with_reducible refine Fo.bd ?_ (fun _ _ => ?_)
    | with_reducible refine Fo.ck (fun _ => ?_)
    | with_reducible refine Fo.ite ?_ ?_
    | with_reducible refine Fo.rd (fun _ => ?_)
    | with_reducible refine Fo.oe ?_ (fun _ => ?_)
    | with_reducible refine Fo.se (fun _ => ?_) (fun _ => ?_)
set_option maxHeartbeats 4000000 in
theorem fo_SX12_laysBest_59 {P : Nat → Nat → Prop} {t : St} (w1 : Int32) (w2 : Int32) (c : Int32 × Int32 × Int32) (hP : ∀ c i, P c i → c ≠ 159) : Fo P t (SX12_laysBest_59 w1 w2 c t) := by
  unfold SX12_laysBest_59
  repeat' first
    | with_reducible exact Fo.ret
    | with_reducible exact Fo.no
    | with_reducible exact fo_FX12_points _
    | with_reducible refine Fo.wh (fun cc ss => fo_SX12_laysBest_72 _ _ _ _ _ cc)
    | with_reducible exact fo_FX12_both _ _ _
    | with_reducible refine Fo.bd ?_ (fun _ _ => ?_)
    | with_reducible refine Fo.ck (fun _ => ?_)
    | with_reducible refine Fo.ite ?_ ?_
    | with_reducible refine Fo.rd (fun _ => ?_)
    | with_reducible refine Fo.wr (fun c i h => by have hh := hP c i h; first | exact hh | (intro e; exact absurd e hh) | omega | (have := net_q (by assumption); omega) | (have := net_q (x := el 10 _) (by assumption); omega) | (have := find_q (by assumption); omega) | (have := finds_q (by assumption); omega)) (fun _ => ?_)
    | with_reducible refine Fo.cp (fun c i h => by have hh := hP c i h; first | exact hh | (intro e; exact absurd e hh) | omega | (have := net_q (by assumption); omega) | (have := net_q (x := el 10 _) (by assumption); omega)) (fun _ => ?_)
    | with_reducible refine Fo.oe ?_ (fun _ => ?_)
    | with_reducible refine Fo.se (fun _ => ?_) (fun _ => ?_)
set_option maxHeartbeats 4000000 in
theorem fo_SX12_laysBest_14 {P : Nat → Nat → Prop} {t : St} (w1 : Int32) (c : Int32) (hP : ∀ c i, P c i → c ≠ 159) : Fo P t (SX12_laysBest_14 w1 c t) := by
  unfold SX12_laysBest_14
  repeat' first
    | with_reducible exact Fo.ret
    | with_reducible exact Fo.no
    | with_reducible exact fo_FX12_points _
    | with_reducible refine Fo.bd ?_ (fun _ _ => ?_)
    | with_reducible refine Fo.ck (fun _ => ?_)
    | with_reducible refine Fo.ite ?_ ?_
    | with_reducible refine Fo.rd (fun _ => ?_)
    | with_reducible refine Fo.wr (fun c i h => by have hh := hP c i h; first | exact hh | (intro e; exact absurd e hh) | omega | (have := net_q (by assumption); omega) | (have := net_q (x := el 10 _) (by assumption); omega) | (have := find_q (by assumption); omega) | (have := finds_q (by assumption); omega)) (fun _ => ?_)
    | with_reducible refine Fo.cp (fun c i h => by have hh := hP c i h; first | exact hh | (intro e; exact absurd e hh) | omega | (have := net_q (by assumption); omega) | (have := net_q (x := el 10 _) (by assumption); omega)) (fun _ => ?_)
    | with_reducible refine Fo.oe ?_ (fun _ => ?_)
    | with_reducible refine Fo.se (fun _ => ?_) (fun _ => ?_)
set_option maxHeartbeats 4000000 in
theorem fo_FX12_laysBest {P : Nat → Nat → Prop} {t : St} (a : Int32) (b : Int32) (hP : ∀ c i, P c i → c ≠ 154 ∧ c ≠ 155 ∧ c ≠ 157 ∧ c ≠ 158 ∧ c ≠ 159 ∧ (c = 149 → i ≠ 17) ∧ (c = 149 → i ≠ 18) ∧ (c = 149 → i ≠ 19)) : Fo P t (FX12_laysBest a b t) := by
  unfold FX12_laysBest
  repeat' first
    | with_reducible exact Fo.ret
    | with_reducible exact Fo.no
    | with_reducible exact fo_FX12_leastBand _ (fun c i h => by have hh := hP c i h; first | exact hh | (obtain ⟨g0, g1, g2, g3, g4, g5, g6, g7⟩ := hh; and_intros <;> first | assumption | (intro e; exact absurd e (by assumption))) | omega | (have := net_q (by assumption); omega) | (have := net_q (x := el 10 _) (by assumption); omega) | (have := find_q (by assumption); omega) | (have := finds_q (by assumption); omega))
    | with_reducible refine Fo.wh (fun cc ss => fo_SX12_laysBest_14 _ cc (fun c i h => by have hh := hP c i h; first | exact hh | (obtain ⟨g0, g1, g2, g3, g4, g5, g6, g7⟩ := hh; and_intros <;> first | assumption | (intro e; exact absurd e (by assumption))) | omega | (have := net_q (by assumption); omega) | (have := net_q (x := el 10 _) (by assumption); omega) | (have := find_q (by assumption); omega) | (have := finds_q (by assumption); omega)))
    | with_reducible exact fo_FX12_laysLeast _ _ (fun c i h => by have hh := hP c i h; first | exact hh | (obtain ⟨g0, g1, g2, g3, g4, g5, g6, g7⟩ := hh; and_intros <;> first | assumption | (intro e; exact absurd e (by assumption))) | omega | (have := net_q (by assumption); omega) | (have := net_q (x := el 10 _) (by assumption); omega) | (have := find_q (by assumption); omega) | (have := finds_q (by assumption); omega))
    | with_reducible refine Fo.wh (fun cc ss => fo_SX12_laysBest_59 _ _ cc (fun c i h => by have hh := hP c i h; first | exact hh | (obtain ⟨g0, g1, g2, g3, g4, g5, g6, g7⟩ := hh; and_intros <;> first | assumption | (intro e; exact absurd e (by assumption))) | omega | (have := net_q (by assumption); omega) | (have := net_q (x := el 10 _) (by assumption); omega) | (have := find_q (by assumption); omega) | (have := finds_q (by assumption); omega)))
    | with_reducible refine Fo.bd ?_ (fun _ _ => ?_)
    | with_reducible refine Fo.ck (fun _ => ?_)
    | with_reducible refine Fo.ite ?_ ?_
    | with_reducible refine Fo.rd (fun _ => ?_)
    | with_reducible refine Fo.wr (fun c i h => by have hh := hP c i h; first | exact hh | (obtain ⟨g0, g1, g2, g3, g4, g5, g6, g7⟩ := hh; and_intros <;> first | assumption | (intro e; exact absurd e (by assumption))) | omega | (have := net_q (by assumption); omega) | (have := net_q (x := el 10 _) (by assumption); omega) | (have := find_q (by assumption); omega) | (have := finds_q (by assumption); omega)) (fun _ => ?_)
    | with_reducible refine Fo.cp (fun c i h => by have hh := hP c i h; first | exact hh | (obtain ⟨g0, g1, g2, g3, g4, g5, g6, g7⟩ := hh; and_intros <;> first | assumption | (intro e; exact absurd e (by assumption))) | omega | (have := net_q (by assumption); omega) | (have := net_q (x := el 10 _) (by assumption); omega)) (fun _ => ?_)
    | with_reducible refine Fo.oe ?_ (fun _ => ?_)
    | with_reducible refine Fo.se (fun _ => ?_) (fun _ => ?_)
set_option maxHeartbeats 4000000 in
theorem fo_FX12_best {P : Nat → Nat → Prop} {t : St} (a : Int32) (b : Int32) (c : Int32) (hP : ∀ c i, P c i → c ≠ 154 ∧ c ≠ 155 ∧ c ≠ 157 ∧ c ≠ 158 ∧ c ≠ 159 ∧ (c = 149 → i ≠ 17) ∧ (c = 149 → i ≠ 18) ∧ (c = 149 → i ≠ 19)) : Fo P t (FX12_best a b c t) := by
  unfold FX12_best
  repeat' first
    | with_reducible exact Fo.ret
    | with_reducible exact Fo.no
    | with_reducible exact fo_FX12_isPoint _ _
    | with_reducible exact fo_FX12_isMeasure _
    | with_reducible exact fo_FX12_laysBest _ _ (fun c i h => by have hh := hP c i h; first | exact hh | (obtain ⟨g0, g1, g2, g3, g4, g5, g6, g7⟩ := hh; and_intros <;> first | assumption | (intro e; exact absurd e (by assumption))) | omega | (have := net_q (by assumption); omega) | (have := net_q (x := el 10 _) (by assumption); omega) | (have := find_q (by assumption); omega) | (have := finds_q (by assumption); omega))
    | with_reducible refine Fo.bd ?_ (fun _ _ => ?_)
    | with_reducible refine Fo.ck (fun _ => ?_)
    | with_reducible refine Fo.ite ?_ ?_
    | with_reducible refine Fo.rd (fun _ => ?_)
    | with_reducible refine Fo.wr (fun c i h => by have hh := hP c i h; first | exact hh | (obtain ⟨g0, g1, g2, g3, g4, g5, g6, g7⟩ := hh; and_intros <;> first | assumption | (intro e; exact absurd e (by assumption))) | omega | (have := net_q (by assumption); omega) | (have := net_q (x := el 10 _) (by assumption); omega) | (have := find_q (by assumption); omega) | (have := finds_q (by assumption); omega)) (fun _ => ?_)
    | with_reducible refine Fo.cp (fun c i h => by have hh := hP c i h; first | exact hh | (obtain ⟨g0, g1, g2, g3, g4, g5, g6, g7⟩ := hh; and_intros <;> first | assumption | (intro e; exact absurd e (by assumption))) | omega | (have := net_q (by assumption); omega) | (have := net_q (x := el 10 _) (by assumption); omega)) (fun _ => ?_)
    | with_reducible refine Fo.oe ?_ (fun _ => ?_)
    | with_reducible refine Fo.se (fun _ => ?_) (fun _ => ?_)
set_option maxHeartbeats 4000000 in
theorem fo_SX12_core_22 {P : Nat → Nat → Prop} {t : St} (w1 : Int32) (w2 : Int32) (w3 : Int32) (c : Int32 × Int32) : Fo P t (SX12_core_22 w1 w2 w3 c t) := by
  unfold SX12_core_22
  repeat' first
    | with_reducible exact Fo.ret
    | with_reducible exact Fo.no
    | with_reducible exact fo_FX12_points _
    | with_reducible exact fo_FX12_has _ _
    | with_reducible exact fo_FX12_nearOf _ _
    | with_reducible exact fo_FX12_ones _
    | with_reducible refine Fo.bd ?_ (fun _ _ => ?_)
    | with_reducible refine Fo.ck (fun _ => ?_)
    | with_reducible refine Fo.ite ?_ ?_
    | with_reducible refine Fo.rd (fun _ => ?_)
    | with_reducible refine Fo.oe ?_ (fun _ => ?_)
    | with_reducible refine Fo.se (fun _ => ?_) (fun _ => ?_)
set_option maxHeartbeats 4000000 in
theorem fo_SX12_core_4 {P : Nat → Nat → Prop} {t : St} (w1 : Int32) (c : Int32 × Int32) : Fo P t (SX12_core_4 w1 c t) := by
  unfold SX12_core_4
  repeat' first
    | with_reducible exact Fo.ret
    | with_reducible exact Fo.no
    | with_reducible exact fo_FX12_points _
    | with_reducible refine Fo.wh (fun cc ss => fo_SX12_core_22 _ _ _ cc)
    | with_reducible refine Fo.bd ?_ (fun _ _ => ?_)
    | with_reducible refine Fo.ck (fun _ => ?_)
    | with_reducible refine Fo.ite ?_ ?_
    | with_reducible refine Fo.rd (fun _ => ?_)
    | with_reducible refine Fo.oe ?_ (fun _ => ?_)
    | with_reducible refine Fo.se (fun _ => ?_) (fun _ => ?_)
set_option maxHeartbeats 4000000 in
theorem fo_FX12_core {P : Nat → Nat → Prop} {t : St} (a : Int32) : Fo P t (FX12_core a t) := by
  unfold FX12_core
  repeat' first
    | with_reducible exact Fo.ret
    | with_reducible exact Fo.no
    | with_reducible refine Fo.wh (fun cc ss => fo_SX12_core_4 _ cc)
    | with_reducible refine Fo.bd ?_ (fun _ _ => ?_)
    | with_reducible refine Fo.ck (fun _ => ?_)
    | with_reducible refine Fo.ite ?_ ?_
    | with_reducible refine Fo.rd (fun _ => ?_)
    | with_reducible refine Fo.oe ?_ (fun _ => ?_)
    | with_reducible refine Fo.se (fun _ => ?_) (fun _ => ?_)
set_option maxHeartbeats 4000000 in
theorem fo_SX12_degree_4 {P : Nat → Nat → Prop} {t : St} (w1 : Int32) (c : Int32 × Int32) : Fo P t (SX12_degree_4 w1 c t) := by
  unfold SX12_degree_4
  repeat' first
    | with_reducible exact Fo.ret
    | with_reducible exact Fo.no
    | with_reducible exact fo_FX12_points _
    | with_reducible exact fo_FX12_nearOf _ _
    | with_reducible exact fo_FX12_ones _
    | with_reducible refine Fo.bd ?_ (fun _ _ => ?_)
    | with_reducible refine Fo.ck (fun _ => ?_)
    | with_reducible refine Fo.ite ?_ ?_
    | with_reducible refine Fo.rd (fun _ => ?_)
    | with_reducible refine Fo.oe ?_ (fun _ => ?_)
    | with_reducible refine Fo.se (fun _ => ?_) (fun _ => ?_)
set_option maxHeartbeats 4000000 in
theorem fo_FX12_degree {P : Nat → Nat → Prop} {t : St} (a : Int32) : Fo P t (FX12_degree a t) := by
  unfold FX12_degree
  repeat' first
    | with_reducible exact Fo.ret
    | with_reducible exact Fo.no
    | with_reducible refine Fo.wh (fun cc ss => fo_SX12_degree_4 _ cc)
    | with_reducible refine Fo.bd ?_ (fun _ _ => ?_)
    | with_reducible refine Fo.ck (fun _ => ?_)
    | with_reducible refine Fo.ite ?_ ?_
    | with_reducible refine Fo.rd (fun _ => ?_)
    | with_reducible refine Fo.oe ?_ (fun _ => ?_)
    | with_reducible refine Fo.se (fun _ => ?_) (fun _ => ?_)
set_option maxHeartbeats 4000000 in
theorem fo_SX12_weightOf_5 {P : Nat → Nat → Prop} {t : St} (w1 : Int32) (w2 : Int32) (c : Int32 × Int32) : Fo P t (SX12_weightOf_5 w1 w2 c t) := by
  unfold SX12_weightOf_5
  repeat' first
    | with_reducible exact Fo.ret
    | with_reducible exact Fo.no
    | with_reducible exact fo_FX12_points _
    | with_reducible exact fo_FX12_weight _ _ _
    | with_reducible refine Fo.bd ?_ (fun _ _ => ?_)
    | with_reducible refine Fo.ck (fun _ => ?_)
    | with_reducible refine Fo.ite ?_ ?_
    | with_reducible refine Fo.rd (fun _ => ?_)
    | with_reducible refine Fo.oe ?_ (fun _ => ?_)
    | with_reducible refine Fo.se (fun _ => ?_) (fun _ => ?_)
set_option maxHeartbeats 4000000 in
theorem fo_FX12_weightOf {P : Nat → Nat → Prop} {t : St} (a : Int32) (b : Int32) : Fo P t (FX12_weightOf a b t) := by
  unfold FX12_weightOf
  repeat' first
    | with_reducible exact Fo.ret
    | with_reducible exact Fo.no
    | with_reducible refine Fo.wh (fun cc ss => fo_SX12_weightOf_5 _ _ cc)
    | with_reducible refine Fo.bd ?_ (fun _ _ => ?_)
    | with_reducible refine Fo.ck (fun _ => ?_)
    | with_reducible refine Fo.ite ?_ ?_
    | with_reducible refine Fo.rd (fun _ => ?_)
    | with_reducible refine Fo.oe ?_ (fun _ => ?_)
    | with_reducible refine Fo.se (fun _ => ?_) (fun _ => ?_)
set_option maxHeartbeats 4000000 in
theorem fo_SX12_bound_66 {P : Nat → Nat → Prop} {t : St} (w1 : Int32) (w2 : Int32) (c : Int32 × Int32) : Fo P t (SX12_bound_66 w1 w2 c t) := by
  unfold SX12_bound_66
  repeat' first
    | with_reducible exact Fo.ret
    | with_reducible exact Fo.no
    | with_reducible exact fo_FX12_points _
    | with_reducible exact fo_FX12_weightOf _ _
    | with_reducible refine Fo.bd ?_ (fun _ _ => ?_)
    | with_reducible refine Fo.ck (fun _ => ?_)
    | with_reducible refine Fo.ite ?_ ?_
    | with_reducible refine Fo.rd (fun _ => ?_)
    | with_reducible refine Fo.oe ?_ (fun _ => ?_)
    | with_reducible refine Fo.se (fun _ => ?_) (fun _ => ?_)
set_option maxHeartbeats 4000000 in
theorem fo_FX12_bound {P : Nat → Nat → Prop} {t : St} (a : Int32) (b : Int32) (c : Int32) : Fo P t (FX12_bound a b c t) := by
  unfold FX12_bound
  repeat' first
    | with_reducible exact Fo.ret
    | with_reducible exact Fo.no
    | with_reducible exact fo_FX12_isNet _
    | with_reducible exact fo_FX12_isMeasure _
    | with_reducible exact fo_FX12_in _ _ _
    | with_reducible exact fo_FX12_balls _
    | with_reducible refine Fo.wh (fun cc ss => fo_SX12_bound_66 _ _ cc)
    | with_reducible exact fo_FX12_degree _
    | with_reducible exact fo_FX12_core _
    | with_reducible exact fo_FX12_isGreatest _
    | with_reducible refine Fo.bd ?_ (fun _ _ => ?_)
    | with_reducible refine Fo.ck (fun _ => ?_)
    | with_reducible refine Fo.ite ?_ ?_
    | with_reducible refine Fo.rd (fun _ => ?_)
    | with_reducible refine Fo.oe ?_ (fun _ => ?_)
    | with_reducible refine Fo.se (fun _ => ?_) (fun _ => ?_)
set_option maxHeartbeats 4000000 in
theorem fo_SX12_count_4 {P : Nat → Nat → Prop} {t : St} (w1 : Int32) (c : Int32 × Int32) : Fo P t (SX12_count_4 w1 c t) := by
  unfold SX12_count_4
  repeat' first
    | with_reducible exact Fo.ret
    | with_reducible exact Fo.no
    | with_reducible exact fo_FX12_isNet _
    | with_reducible refine Fo.bd ?_ (fun _ _ => ?_)
    | with_reducible refine Fo.ck (fun _ => ?_)
    | with_reducible refine Fo.ite ?_ ?_
    | with_reducible refine Fo.rd (fun _ => ?_)
    | with_reducible refine Fo.oe ?_ (fun _ => ?_)
    | with_reducible refine Fo.se (fun _ => ?_) (fun _ => ?_)
set_option maxHeartbeats 4000000 in
theorem fo_FX12_count {P : Nat → Nat → Prop} {t : St} (a : Int32) : Fo P t (FX12_count a t) := by
  unfold FX12_count
  repeat' first
    | with_reducible exact Fo.ret
    | with_reducible exact Fo.no
    | with_reducible refine Fo.wh (fun cc ss => fo_SX12_count_4 _ cc)
    | with_reducible refine Fo.bd ?_ (fun _ _ => ?_)
    | with_reducible refine Fo.ck (fun _ => ?_)
    | with_reducible refine Fo.ite ?_ ?_
    | with_reducible refine Fo.rd (fun _ => ?_)
    | with_reducible refine Fo.oe ?_ (fun _ => ?_)
    | with_reducible refine Fo.se (fun _ => ?_) (fun _ => ?_)
set_option maxHeartbeats 4000000 in
theorem fo_FX12_cuts {P : Nat → Nat → Prop} {t : St} (a : Int32) (b : Int32) (c : Int32) (hP : ∀ c i, P c i → c ≠ 150 ∧ c ≠ 151 ∧ c ≠ 152 ∧ (c = 149 → i ≠ 3)) : Fo P t (FX12_cuts a b c t) := by
  unfold FX12_cuts
  repeat' first
    | with_reducible exact Fo.ret
    | with_reducible exact Fo.no
    | with_reducible exact fo_FX12_areTwo _ _ _
    | with_reducible exact fo_FX12_weight _ _ _
    | with_reducible exact fo_FX12_remembers (fun c i h => by have hh := hP c i h; first | exact hh | (obtain ⟨g0, g1, g2, g3⟩ := hh; and_intros <;> first | assumption | (intro e; exact absurd e (by assumption))) | omega | (have := net_q (by assumption); omega) | (have := net_q (x := el 10 _) (by assumption); omega) | (have := find_q (by assumption); omega) | (have := finds_q (by assumption); omega))
    | with_reducible exact fo_FX12_weighs _ _ _ _ (fun c i h => by have hh := hP c i h; first | exact hh | (obtain ⟨g0, g1, g2, g3⟩ := hh; and_intros <;> first | assumption | (intro e; exact absurd e (by assumption))) | omega | (have := net_q (by assumption); omega) | (have := net_q (x := el 10 _) (by assumption); omega) | (have := find_q (by assumption); omega) | (have := finds_q (by assumption); omega))
    | with_reducible exact fo_FX12_keeps _ (fun c i h => by have hh := hP c i h; first | exact hh | (obtain ⟨g0, g1, g2, g3⟩ := hh; and_intros <;> first | assumption | (intro e; exact absurd e (by assumption))) | omega | (have := net_q (by assumption); omega) | (have := net_q (x := el 10 _) (by assumption); omega) | (have := find_q (by assumption); omega) | (have := finds_q (by assumption); omega))
    | with_reducible refine Fo.bd ?_ (fun _ _ => ?_)
    | with_reducible refine Fo.ck (fun _ => ?_)
    | with_reducible refine Fo.ite ?_ ?_
    | with_reducible refine Fo.rd (fun _ => ?_)
    | with_reducible refine Fo.wr (fun c i h => by have hh := hP c i h; first | exact hh | (obtain ⟨g0, g1, g2, g3⟩ := hh; and_intros <;> first | assumption | (intro e; exact absurd e (by assumption))) | omega | (have := net_q (by assumption); omega) | (have := net_q (x := el 10 _) (by assumption); omega) | (have := find_q (by assumption); omega) | (have := finds_q (by assumption); omega)) (fun _ => ?_)
    | with_reducible refine Fo.cp (fun c i h => by have hh := hP c i h; first | exact hh | (obtain ⟨g0, g1, g2, g3⟩ := hh; and_intros <;> first | assumption | (intro e; exact absurd e (by assumption))) | omega | (have := net_q (by assumption); omega) | (have := net_q (x := el 10 _) (by assumption); omega)) (fun _ => ?_)
    | with_reducible refine Fo.oe ?_ (fun _ => ?_)
    | with_reducible refine Fo.se (fun _ => ?_) (fun _ => ?_)
set_option maxHeartbeats 4000000 in
theorem fo_SX12_diameter_16 {P : Nat → Nat → Prop} {t : St} (w1 : Int32) (w3 : Int32) (c : Int32 × Int32) : Fo P t (SX12_diameter_16 w1 w3 c t) := by
  unfold SX12_diameter_16
  repeat' first
    | with_reducible exact Fo.ret
    | with_reducible exact Fo.no
    | with_reducible exact fo_FX12_points _
    | with_reducible exact fo_FX12_farOf _ _ _
    | with_reducible refine Fo.bd ?_ (fun _ _ => ?_)
    | with_reducible refine Fo.ck (fun _ => ?_)
    | with_reducible refine Fo.ite ?_ ?_
    | with_reducible refine Fo.rd (fun _ => ?_)
    | with_reducible refine Fo.oe ?_ (fun _ => ?_)
    | with_reducible refine Fo.se (fun _ => ?_) (fun _ => ?_)
set_option maxHeartbeats 4000000 in
theorem fo_SX12_diameter_4 {P : Nat → Nat → Prop} {t : St} (w1 : Int32) (c : Int32 × Int32) : Fo P t (SX12_diameter_4 w1 c t) := by
  unfold SX12_diameter_4
  repeat' first
    | with_reducible exact Fo.ret
    | with_reducible exact Fo.no
    | with_reducible exact fo_FX12_points _
    | with_reducible refine Fo.wh (fun cc ss => fo_SX12_diameter_16 _ _ cc)
    | with_reducible refine Fo.bd ?_ (fun _ _ => ?_)
    | with_reducible refine Fo.ck (fun _ => ?_)
    | with_reducible refine Fo.ite ?_ ?_
    | with_reducible refine Fo.rd (fun _ => ?_)
    | with_reducible refine Fo.oe ?_ (fun _ => ?_)
    | with_reducible refine Fo.se (fun _ => ?_) (fun _ => ?_)
set_option maxHeartbeats 4000000 in
theorem fo_FX12_diameter {P : Nat → Nat → Prop} {t : St} (a : Int32) : Fo P t (FX12_diameter a t) := by
  unfold FX12_diameter
  repeat' first
    | with_reducible exact Fo.ret
    | with_reducible exact Fo.no
    | with_reducible refine Fo.wh (fun cc ss => fo_SX12_diameter_4 _ cc)
    | with_reducible refine Fo.bd ?_ (fun _ _ => ?_)
    | with_reducible refine Fo.ck (fun _ => ?_)
    | with_reducible refine Fo.ite ?_ ?_
    | with_reducible refine Fo.rd (fun _ => ?_)
    | with_reducible refine Fo.oe ?_ (fun _ => ?_)
    | with_reducible refine Fo.se (fun _ => ?_) (fun _ => ?_)
set_option maxHeartbeats 4000000 in
theorem fo_SX12_empties_2 {P : Nat → Nat → Prop} {t : St} (w1 : Int32) (c : Int32) (hP : ∀ c i, P c i → c ≠ 150) : Fo P t (SX12_empties_2 w1 c t) := by
  unfold SX12_empties_2
  repeat' first
    | with_reducible exact Fo.ret
    | with_reducible exact Fo.no
    | with_reducible refine Fo.bd ?_ (fun _ _ => ?_)
    | with_reducible refine Fo.ck (fun _ => ?_)
    | with_reducible refine Fo.ite ?_ ?_
    | with_reducible refine Fo.rd (fun _ => ?_)
    | with_reducible refine Fo.wr (fun c i h => by have hh := hP c i h; first | exact hh | (intro e; exact absurd e hh) | omega | (have := net_q (by assumption); omega) | (have := net_q (x := el 10 _) (by assumption); omega) | (have := find_q (by assumption); omega) | (have := finds_q (by assumption); omega)) (fun _ => ?_)
    | with_reducible refine Fo.cp (fun c i h => by have hh := hP c i h; first | exact hh | (intro e; exact absurd e hh) | omega | (have := net_q (by assumption); omega) | (have := net_q (x := el 10 _) (by assumption); omega)) (fun _ => ?_)
    | with_reducible refine Fo.oe ?_ (fun _ => ?_)
    | with_reducible refine Fo.se (fun _ => ?_) (fun _ => ?_)
set_option maxHeartbeats 4000000 in
theorem fo_FX12_empties {P : Nat → Nat → Prop} {t : St} (a : Int32) (hP : ∀ c i, P c i → c ≠ 150) : Fo P t (FX12_empties a t) := by
  unfold FX12_empties
  repeat' first
    | with_reducible exact Fo.ret
    | with_reducible exact Fo.no
    | with_reducible refine Fo.wh (fun cc ss => fo_SX12_empties_2 _ cc (fun c i h => by have hh := hP c i h; first | exact hh | (intro e; exact absurd e hh) | omega | (have := net_q (by assumption); omega) | (have := net_q (x := el 10 _) (by assumption); omega) | (have := find_q (by assumption); omega) | (have := finds_q (by assumption); omega)))
    | with_reducible refine Fo.bd ?_ (fun _ _ => ?_)
    | with_reducible refine Fo.ck (fun _ => ?_)
    | with_reducible refine Fo.ite ?_ ?_
    | with_reducible refine Fo.rd (fun _ => ?_)
    | with_reducible refine Fo.wr (fun c i h => by have hh := hP c i h; first | exact hh | (intro e; exact absurd e hh) | omega | (have := net_q (by assumption); omega) | (have := net_q (x := el 10 _) (by assumption); omega) | (have := find_q (by assumption); omega) | (have := finds_q (by assumption); omega)) (fun _ => ?_)
    | with_reducible refine Fo.cp (fun c i h => by have hh := hP c i h; first | exact hh | (intro e; exact absurd e hh) | omega | (have := net_q (by assumption); omega) | (have := net_q (x := el 10 _) (by assumption); omega)) (fun _ => ?_)
    | with_reducible refine Fo.oe ?_ (fun _ => ?_)
    | with_reducible refine Fo.se (fun _ => ?_) (fun _ => ?_)
set_option maxHeartbeats 4000000 in
theorem fo_FX12_drops {P : Nat → Nat → Prop} {t : St} (a : Int32) (hP : ∀ c i, P c i → c ≠ 150 ∧ c ≠ 151 ∧ c ≠ 152 ∧ (c = 149 → i ≠ 3)) : Fo P t (FX12_drops a t) := by
  unfold FX12_drops
  repeat' first
    | with_reducible exact Fo.ret
    | with_reducible exact Fo.no
    | with_reducible exact fo_FX12_isSlot _
    | with_reducible exact fo_FX12_isNet _
    | with_reducible exact fo_FX12_remembers (fun c i h => by have hh := hP c i h; first | exact hh | (obtain ⟨g0, g1, g2, g3⟩ := hh; and_intros <;> first | assumption | (intro e; exact absurd e (by assumption))) | omega | (have := net_q (by assumption); omega) | (have := net_q (x := el 10 _) (by assumption); omega) | (have := find_q (by assumption); omega) | (have := finds_q (by assumption); omega))
    | with_reducible exact fo_FX12_empties _ (fun c i h => by have hh := hP c i h; first | exact hh | (obtain ⟨g0, g1, g2, g3⟩ := hh; and_intros <;> first | assumption | (intro e; exact absurd e (by assumption))) | omega | (have := net_q (by assumption); omega) | (have := net_q (x := el 10 _) (by assumption); omega) | (have := find_q (by assumption); omega) | (have := finds_q (by assumption); omega))
    | with_reducible exact fo_FX12_keeps _ (fun c i h => by have hh := hP c i h; first | exact hh | (obtain ⟨g0, g1, g2, g3⟩ := hh; and_intros <;> first | assumption | (intro e; exact absurd e (by assumption))) | omega | (have := net_q (by assumption); omega) | (have := net_q (x := el 10 _) (by assumption); omega) | (have := find_q (by assumption); omega) | (have := finds_q (by assumption); omega))
    | with_reducible refine Fo.bd ?_ (fun _ _ => ?_)
    | with_reducible refine Fo.ck (fun _ => ?_)
    | with_reducible refine Fo.ite ?_ ?_
    | with_reducible refine Fo.rd (fun _ => ?_)
    | with_reducible refine Fo.wr (fun c i h => by have hh := hP c i h; first | exact hh | (obtain ⟨g0, g1, g2, g3⟩ := hh; and_intros <;> first | assumption | (intro e; exact absurd e (by assumption))) | omega | (have := net_q (by assumption); omega) | (have := net_q (x := el 10 _) (by assumption); omega) | (have := find_q (by assumption); omega) | (have := finds_q (by assumption); omega)) (fun _ => ?_)
    | with_reducible refine Fo.cp (fun c i h => by have hh := hP c i h; first | exact hh | (obtain ⟨g0, g1, g2, g3⟩ := hh; and_intros <;> first | assumption | (intro e; exact absurd e (by assumption))) | omega | (have := net_q (by assumption); omega) | (have := net_q (x := el 10 _) (by assumption); omega)) (fun _ => ?_)
    | with_reducible refine Fo.oe ?_ (fun _ => ?_)
    | with_reducible refine Fo.se (fun _ => ?_) (fun _ => ?_)
set_option maxHeartbeats 4000000 in
theorem fo_FX12_exchanges {P : Nat → Nat → Prop} {t : St} (a : Int32) (b : Int32) (hP : ∀ c i, P c i → c ≠ 154) : Fo P t (FX12_exchanges a b t) := by
  unfold FX12_exchanges
  repeat' first
    | with_reducible exact Fo.ret
    | with_reducible exact Fo.no
    | with_reducible refine Fo.bd ?_ (fun _ _ => ?_)
    | with_reducible refine Fo.ck (fun _ => ?_)
    | with_reducible refine Fo.ite ?_ ?_
    | with_reducible refine Fo.rd (fun _ => ?_)
    | with_reducible refine Fo.wr (fun c i h => by have hh := hP c i h; first | exact hh | (intro e; exact absurd e hh) | omega | (have := net_q (by assumption); omega) | (have := net_q (x := el 10 _) (by assumption); omega) | (have := find_q (by assumption); omega) | (have := finds_q (by assumption); omega)) (fun _ => ?_)
    | with_reducible refine Fo.cp (fun c i h => by have hh := hP c i h; first | exact hh | (intro e; exact absurd e hh) | omega | (have := net_q (by assumption); omega) | (have := net_q (x := el 10 _) (by assumption); omega)) (fun _ => ?_)
    | with_reducible refine Fo.oe ?_ (fun _ => ?_)
    | with_reducible refine Fo.se (fun _ => ?_) (fun _ => ?_)
set_option maxHeartbeats 4000000 in
theorem fo_FX12_far {P : Nat → Nat → Prop} {t : St} (a : Int32) (b : Int32) (c : Int32) : Fo P t (FX12_far a b c t) := by
  unfold FX12_far
  repeat' first
    | with_reducible exact Fo.ret
    | with_reducible exact Fo.no
    | with_reducible exact fo_FX12_isPoint _ _
    | with_reducible exact fo_FX12_farOf _ _ _
    | with_reducible refine Fo.bd ?_ (fun _ _ => ?_)
    | with_reducible refine Fo.ck (fun _ => ?_)
    | with_reducible refine Fo.ite ?_ ?_
    | with_reducible refine Fo.rd (fun _ => ?_)
    | with_reducible refine Fo.oe ?_ (fun _ => ?_)
    | with_reducible refine Fo.se (fun _ => ?_) (fun _ => ?_)
set_option maxHeartbeats 4000000 in
theorem fo_FX12_fault {P : Nat → Nat → Prop} {t : St} (a : Int32) : Fo P t (FX12_fault a t) := by
  unfold FX12_fault
  repeat' first
    | with_reducible exact Fo.ret
    | with_reducible exact Fo.no
    | with_reducible refine Fo.bd ?_ (fun _ _ => ?_)
    | with_reducible refine Fo.ck (fun _ => ?_)
    | with_reducible refine Fo.ite ?_ ?_
    | with_reducible refine Fo.rd (fun _ => ?_)
    | with_reducible refine Fo.oe ?_ (fun _ => ?_)
    | with_reducible refine Fo.se (fun _ => ?_) (fun _ => ?_)
set_option maxHeartbeats 4000000 in
theorem fo_SX12_fewestOf_4 {P : Nat → Nat → Prop} {t : St} (w1 : Int32) (c : Int32 × Int32) : Fo P t (SX12_fewestOf_4 w1 c t) := by
  unfold SX12_fewestOf_4
  repeat' first
    | with_reducible exact Fo.ret
    | with_reducible exact Fo.no
    | with_reducible exact fo_FX12_has _ _
    | with_reducible exact fo_FX12_ones _
    | with_reducible refine Fo.bd ?_ (fun _ _ => ?_)
    | with_reducible refine Fo.ck (fun _ => ?_)
    | with_reducible refine Fo.ite ?_ ?_
    | with_reducible refine Fo.rd (fun _ => ?_)
    | with_reducible refine Fo.oe ?_ (fun _ => ?_)
    | with_reducible refine Fo.se (fun _ => ?_) (fun _ => ?_)
set_option maxHeartbeats 4000000 in
theorem fo_FX12_fewestOf {P : Nat → Nat → Prop} {t : St} (a : Int32) : Fo P t (FX12_fewestOf a t) := by
  unfold FX12_fewestOf
  repeat' first
    | with_reducible exact Fo.ret
    | with_reducible exact Fo.no
    | with_reducible refine Fo.wh (fun cc ss => fo_SX12_fewestOf_4 _ cc)
    | with_reducible refine Fo.bd ?_ (fun _ _ => ?_)
    | with_reducible refine Fo.ck (fun _ => ?_)
    | with_reducible refine Fo.ite ?_ ?_
    | with_reducible refine Fo.rd (fun _ => ?_)
    | with_reducible refine Fo.oe ?_ (fun _ => ?_)
    | with_reducible refine Fo.se (fun _ => ?_) (fun _ => ?_)
set_option maxHeartbeats 4000000 in
theorem fo_SX12_filled_75 {P : Nat → Nat → Prop} {t : St} (w1 : Int32) (w2 : Int32) (w4 : Int32) (w5 : Int32) (w6 : Int32) (w7 : Int32) (c : Int32 × Int32) : Fo P t (SX12_filled_75 w1 w2 w4 w5 w6 w7 c t) := by
  unfold SX12_filled_75
  repeat' first
    | with_reducible exact Fo.ret
    | with_reducible exact Fo.no
    | with_reducible exact fo_FX12_points _
    | with_reducible exact fo_FX12_has _ _
    | with_reducible exact fo_FX12_neighbours _ _ _
    | with_reducible refine Fo.bd ?_ (fun _ _ => ?_)
    | with_reducible refine Fo.ck (fun _ => ?_)
    | with_reducible refine Fo.ite ?_ ?_
    | with_reducible refine Fo.rd (fun _ => ?_)
    | with_reducible refine Fo.oe ?_ (fun _ => ?_)
    | with_reducible refine Fo.se (fun _ => ?_) (fun _ => ?_)
set_option maxHeartbeats 4000000 in
theorem fo_SX12_filled_59 {P : Nat → Nat → Prop} {t : St} (w1 : Int32) (w2 : Int32) (w4 : Int32) (w5 : Int32) (w6 : Int32) (c : Int32 × Int32) : Fo P t (SX12_filled_59 w1 w2 w4 w5 w6 c t) := by
  unfold SX12_filled_59
  repeat' first
    | with_reducible exact Fo.ret
    | with_reducible exact Fo.no
    | with_reducible exact fo_FX12_points _
    | with_reducible refine Fo.wh (fun cc ss => fo_SX12_filled_75 _ _ _ _ _ _ cc)
    | with_reducible refine Fo.bd ?_ (fun _ _ => ?_)
    | with_reducible refine Fo.ck (fun _ => ?_)
    | with_reducible refine Fo.ite ?_ ?_
    | with_reducible refine Fo.rd (fun _ => ?_)
    | with_reducible refine Fo.oe ?_ (fun _ => ?_)
    | with_reducible refine Fo.se (fun _ => ?_) (fun _ => ?_)
set_option maxHeartbeats 4000000 in
theorem fo_SX12_filled_21 {P : Nat → Nat → Prop} {t : St} (w1 : Int32) (w2 : Int32) (c : Int32 × Int32) : Fo P t (SX12_filled_21 w1 w2 c t) := by
  unfold SX12_filled_21
  repeat' first
    | with_reducible exact Fo.ret
    | with_reducible exact Fo.no
    | with_reducible exact fo_FX12_points _
    | with_reducible exact fo_FX12_aheadOf _ _
    | with_reducible exact fo_FX12_at _ _
    | with_reducible exact fo_FX12_neighbours _ _ _
    | with_reducible refine Fo.wh (fun cc ss => fo_SX12_filled_59 _ _ _ _ _ cc)
    | with_reducible refine Fo.bd ?_ (fun _ _ => ?_)
    | with_reducible refine Fo.ck (fun _ => ?_)
    | with_reducible refine Fo.ite ?_ ?_
    | with_reducible refine Fo.rd (fun _ => ?_)
    | with_reducible refine Fo.oe ?_ (fun _ => ?_)
    | with_reducible refine Fo.se (fun _ => ?_) (fun _ => ?_)
set_option maxHeartbeats 4000000 in
theorem fo_FX12_filled {P : Nat → Nat → Prop} {t : St} (a : Int32) (b : Int32) : Fo P t (FX12_filled a b t) := by
  unfold FX12_filled
  repeat' first
    | with_reducible exact Fo.ret
    | with_reducible exact Fo.no
    | with_reducible exact fo_FX12_isNet _
    | with_reducible refine Fo.wh (fun cc ss => fo_SX12_filled_21 _ _ cc)
    | with_reducible refine Fo.bd ?_ (fun _ _ => ?_)
    | with_reducible refine Fo.ck (fun _ => ?_)
    | with_reducible refine Fo.ite ?_ ?_
    | with_reducible refine Fo.rd (fun _ => ?_)
    | with_reducible refine Fo.oe ?_ (fun _ => ?_)
    | with_reducible refine Fo.se (fun _ => ?_) (fun _ => ?_)
set_option maxHeartbeats 4000000 in
theorem fo_SX12_firsts_51 {P : Nat → Nat → Prop} {t : St} (w1 : Int32) (w2 : Int32) (c : Int32 × Int32) : Fo P t (SX12_firsts_51 w1 w2 c t) := by
  unfold SX12_firsts_51
  repeat' first
    | with_reducible exact Fo.ret
    | with_reducible exact Fo.no
    | with_reducible exact fo_FX12_points _
    | with_reducible exact fo_FX12_keepsLeast _ _ _ _
    | with_reducible refine Fo.bd ?_ (fun _ _ => ?_)
    | with_reducible refine Fo.ck (fun _ => ?_)
    | with_reducible refine Fo.ite ?_ ?_
    | with_reducible refine Fo.rd (fun _ => ?_)
    | with_reducible refine Fo.oe ?_ (fun _ => ?_)
    | with_reducible refine Fo.se (fun _ => ?_) (fun _ => ?_)
set_option maxHeartbeats 4000000 in
theorem fo_FX12_firsts {P : Nat → Nat → Prop} {t : St} (a : Int32) (b : Int32) (hP : ∀ c i, P c i → c ≠ 154 ∧ c ≠ 155 ∧ c ≠ 157 ∧ c ≠ 158 ∧ (c = 149 → i ≠ 17) ∧ (c = 149 → i ≠ 18) ∧ (c = 149 → i ≠ 19)) : Fo P t (FX12_firsts a b t) := by
  unfold FX12_firsts
  repeat' first
    | with_reducible exact Fo.ret
    | with_reducible exact Fo.no
    | with_reducible exact fo_FX12_isNet _
    | with_reducible exact fo_FX12_isMeasure _
    | with_reducible exact fo_FX12_leastBand _ (fun c i h => by have hh := hP c i h; first | exact hh | (obtain ⟨g0, g1, g2, g3, g4, g5, g6⟩ := hh; and_intros <;> first | assumption | (intro e; exact absurd e (by assumption))) | omega | (have := net_q (by assumption); omega) | (have := net_q (x := el 10 _) (by assumption); omega) | (have := find_q (by assumption); omega) | (have := finds_q (by assumption); omega))
    | with_reducible exact fo_FX12_rowsOfBand _ _ _ (fun c i h => by have hh := hP c i h; first | exact hh | (obtain ⟨g0, g1, g2, g3, g4, g5, g6⟩ := hh; and_intros <;> first | assumption | (intro e; exact absurd e (by assumption))) | omega | (have := net_q (by assumption); omega) | (have := net_q (x := el 10 _) (by assumption); omega) | (have := find_q (by assumption); omega) | (have := finds_q (by assumption); omega))
    | with_reducible exact fo_FX12_laysLeast _ _ (fun c i h => by have hh := hP c i h; first | exact hh | (obtain ⟨g0, g1, g2, g3, g4, g5, g6⟩ := hh; and_intros <;> first | assumption | (intro e; exact absurd e (by assumption))) | omega | (have := net_q (by assumption); omega) | (have := net_q (x := el 10 _) (by assumption); omega) | (have := find_q (by assumption); omega) | (have := finds_q (by assumption); omega))
    | with_reducible refine Fo.wh (fun cc ss => fo_SX12_firsts_51 _ _ cc)
    | with_reducible refine Fo.bd ?_ (fun _ _ => ?_)
    | with_reducible refine Fo.ck (fun _ => ?_)
    | with_reducible refine Fo.ite ?_ ?_
    | with_reducible refine Fo.rd (fun _ => ?_)
    | with_reducible refine Fo.wr (fun c i h => by have hh := hP c i h; first | exact hh | (obtain ⟨g0, g1, g2, g3, g4, g5, g6⟩ := hh; and_intros <;> first | assumption | (intro e; exact absurd e (by assumption))) | omega | (have := net_q (by assumption); omega) | (have := net_q (x := el 10 _) (by assumption); omega) | (have := find_q (by assumption); omega) | (have := finds_q (by assumption); omega)) (fun _ => ?_)
    | with_reducible refine Fo.cp (fun c i h => by have hh := hP c i h; first | exact hh | (obtain ⟨g0, g1, g2, g3, g4, g5, g6⟩ := hh; and_intros <;> first | assumption | (intro e; exact absurd e (by assumption))) | omega | (have := net_q (by assumption); omega) | (have := net_q (x := el 10 _) (by assumption); omega)) (fun _ => ?_)
    | with_reducible refine Fo.oe ?_ (fun _ => ?_)
    | with_reducible refine Fo.se (fun _ => ?_) (fun _ => ?_)
set_option maxHeartbeats 4000000 in
theorem fo_SX12_laysRow_2 {P : Nat → Nat → Prop} {t : St} (w1 : Int32) (c : Int32) (hP : ∀ c i, P c i → c ≠ 154) : Fo P t (SX12_laysRow_2 w1 c t) := by
  unfold SX12_laysRow_2
  repeat' first
    | with_reducible exact Fo.ret
    | with_reducible exact Fo.no
    | with_reducible exact fo_FX12_points _
    | with_reducible exact fo_FX12_at _ _
    | with_reducible refine Fo.bd ?_ (fun _ _ => ?_)
    | with_reducible refine Fo.ck (fun _ => ?_)
    | with_reducible refine Fo.ite ?_ ?_
    | with_reducible refine Fo.rd (fun _ => ?_)
    | with_reducible refine Fo.wr (fun c i h => by have hh := hP c i h; first | exact hh | (intro e; exact absurd e hh) | omega | (have := net_q (by assumption); omega) | (have := net_q (x := el 10 _) (by assumption); omega) | (have := find_q (by assumption); omega) | (have := finds_q (by assumption); omega)) (fun _ => ?_)
    | with_reducible refine Fo.cp (fun c i h => by have hh := hP c i h; first | exact hh | (intro e; exact absurd e hh) | omega | (have := net_q (by assumption); omega) | (have := net_q (x := el 10 _) (by assumption); omega)) (fun _ => ?_)
    | with_reducible refine Fo.oe ?_ (fun _ => ?_)
    | with_reducible refine Fo.se (fun _ => ?_) (fun _ => ?_)
set_option maxHeartbeats 4000000 in
theorem fo_FX12_laysRow {P : Nat → Nat → Prop} {t : St} (a : Int32) (hP : ∀ c i, P c i → c ≠ 154) : Fo P t (FX12_laysRow a t) := by
  unfold FX12_laysRow
  repeat' first
    | with_reducible exact Fo.ret
    | with_reducible exact Fo.no
    | with_reducible refine Fo.wh (fun cc ss => fo_SX12_laysRow_2 _ cc (fun c i h => by have hh := hP c i h; first | exact hh | (intro e; exact absurd e hh) | omega | (have := net_q (by assumption); omega) | (have := net_q (x := el 10 _) (by assumption); omega) | (have := find_q (by assumption); omega) | (have := finds_q (by assumption); omega)))
    | with_reducible refine Fo.bd ?_ (fun _ _ => ?_)
    | with_reducible refine Fo.ck (fun _ => ?_)
    | with_reducible refine Fo.ite ?_ ?_
    | with_reducible refine Fo.rd (fun _ => ?_)
    | with_reducible refine Fo.wr (fun c i h => by have hh := hP c i h; first | exact hh | (intro e; exact absurd e hh) | omega | (have := net_q (by assumption); omega) | (have := net_q (x := el 10 _) (by assumption); omega) | (have := find_q (by assumption); omega) | (have := finds_q (by assumption); omega)) (fun _ => ?_)
    | with_reducible refine Fo.cp (fun c i h => by have hh := hP c i h; first | exact hh | (intro e; exact absurd e hh) | omega | (have := net_q (by assumption); omega) | (have := net_q (x := el 10 _) (by assumption); omega)) (fun _ => ?_)
    | with_reducible refine Fo.oe ?_ (fun _ => ?_)
    | with_reducible refine Fo.se (fun _ => ?_) (fun _ => ?_)
set_option maxHeartbeats 4000000 in
theorem fo_SX12_valueOf_19 {P : Nat → Nat → Prop} {t : St} (w1 : Int32) (w2 : Int32) (c : Int32 × Int32 × Int32) : Fo P t (SX12_valueOf_19 w1 w2 c t) := by
  unfold SX12_valueOf_19
  repeat' first
    | with_reducible exact Fo.ret
    | with_reducible exact Fo.no
    | with_reducible exact fo_FX12_points _
    | with_reducible exact fo_FX12_cost _ _ _ _
    | with_reducible exact fo_FX12_both _ _ _
    | with_reducible refine Fo.bd ?_ (fun _ _ => ?_)
    | with_reducible refine Fo.ck (fun _ => ?_)
    | with_reducible refine Fo.ite ?_ ?_
    | with_reducible refine Fo.rd (fun _ => ?_)
    | with_reducible refine Fo.oe ?_ (fun _ => ?_)
    | with_reducible refine Fo.se (fun _ => ?_) (fun _ => ?_)
set_option maxHeartbeats 4000000 in
theorem fo_FX12_valueOf {P : Nat → Nat → Prop} {t : St} (a : Int32) (b : Int32) : Fo P t (FX12_valueOf a b t) := by
  unfold FX12_valueOf
  repeat' first
    | with_reducible exact Fo.ret
    | with_reducible exact Fo.no
    | with_reducible exact fo_FX12_bandOf _
    | with_reducible refine Fo.wh (fun cc ss => fo_SX12_valueOf_19 _ _ cc)
    | with_reducible refine Fo.bd ?_ (fun _ _ => ?_)
    | with_reducible refine Fo.ck (fun _ => ?_)
    | with_reducible refine Fo.ite ?_ ?_
    | with_reducible refine Fo.rd (fun _ => ?_)
    | with_reducible refine Fo.oe ?_ (fun _ => ?_)
    | with_reducible refine Fo.se (fun _ => ?_) (fun _ => ?_)
set_option maxHeartbeats 4000000 in
theorem fo_FX12_gain {P : Nat → Nat → Prop} {t : St} (a : Int32) (b : Int32) (c : Int32) (d : Int32) (hP : ∀ c i, P c i → c ≠ 154) : Fo P t (FX12_gain a b c d t) := by
  unfold FX12_gain
  repeat' first
    | with_reducible exact Fo.ret
    | with_reducible exact Fo.no
    | with_reducible exact fo_FX12_isPoint _ _
    | with_reducible exact fo_FX12_isMeasure _
    | with_reducible exact fo_FX12_laysRow _ (fun c i h => by have hh := hP c i h; first | exact hh | (intro e; exact absurd e hh) | omega | (have := net_q (by assumption); omega) | (have := net_q (x := el 10 _) (by assumption); omega) | (have := find_q (by assumption); omega) | (have := finds_q (by assumption); omega))
    | with_reducible exact fo_FX12_valueOf _ _
    | with_reducible exact fo_FX12_exchanges _ _ (fun c i h => by have hh := hP c i h; first | exact hh | (intro e; exact absurd e hh) | omega | (have := net_q (by assumption); omega) | (have := net_q (x := el 10 _) (by assumption); omega) | (have := find_q (by assumption); omega) | (have := finds_q (by assumption); omega))
    | with_reducible refine Fo.bd ?_ (fun _ _ => ?_)
    | with_reducible refine Fo.ck (fun _ => ?_)
    | with_reducible refine Fo.ite ?_ ?_
    | with_reducible refine Fo.rd (fun _ => ?_)
    | with_reducible refine Fo.wr (fun c i h => by have hh := hP c i h; first | exact hh | (intro e; exact absurd e hh) | omega | (have := net_q (by assumption); omega) | (have := net_q (x := el 10 _) (by assumption); omega) | (have := find_q (by assumption); omega) | (have := finds_q (by assumption); omega)) (fun _ => ?_)
    | with_reducible refine Fo.cp (fun c i h => by have hh := hP c i h; first | exact hh | (intro e; exact absurd e hh) | omega | (have := net_q (by assumption); omega) | (have := net_q (x := el 10 _) (by assumption); omega)) (fun _ => ?_)
    | with_reducible refine Fo.oe ?_ (fun _ => ?_)
    | with_reducible refine Fo.se (fun _ => ?_) (fun _ => ?_)
set_option maxHeartbeats 4000000 in
theorem fo_FX12_puts {P : Nat → Nat → Prop} {t : St} (a : Int32) (b : Int32) (c : Int32) (hP : ∀ c i, P c i → c ≠ 150) : Fo P t (FX12_puts a b c t) := by
  unfold FX12_puts
  repeat' first
    | with_reducible exact Fo.ret
    | with_reducible exact Fo.no
    | with_reducible refine Fo.bd ?_ (fun _ _ => ?_)
    | with_reducible refine Fo.ck (fun _ => ?_)
    | with_reducible refine Fo.ite ?_ ?_
    | with_reducible refine Fo.rd (fun _ => ?_)
    | with_reducible refine Fo.wr (fun c i h => by have hh := hP c i h; first | exact hh | (intro e; exact absurd e hh) | omega | (have := net_q (by assumption); omega) | (have := net_q (x := el 10 _) (by assumption); omega) | (have := find_q (by assumption); omega) | (have := finds_q (by assumption); omega)) (fun _ => ?_)
    | with_reducible refine Fo.cp (fun c i h => by have hh := hP c i h; first | exact hh | (intro e; exact absurd e hh) | omega | (have := net_q (by assumption); omega) | (have := net_q (x := el 10 _) (by assumption); omega)) (fun _ => ?_)
    | with_reducible refine Fo.oe ?_ (fun _ => ?_)
    | with_reducible refine Fo.se (fun _ => ?_) (fun _ => ?_)
set_option maxHeartbeats 4000000 in
theorem fo_SX12_takesRow_4 {P : Nat → Nat → Prop} {t : St} (w1 : Int32) (c : Int32 × Int32) : Fo P t (SX12_takesRow_4 w1 c t) := by
  unfold SX12_takesRow_4
  repeat' first
    | with_reducible exact Fo.ret
    | with_reducible exact Fo.no
    | with_reducible exact fo_FX12_points _
    | with_reducible exact fo_FX12_at _ _
    | with_reducible refine Fo.bd ?_ (fun _ _ => ?_)
    | with_reducible refine Fo.ck (fun _ => ?_)
    | with_reducible refine Fo.ite ?_ ?_
    | with_reducible refine Fo.rd (fun _ => ?_)
    | with_reducible refine Fo.oe ?_ (fun _ => ?_)
    | with_reducible refine Fo.se (fun _ => ?_) (fun _ => ?_)
set_option maxHeartbeats 4000000 in
theorem fo_SX12_takesRow_48 {P : Nat → Nat → Prop} {t : St} (w1 : Int32) (w2 : Int32) (c : Int32) (hP : ∀ c i, P c i → c ≠ 150) : Fo P t (SX12_takesRow_48 w1 w2 c t) := by
  unfold SX12_takesRow_48
  repeat' first
    | with_reducible exact Fo.ret
    | with_reducible exact Fo.no
    | with_reducible exact fo_FX12_points _
    | with_reducible exact fo_FX12_puts _ _ _ (fun c i h => by have hh := hP c i h; first | exact hh | (intro e; exact absurd e hh) | omega | (have := net_q (by assumption); omega) | (have := net_q (x := el 10 _) (by assumption); omega) | (have := find_q (by assumption); omega) | (have := finds_q (by assumption); omega))
    | with_reducible refine Fo.bd ?_ (fun _ _ => ?_)
    | with_reducible refine Fo.ck (fun _ => ?_)
    | with_reducible refine Fo.ite ?_ ?_
    | with_reducible refine Fo.rd (fun _ => ?_)
    | with_reducible refine Fo.wr (fun c i h => by have hh := hP c i h; first | exact hh | (intro e; exact absurd e hh) | omega | (have := net_q (by assumption); omega) | (have := net_q (x := el 10 _) (by assumption); omega) | (have := find_q (by assumption); omega) | (have := finds_q (by assumption); omega)) (fun _ => ?_)
    | with_reducible refine Fo.cp (fun c i h => by have hh := hP c i h; first | exact hh | (intro e; exact absurd e hh) | omega | (have := net_q (by assumption); omega) | (have := net_q (x := el 10 _) (by assumption); omega)) (fun _ => ?_)
    | with_reducible refine Fo.oe ?_ (fun _ => ?_)
    | with_reducible refine Fo.se (fun _ => ?_) (fun _ => ?_)
set_option maxHeartbeats 4000000 in
theorem fo_FX12_takesRow {P : Nat → Nat → Prop} {t : St} (a : Int32) (hP : ∀ c i, P c i → c ≠ 150 ∧ c ≠ 151 ∧ c ≠ 152 ∧ (c = 149 → i ≠ 3)) : Fo P t (FX12_takesRow a t) := by
  unfold FX12_takesRow
  repeat' first
    | with_reducible exact Fo.ret
    | with_reducible exact Fo.no
    | with_reducible refine Fo.wh (fun cc ss => fo_SX12_takesRow_4 _ cc)
    | with_reducible exact fo_FX12_remembers (fun c i h => by have hh := hP c i h; first | exact hh | (obtain ⟨g0, g1, g2, g3⟩ := hh; and_intros <;> first | assumption | (intro e; exact absurd e (by assumption))) | omega | (have := net_q (by assumption); omega) | (have := net_q (x := el 10 _) (by assumption); omega) | (have := find_q (by assumption); omega) | (have := finds_q (by assumption); omega))
    | with_reducible refine Fo.wh (fun cc ss => fo_SX12_takesRow_48 _ _ cc (fun c i h => by have hh := hP c i h; first | exact hh | (obtain ⟨g0, g1, g2, g3⟩ := hh; and_intros <;> first | assumption | (intro e; exact absurd e (by assumption))) | omega | (have := net_q (by assumption); omega) | (have := net_q (x := el 10 _) (by assumption); omega) | (have := find_q (by assumption); omega) | (have := finds_q (by assumption); omega)))
    | with_reducible exact fo_FX12_done _ (fun c i h => by have hh := hP c i h; first | exact hh | (obtain ⟨g0, g1, g2, g3⟩ := hh; and_intros <;> first | assumption | (intro e; exact absurd e (by assumption))) | omega | (have := net_q (by assumption); omega) | (have := net_q (x := el 10 _) (by assumption); omega) | (have := find_q (by assumption); omega) | (have := finds_q (by assumption); omega))
    | with_reducible refine Fo.bd ?_ (fun _ _ => ?_)
    | with_reducible refine Fo.ck (fun _ => ?_)
    | with_reducible refine Fo.ite ?_ ?_
    | with_reducible refine Fo.rd (fun _ => ?_)
    | with_reducible refine Fo.wr (fun c i h => by have hh := hP c i h; first | exact hh | (obtain ⟨g0, g1, g2, g3⟩ := hh; and_intros <;> first | assumption | (intro e; exact absurd e (by assumption))) | omega | (have := net_q (by assumption); omega) | (have := net_q (x := el 10 _) (by assumption); omega) | (have := find_q (by assumption); omega) | (have := finds_q (by assumption); omega)) (fun _ => ?_)
    | with_reducible refine Fo.cp (fun c i h => by have hh := hP c i h; first | exact hh | (obtain ⟨g0, g1, g2, g3⟩ := hh; and_intros <;> first | assumption | (intro e; exact absurd e (by assumption))) | omega | (have := net_q (by assumption); omega) | (have := net_q (x := el 10 _) (by assumption); omega)) (fun _ => ?_)
    | with_reducible refine Fo.oe ?_ (fun _ => ?_)
    | with_reducible refine Fo.se (fun _ => ?_) (fun _ => ?_)
set_option maxHeartbeats 4000000 in
theorem fo_SX12_greedy_44 {P : Nat → Nat → Prop} {t : St} (w1 : Int32) (w2 : Int32) (w3 : Int32) (w4 : Int32) (c : Int32 × Int32) : Fo P t (SX12_greedy_44 w1 w2 w3 w4 c t) := by
  unfold SX12_greedy_44
  repeat' first
    | with_reducible exact Fo.ret
    | with_reducible exact Fo.no
    | with_reducible exact fo_FX12_points _
    | with_reducible exact fo_FX12_has _ _
    | with_reducible exact fo_FX12_cost _ _ _ _
    | with_reducible refine Fo.bd ?_ (fun _ _ => ?_)
    | with_reducible refine Fo.ck (fun _ => ?_)
    | with_reducible refine Fo.ite ?_ ?_
    | with_reducible refine Fo.rd (fun _ => ?_)
    | with_reducible refine Fo.oe ?_ (fun _ => ?_)
    | with_reducible refine Fo.se (fun _ => ?_) (fun _ => ?_)
set_option maxHeartbeats 4000000 in
theorem fo_SX12_greedy_28 {P : Nat → Nat → Prop} {t : St} (w1 : Int32) (w2 : Int32) (c : Int32 × Int32) (hP : ∀ c i, P c i → c ≠ 154) : Fo P t (SX12_greedy_28 w1 w2 c t) := by
  unfold SX12_greedy_28
  repeat' first
    | with_reducible exact Fo.ret
    | with_reducible exact Fo.no
    | with_reducible exact fo_FX12_points _
    | with_reducible refine Fo.wh (fun cc ss => fo_SX12_greedy_44 _ _ _ _ cc)
    | with_reducible refine Fo.bd ?_ (fun _ _ => ?_)
    | with_reducible refine Fo.ck (fun _ => ?_)
    | with_reducible refine Fo.ite ?_ ?_
    | with_reducible refine Fo.rd (fun _ => ?_)
    | with_reducible refine Fo.wr (fun c i h => by have hh := hP c i h; first | exact hh | (intro e; exact absurd e hh) | omega | (have := net_q (by assumption); omega) | (have := net_q (x := el 10 _) (by assumption); omega) | (have := find_q (by assumption); omega) | (have := finds_q (by assumption); omega)) (fun _ => ?_)
    | with_reducible refine Fo.cp (fun c i h => by have hh := hP c i h; first | exact hh | (intro e; exact absurd e hh) | omega | (have := net_q (by assumption); omega) | (have := net_q (x := el 10 _) (by assumption); omega)) (fun _ => ?_)
    | with_reducible refine Fo.oe ?_ (fun _ => ?_)
    | with_reducible refine Fo.se (fun _ => ?_) (fun _ => ?_)
set_option maxHeartbeats 4000000 in
theorem fo_FX12_greedy {P : Nat → Nat → Prop} {t : St} (a : Int32) (b : Int32) (hP : ∀ c i, P c i → c ≠ 150 ∧ c ≠ 151 ∧ c ≠ 152 ∧ c ≠ 154 ∧ (c = 149 → i ≠ 3)) : Fo P t (FX12_greedy a b t) := by
  unfold FX12_greedy
  repeat' first
    | with_reducible exact Fo.ret
    | with_reducible exact Fo.no
    | with_reducible exact fo_FX12_isNet _
    | with_reducible exact fo_FX12_isMeasure _
    | with_reducible refine Fo.wh (fun cc ss => fo_SX12_greedy_28 _ _ cc (fun c i h => by have hh := hP c i h; first | exact hh | (obtain ⟨g0, g1, g2, g3, g4⟩ := hh; and_intros <;> first | assumption | (intro e; exact absurd e (by assumption))) | omega | (have := net_q (by assumption); omega) | (have := net_q (x := el 10 _) (by assumption); omega) | (have := find_q (by assumption); omega) | (have := finds_q (by assumption); omega)))
    | with_reducible exact fo_FX12_takesRow _ (fun c i h => by have hh := hP c i h; first | exact hh | (obtain ⟨g0, g1, g2, g3, g4⟩ := hh; and_intros <;> first | assumption | (intro e; exact absurd e (by assumption))) | omega | (have := net_q (by assumption); omega) | (have := net_q (x := el 10 _) (by assumption); omega) | (have := find_q (by assumption); omega) | (have := finds_q (by assumption); omega))
    | with_reducible exact fo_FX12_valueOf _ _
    | with_reducible refine Fo.bd ?_ (fun _ _ => ?_)
    | with_reducible refine Fo.ck (fun _ => ?_)
    | with_reducible refine Fo.ite ?_ ?_
    | with_reducible refine Fo.rd (fun _ => ?_)
    | with_reducible refine Fo.wr (fun c i h => by have hh := hP c i h; first | exact hh | (obtain ⟨g0, g1, g2, g3, g4⟩ := hh; and_intros <;> first | assumption | (intro e; exact absurd e (by assumption))) | omega | (have := net_q (by assumption); omega) | (have := net_q (x := el 10 _) (by assumption); omega) | (have := find_q (by assumption); omega) | (have := finds_q (by assumption); omega)) (fun _ => ?_)
    | with_reducible refine Fo.cp (fun c i h => by have hh := hP c i h; first | exact hh | (obtain ⟨g0, g1, g2, g3, g4⟩ := hh; and_intros <;> first | assumption | (intro e; exact absurd e (by assumption))) | omega | (have := net_q (by assumption); omega) | (have := net_q (x := el 10 _) (by assumption); omega)) (fun _ => ?_)
    | with_reducible refine Fo.oe ?_ (fun _ => ?_)
    | with_reducible refine Fo.se (fun _ => ?_) (fun _ => ?_)
set_option maxHeartbeats 4000000 in
theorem fo_SX12_halve_15 {P : Nat → Nat → Prop} {t : St} (w1 : Int32) (c : Int32 × Int32) : Fo P t (SX12_halve_15 w1 c t) := by
  unfold SX12_halve_15
  repeat' first
    | with_reducible exact Fo.ret
    | with_reducible exact Fo.no
    | with_reducible exact fo_FX12_points _
    | with_reducible exact fo_FX12_ones _
    | with_reducible exact fo_FX12_splitOf _ _ _
    | with_reducible refine Fo.bd ?_ (fun _ _ => ?_)
    | with_reducible refine Fo.ck (fun _ => ?_)
    | with_reducible refine Fo.ite ?_ ?_
    | with_reducible refine Fo.rd (fun _ => ?_)
    | with_reducible refine Fo.oe ?_ (fun _ => ?_)
    | with_reducible refine Fo.se (fun _ => ?_) (fun _ => ?_)
set_option maxHeartbeats 4000000 in
theorem fo_FX12_halve {P : Nat → Nat → Prop} {t : St} (a : Int32) : Fo P t (FX12_halve a t) := by
  unfold FX12_halve
  repeat' first
    | with_reducible exact Fo.ret
    | with_reducible exact Fo.no
    | with_reducible exact fo_FX12_isNet _
    | with_reducible refine Fo.wh (fun cc ss => fo_SX12_halve_15 _ cc)
    | with_reducible refine Fo.bd ?_ (fun _ _ => ?_)
    | with_reducible refine Fo.ck (fun _ => ?_)
    | with_reducible refine Fo.ite ?_ ?_
    | with_reducible refine Fo.rd (fun _ => ?_)
    | with_reducible refine Fo.oe ?_ (fun _ => ?_)
    | with_reducible refine Fo.se (fun _ => ?_) (fun _ => ?_)
set_option maxHeartbeats 4000000 in
theorem fo_FX12_isTakenOut {P : Nat → Nat → Prop} {t : St} (a : Int32) : Fo P t (FX12_isTakenOut a t) := by
  unfold FX12_isTakenOut
  repeat' first
    | with_reducible exact Fo.ret
    | with_reducible exact Fo.no
    | with_reducible refine Fo.bd ?_ (fun _ _ => ?_)
    | with_reducible refine Fo.ck (fun _ => ?_)
    | with_reducible refine Fo.ite ?_ ?_
    | with_reducible refine Fo.rd (fun _ => ?_)
    | with_reducible refine Fo.oe ?_ (fun _ => ?_)
    | with_reducible refine Fo.se (fun _ => ?_) (fun _ => ?_)
set_option maxHeartbeats 4000000 in
theorem fo_SX12_layers_27 {P : Nat → Nat → Prop} {t : St} (w1 : Int32) (w2 : Int32) (w4 : Int32) (c : Int32 × Int32) (hP : ∀ c i, P c i → c ≠ 154) : Fo P t (SX12_layers_27 w1 w2 w4 c t) := by
  unfold SX12_layers_27
  repeat' first
    | with_reducible exact Fo.ret
    | with_reducible exact Fo.no
    | with_reducible exact fo_FX12_points _
    | with_reducible exact fo_FX12_farOf _ _ _
    | with_reducible refine Fo.bd ?_ (fun _ _ => ?_)
    | with_reducible refine Fo.ck (fun _ => ?_)
    | with_reducible refine Fo.ite ?_ ?_
    | with_reducible refine Fo.rd (fun _ => ?_)
    | with_reducible refine Fo.wr (fun c i h => by have hh := hP c i h; first | exact hh | (intro e; exact absurd e hh) | omega | (have := net_q (by assumption); omega) | (have := net_q (x := el 10 _) (by assumption); omega) | (have := find_q (by assumption); omega) | (have := finds_q (by assumption); omega)) (fun _ => ?_)
    | with_reducible refine Fo.cp (fun c i h => by have hh := hP c i h; first | exact hh | (intro e; exact absurd e hh) | omega | (have := net_q (by assumption); omega) | (have := net_q (x := el 10 _) (by assumption); omega)) (fun _ => ?_)
    | with_reducible refine Fo.oe ?_ (fun _ => ?_)
    | with_reducible refine Fo.se (fun _ => ?_) (fun _ => ?_)
set_option maxHeartbeats 4000000 in
theorem fo_SX12_layers_17 {P : Nat → Nat → Prop} {t : St} (w1 : Int32) (w2 : Int32) (c : Int32 × Int32) (hP : ∀ c i, P c i → c ≠ 154) : Fo P t (SX12_layers_17 w1 w2 c t) := by
  unfold SX12_layers_17
  repeat' first
    | with_reducible exact Fo.ret
    | with_reducible exact Fo.no
    | with_reducible refine Fo.wh (fun cc ss => fo_SX12_layers_27 _ _ _ cc (fun c i h => by have hh := hP c i h; first | exact hh | (intro e; exact absurd e hh) | omega | (have := net_q (by assumption); omega) | (have := net_q (x := el 10 _) (by assumption); omega) | (have := find_q (by assumption); omega) | (have := finds_q (by assumption); omega)))
    | with_reducible refine Fo.bd ?_ (fun _ _ => ?_)
    | with_reducible refine Fo.ck (fun _ => ?_)
    | with_reducible refine Fo.ite ?_ ?_
    | with_reducible refine Fo.rd (fun _ => ?_)
    | with_reducible refine Fo.wr (fun c i h => by have hh := hP c i h; first | exact hh | (intro e; exact absurd e hh) | omega | (have := net_q (by assumption); omega) | (have := net_q (x := el 10 _) (by assumption); omega) | (have := find_q (by assumption); omega) | (have := finds_q (by assumption); omega)) (fun _ => ?_)
    | with_reducible refine Fo.cp (fun c i h => by have hh := hP c i h; first | exact hh | (intro e; exact absurd e hh) | omega | (have := net_q (by assumption); omega) | (have := net_q (x := el 10 _) (by assumption); omega)) (fun _ => ?_)
    | with_reducible refine Fo.oe ?_ (fun _ => ?_)
    | with_reducible refine Fo.se (fun _ => ?_) (fun _ => ?_)
set_option maxHeartbeats 4000000 in
theorem fo_FX12_layers {P : Nat → Nat → Prop} {t : St} (a : Int32) (b : Int32) (hP : ∀ c i, P c i → c ≠ 150 ∧ c ≠ 151 ∧ c ≠ 152 ∧ c ≠ 154 ∧ (c = 149 → i ≠ 3)) : Fo P t (FX12_layers a b t) := by
  unfold FX12_layers
  repeat' first
    | with_reducible exact Fo.ret
    | with_reducible exact Fo.no
    | with_reducible exact fo_FX12_isPoint _ _
    | with_reducible refine Fo.wh (fun cc ss => fo_SX12_layers_17 _ _ cc (fun c i h => by have hh := hP c i h; first | exact hh | (obtain ⟨g0, g1, g2, g3, g4⟩ := hh; and_intros <;> first | assumption | (intro e; exact absurd e (by assumption))) | omega | (have := net_q (by assumption); omega) | (have := net_q (x := el 10 _) (by assumption); omega) | (have := find_q (by assumption); omega) | (have := finds_q (by assumption); omega)))
    | with_reducible exact fo_FX12_takesRow _ (fun c i h => by have hh := hP c i h; first | exact hh | (obtain ⟨g0, g1, g2, g3, g4⟩ := hh; and_intros <;> first | assumption | (intro e; exact absurd e (by assumption))) | omega | (have := net_q (by assumption); omega) | (have := net_q (x := el 10 _) (by assumption); omega) | (have := find_q (by assumption); omega) | (have := finds_q (by assumption); omega))
    | with_reducible refine Fo.bd ?_ (fun _ _ => ?_)
    | with_reducible refine Fo.ck (fun _ => ?_)
    | with_reducible refine Fo.ite ?_ ?_
    | with_reducible refine Fo.rd (fun _ => ?_)
    | with_reducible refine Fo.wr (fun c i h => by have hh := hP c i h; first | exact hh | (obtain ⟨g0, g1, g2, g3, g4⟩ := hh; and_intros <;> first | assumption | (intro e; exact absurd e (by assumption))) | omega | (have := net_q (by assumption); omega) | (have := net_q (x := el 10 _) (by assumption); omega) | (have := find_q (by assumption); omega) | (have := finds_q (by assumption); omega)) (fun _ => ?_)
    | with_reducible refine Fo.cp (fun c i h => by have hh := hP c i h; first | exact hh | (obtain ⟨g0, g1, g2, g3, g4⟩ := hh; and_intros <;> first | assumption | (intro e; exact absurd e (by assumption))) | omega | (have := net_q (by assumption); omega) | (have := net_q (x := el 10 _) (by assumption); omega)) (fun _ => ?_)
    | with_reducible refine Fo.oe ?_ (fun _ => ?_)
    | with_reducible refine Fo.se (fun _ => ?_) (fun _ => ?_)
set_option maxHeartbeats 4000000 in
theorem fo_FX12_least {P : Nat → Nat → Prop} {t : St} (a : Int32) (b : Int32) (hP : ∀ c i, P c i → c ≠ 154 ∧ c ≠ 155 ∧ c ≠ 157 ∧ c ≠ 158 ∧ (c = 149 → i ≠ 17) ∧ (c = 149 → i ≠ 18) ∧ (c = 149 → i ≠ 19)) : Fo P t (FX12_least a b t) := by
  unfold FX12_least
  repeat' first
    | with_reducible exact Fo.ret
    | with_reducible exact Fo.no
    | with_reducible exact fo_FX12_isNet _
    | with_reducible exact fo_FX12_isMeasure _
    | with_reducible exact fo_FX12_leastBand _ (fun c i h => by have hh := hP c i h; first | exact hh | (obtain ⟨g0, g1, g2, g3, g4, g5, g6⟩ := hh; and_intros <;> first | assumption | (intro e; exact absurd e (by assumption))) | omega | (have := net_q (by assumption); omega) | (have := net_q (x := el 10 _) (by assumption); omega) | (have := find_q (by assumption); omega) | (have := finds_q (by assumption); omega))
    | with_reducible exact fo_FX12_laysLeast _ _ (fun c i h => by have hh := hP c i h; first | exact hh | (obtain ⟨g0, g1, g2, g3, g4, g5, g6⟩ := hh; and_intros <;> first | assumption | (intro e; exact absurd e (by assumption))) | omega | (have := net_q (by assumption); omega) | (have := net_q (x := el 10 _) (by assumption); omega) | (have := find_q (by assumption); omega) | (have := finds_q (by assumption); omega))
    | with_reducible refine Fo.bd ?_ (fun _ _ => ?_)
    | with_reducible refine Fo.ck (fun _ => ?_)
    | with_reducible refine Fo.ite ?_ ?_
    | with_reducible refine Fo.rd (fun _ => ?_)
    | with_reducible refine Fo.wr (fun c i h => by have hh := hP c i h; first | exact hh | (obtain ⟨g0, g1, g2, g3, g4, g5, g6⟩ := hh; and_intros <;> first | assumption | (intro e; exact absurd e (by assumption))) | omega | (have := net_q (by assumption); omega) | (have := net_q (x := el 10 _) (by assumption); omega) | (have := find_q (by assumption); omega) | (have := finds_q (by assumption); omega)) (fun _ => ?_)
    | with_reducible refine Fo.cp (fun c i h => by have hh := hP c i h; first | exact hh | (obtain ⟨g0, g1, g2, g3, g4, g5, g6⟩ := hh; and_intros <;> first | assumption | (intro e; exact absurd e (by assumption))) | omega | (have := net_q (by assumption); omega) | (have := net_q (x := el 10 _) (by assumption); omega)) (fun _ => ?_)
    | with_reducible refine Fo.oe ?_ (fun _ => ?_)
    | with_reducible refine Fo.se (fun _ => ?_) (fun _ => ?_)
set_option maxHeartbeats 4000000 in
theorem fo_FX12_line {P : Nat → Nat → Prop} {t : St} (a : Int32) (b : Int32) (c : Int32) : Fo P t (FX12_line a b c t) := by
  unfold FX12_line
  repeat' first
    | with_reducible exact Fo.ret
    | with_reducible exact Fo.no
    | with_reducible exact fo_FX12_isPoint _ _
    | with_reducible exact fo_FX12_weight _ _ _
    | with_reducible refine Fo.bd ?_ (fun _ _ => ?_)
    | with_reducible refine Fo.ck (fun _ => ?_)
    | with_reducible refine Fo.ite ?_ ?_
    | with_reducible refine Fo.rd (fun _ => ?_)
    | with_reducible refine Fo.oe ?_ (fun _ => ?_)
    | with_reducible refine Fo.se (fun _ => ?_) (fun _ => ?_)
set_option maxHeartbeats 4000000 in
theorem fo_SX12_placeOf_2 {P : Nat → Nat → Prop} {t : St} (w1 : Int32) (w2 : Int32) (c : Int32) : Fo P t (SX12_placeOf_2 w1 w2 c t) := by
  unfold SX12_placeOf_2
  repeat' first
    | with_reducible exact Fo.ret
    | with_reducible exact Fo.no
    | with_reducible exact fo_FX12_at _ _
    | with_reducible refine Fo.bd ?_ (fun _ _ => ?_)
    | with_reducible refine Fo.ck (fun _ => ?_)
    | with_reducible refine Fo.ite ?_ ?_
    | with_reducible refine Fo.rd (fun _ => ?_)
    | with_reducible refine Fo.oe ?_ (fun _ => ?_)
    | with_reducible refine Fo.se (fun _ => ?_) (fun _ => ?_)
set_option maxHeartbeats 4000000 in
theorem fo_FX12_placeOf {P : Nat → Nat → Prop} {t : St} (a : Int32) (b : Int32) : Fo P t (FX12_placeOf a b t) := by
  unfold FX12_placeOf
  repeat' first
    | with_reducible exact Fo.ret
    | with_reducible exact Fo.no
    | with_reducible refine Fo.wh (fun cc ss => fo_SX12_placeOf_2 _ _ cc)
    | with_reducible refine Fo.bd ?_ (fun _ _ => ?_)
    | with_reducible refine Fo.ck (fun _ => ?_)
    | with_reducible refine Fo.ite ?_ ?_
    | with_reducible refine Fo.rd (fun _ => ?_)
    | with_reducible refine Fo.oe ?_ (fun _ => ?_)
    | with_reducible refine Fo.se (fun _ => ?_) (fun _ => ?_)
set_option maxHeartbeats 4000000 in
theorem fo_SX12_longest_34 {P : Nat → Nat → Prop} {t : St} (w1 : Int32) (w4 : Int32) (c : Int32 × Int32 × Int32) : Fo P t (SX12_longest_34 w1 w4 c t) := by
  unfold SX12_longest_34
  repeat' first
    | with_reducible exact Fo.ret
    | with_reducible exact Fo.no
    | with_reducible exact fo_FX12_points _
    | with_reducible exact fo_FX12_placeOf _ _
    | with_reducible exact fo_FX12_weight _ _ _
    | with_reducible refine Fo.bd ?_ (fun _ _ => ?_)
    | with_reducible refine Fo.ck (fun _ => ?_)
    | with_reducible refine Fo.ite ?_ ?_
    | with_reducible refine Fo.rd (fun _ => ?_)
    | with_reducible refine Fo.oe ?_ (fun _ => ?_)
    | with_reducible refine Fo.se (fun _ => ?_) (fun _ => ?_)
set_option maxHeartbeats 4000000 in
theorem fo_SX12_longest_18 {P : Nat → Nat → Prop} {t : St} (w1 : Int32) (c : Int32 × Int32 × Int32) : Fo P t (SX12_longest_18 w1 c t) := by
  unfold SX12_longest_18
  repeat' first
    | with_reducible exact Fo.ret
    | with_reducible exact Fo.no
    | with_reducible exact fo_FX12_points _
    | with_reducible refine Fo.wh (fun cc ss => fo_SX12_longest_34 _ _ cc)
    | with_reducible refine Fo.bd ?_ (fun _ _ => ?_)
    | with_reducible refine Fo.ck (fun _ => ?_)
    | with_reducible refine Fo.ite ?_ ?_
    | with_reducible refine Fo.rd (fun _ => ?_)
    | with_reducible refine Fo.oe ?_ (fun _ => ?_)
    | with_reducible refine Fo.se (fun _ => ?_) (fun _ => ?_)
set_option maxHeartbeats 4000000 in
theorem fo_FX12_longest {P : Nat → Nat → Prop} {t : St} (a : Int32) : Fo P t (FX12_longest a t) := by
  unfold FX12_longest
  repeat' first
    | with_reducible exact Fo.ret
    | with_reducible exact Fo.no
    | with_reducible exact fo_FX12_isNet _
    | with_reducible refine Fo.wh (fun cc ss => fo_SX12_longest_18 _ cc)
    | with_reducible refine Fo.bd ?_ (fun _ _ => ?_)
    | with_reducible refine Fo.ck (fun _ => ?_)
    | with_reducible refine Fo.ite ?_ ?_
    | with_reducible refine Fo.rd (fun _ => ?_)
    | with_reducible refine Fo.oe ?_ (fun _ => ?_)
    | with_reducible refine Fo.se (fun _ => ?_) (fun _ => ?_)
set_option maxHeartbeats 4000000 in
theorem fo_SX12_parts_19 {P : Nat → Nat → Prop} {t : St} (w1 : Int32) (w2 : Int32) (w3 : Int32) (c : Int32 × Int32) : Fo P t (SX12_parts_19 w1 w2 w3 c t) := by
  unfold SX12_parts_19
  repeat' first
    | with_reducible exact Fo.ret
    | with_reducible exact Fo.no
    | with_reducible exact fo_FX12_farOf _ _ _
    | with_reducible refine Fo.bd ?_ (fun _ _ => ?_)
    | with_reducible refine Fo.ck (fun _ => ?_)
    | with_reducible refine Fo.ite ?_ ?_
    | with_reducible refine Fo.rd (fun _ => ?_)
    | with_reducible refine Fo.oe ?_ (fun _ => ?_)
    | with_reducible refine Fo.se (fun _ => ?_) (fun _ => ?_)
set_option maxHeartbeats 4000000 in
theorem fo_SX12_parts_4 {P : Nat → Nat → Prop} {t : St} (w1 : Int32) (c : Int32 × Int32) : Fo P t (SX12_parts_4 w1 c t) := by
  unfold SX12_parts_4
  repeat' first
    | with_reducible exact Fo.ret
    | with_reducible exact Fo.no
    | with_reducible exact fo_FX12_points _
    | with_reducible refine Fo.wh (fun cc ss => fo_SX12_parts_19 _ _ _ cc)
    | with_reducible refine Fo.bd ?_ (fun _ _ => ?_)
    | with_reducible refine Fo.ck (fun _ => ?_)
    | with_reducible refine Fo.ite ?_ ?_
    | with_reducible refine Fo.rd (fun _ => ?_)
    | with_reducible refine Fo.oe ?_ (fun _ => ?_)
    | with_reducible refine Fo.se (fun _ => ?_) (fun _ => ?_)
set_option maxHeartbeats 4000000 in
theorem fo_FX12_parts {P : Nat → Nat → Prop} {t : St} (a : Int32) : Fo P t (FX12_parts a t) := by
  unfold FX12_parts
  repeat' first
    | with_reducible exact Fo.ret
    | with_reducible exact Fo.no
    | with_reducible refine Fo.wh (fun cc ss => fo_SX12_parts_4 _ cc)
    | with_reducible refine Fo.bd ?_ (fun _ _ => ?_)
    | with_reducible refine Fo.ck (fun _ => ?_)
    | with_reducible refine Fo.ite ?_ ?_
    | with_reducible refine Fo.rd (fun _ => ?_)
    | with_reducible refine Fo.oe ?_ (fun _ => ?_)
    | with_reducible refine Fo.se (fun _ => ?_) (fun _ => ?_)
set_option maxHeartbeats 4000000 in
theorem fo_SX12_look_28 {P : Nat → Nat → Prop} {t : St} (w1 : Int32) (w2 : Int32) (c : Int32 × Int32) : Fo P t (SX12_look_28 w1 w2 c t) := by
  unfold SX12_look_28
  repeat' first
    | with_reducible exact Fo.ret
    | with_reducible exact Fo.no
    | with_reducible exact fo_FX12_points _
    | with_reducible exact fo_FX12_weightOf _ _
    | with_reducible refine Fo.bd ?_ (fun _ _ => ?_)
    | with_reducible refine Fo.ck (fun _ => ?_)
    | with_reducible refine Fo.ite ?_ ?_
    | with_reducible refine Fo.rd (fun _ => ?_)
    | with_reducible refine Fo.oe ?_ (fun _ => ?_)
    | with_reducible refine Fo.se (fun _ => ?_) (fun _ => ?_)
set_option maxHeartbeats 4000000 in
theorem fo_FX12_look {P : Nat → Nat → Prop} {t : St} (a : Int32) (b : Int32) : Fo P t (FX12_look a b t) := by
  unfold FX12_look
  repeat' first
    | with_reducible exact Fo.ret
    | with_reducible exact Fo.no
    | with_reducible exact fo_FX12_isNet _
    | with_reducible exact fo_FX12_in _ _ _
    | with_reducible refine Fo.wh (fun cc ss => fo_SX12_look_28 _ _ cc)
    | with_reducible exact fo_FX12_points _
    | with_reducible exact fo_FX12_lines _
    | with_reducible exact fo_FX12_degree _
    | with_reducible exact fo_FX12_parts _
    | with_reducible exact fo_FX12_diameter _
    | with_reducible exact fo_FX12_core _
    | with_reducible refine Fo.bd ?_ (fun _ _ => ?_)
    | with_reducible refine Fo.ck (fun _ => ?_)
    | with_reducible refine Fo.ite ?_ ?_
    | with_reducible refine Fo.rd (fun _ => ?_)
    | with_reducible refine Fo.oe ?_ (fun _ => ?_)
    | with_reducible refine Fo.se (fun _ => ?_) (fun _ => ?_)
set_option maxHeartbeats 4000000 in
theorem fo_SX12_merges_54 {P : Nat → Nat → Prop} {t : St} (w1 : Int32) (w4 : Int32) (w5 : Int32) (w6 : Int32) (c : Int32) (hP : ∀ c i, P c i → c ≠ 161) : Fo P t (SX12_merges_54 w1 w4 w5 w6 c t) := by
  unfold SX12_merges_54
  repeat' first
    | with_reducible exact Fo.ret
    | with_reducible exact Fo.no
    | with_reducible refine Fo.bd ?_ (fun _ _ => ?_)
    | with_reducible refine Fo.ck (fun _ => ?_)
    | with_reducible refine Fo.ite ?_ ?_
    | with_reducible refine Fo.rd (fun _ => ?_)
    | with_reducible refine Fo.wr (fun c i h => by have hh := hP c i h; first | exact hh | (intro e; exact absurd e hh) | omega | (have := net_q (by assumption); omega) | (have := net_q (x := el 10 _) (by assumption); omega) | (have := find_q (by assumption); omega) | (have := finds_q (by assumption); omega)) (fun _ => ?_)
    | with_reducible refine Fo.cp (fun c i h => by have hh := hP c i h; first | exact hh | (intro e; exact absurd e hh) | omega | (have := net_q (by assumption); omega) | (have := net_q (x := el 10 _) (by assumption); omega)) (fun _ => ?_)
    | with_reducible refine Fo.oe ?_ (fun _ => ?_)
    | with_reducible refine Fo.se (fun _ => ?_) (fun _ => ?_)
set_option maxHeartbeats 4000000 in
theorem fo_SX12_merges_88 {P : Nat → Nat → Prop} {t : St} (w1 : Int32) (w4 : Int32) (w5 : Int32) (w6 : Int32) (w7 : Int32) (c : Int32) (hP : ∀ c i, P c i → c ≠ 161) : Fo P t (SX12_merges_88 w1 w4 w5 w6 w7 c t) := by
  unfold SX12_merges_88
  repeat' first
    | with_reducible exact Fo.ret
    | with_reducible exact Fo.no
    | with_reducible exact fo_FX12_weight _ _ _
    | with_reducible refine Fo.bd ?_ (fun _ _ => ?_)
    | with_reducible refine Fo.ck (fun _ => ?_)
    | with_reducible refine Fo.ite ?_ ?_
    | with_reducible refine Fo.rd (fun _ => ?_)
    | with_reducible refine Fo.wr (fun c i h => by have hh := hP c i h; first | exact hh | (intro e; exact absurd e hh) | omega | (have := net_q (by assumption); omega) | (have := net_q (x := el 10 _) (by assumption); omega) | (have := find_q (by assumption); omega) | (have := finds_q (by assumption); omega)) (fun _ => ?_)
    | with_reducible refine Fo.cp (fun c i h => by have hh := hP c i h; first | exact hh | (intro e; exact absurd e hh) | omega | (have := net_q (by assumption); omega) | (have := net_q (x := el 10 _) (by assumption); omega)) (fun _ => ?_)
    | with_reducible refine Fo.oe ?_ (fun _ => ?_)
    | with_reducible refine Fo.se (fun _ => ?_) (fun _ => ?_)
set_option maxHeartbeats 4000000 in
theorem fo_SX12_merges_78 {P : Nat → Nat → Prop} {t : St} (w1 : Int32) (w4 : Int32) (w5 : Int32) (w6 : Int32) (c : Int32) (hP : ∀ c i, P c i → c ≠ 161) : Fo P t (SX12_merges_78 w1 w4 w5 w6 c t) := by
  unfold SX12_merges_78
  repeat' first
    | with_reducible exact Fo.ret
    | with_reducible exact Fo.no
    | with_reducible refine Fo.wh (fun cc ss => fo_SX12_merges_88 _ _ _ _ _ cc (fun c i h => by have hh := hP c i h; first | exact hh | (intro e; exact absurd e hh) | omega | (have := net_q (by assumption); omega) | (have := net_q (x := el 10 _) (by assumption); omega) | (have := find_q (by assumption); omega) | (have := finds_q (by assumption); omega)))
    | with_reducible refine Fo.bd ?_ (fun _ _ => ?_)
    | with_reducible refine Fo.ck (fun _ => ?_)
    | with_reducible refine Fo.ite ?_ ?_
    | with_reducible refine Fo.rd (fun _ => ?_)
    | with_reducible refine Fo.wr (fun c i h => by have hh := hP c i h; first | exact hh | (intro e; exact absurd e hh) | omega | (have := net_q (by assumption); omega) | (have := net_q (x := el 10 _) (by assumption); omega) | (have := find_q (by assumption); omega) | (have := finds_q (by assumption); omega)) (fun _ => ?_)
    | with_reducible refine Fo.cp (fun c i h => by have hh := hP c i h; first | exact hh | (intro e; exact absurd e hh) | omega | (have := net_q (by assumption); omega) | (have := net_q (x := el 10 _) (by assumption); omega)) (fun _ => ?_)
    | with_reducible refine Fo.oe ?_ (fun _ => ?_)
    | with_reducible refine Fo.se (fun _ => ?_) (fun _ => ?_)
set_option maxHeartbeats 4000000 in
theorem fo_SX12_merges_223 {P : Nat → Nat → Prop} {t : St} (w1 : Int32) (w5 : Int32) (w6 : Int32) (c : Int32 × Int32) (hP : ∀ c i, P c i → c ≠ 154) : Fo P t (SX12_merges_223 w1 w5 w6 c t) := by
  unfold SX12_merges_223
  repeat' first
    | with_reducible exact Fo.ret
    | with_reducible exact Fo.no
    | with_reducible exact fo_FX12_at _ _
    | with_reducible refine Fo.bd ?_ (fun _ _ => ?_)
    | with_reducible refine Fo.ck (fun _ => ?_)
    | with_reducible refine Fo.ite ?_ ?_
    | with_reducible refine Fo.rd (fun _ => ?_)
    | with_reducible refine Fo.wr (fun c i h => by have hh := hP c i h; first | exact hh | (intro e; exact absurd e hh) | omega | (have := net_q (by assumption); omega) | (have := net_q (x := el 10 _) (by assumption); omega) | (have := find_q (by assumption); omega) | (have := finds_q (by assumption); omega)) (fun _ => ?_)
    | with_reducible refine Fo.cp (fun c i h => by have hh := hP c i h; first | exact hh | (intro e; exact absurd e hh) | omega | (have := net_q (by assumption); omega) | (have := net_q (x := el 10 _) (by assumption); omega)) (fun _ => ?_)
    | with_reducible refine Fo.oe ?_ (fun _ => ?_)
    | with_reducible refine Fo.se (fun _ => ?_) (fun _ => ?_)
set_option maxHeartbeats 4000000 in
theorem fo_SX12_merges_299 {P : Nat → Nat → Prop} {t : St} (w1 : Int32) (w6 : Int32) (c : Int32) (hP : ∀ c i, P c i → c ≠ 150) : Fo P t (SX12_merges_299 w1 w6 c t) := by
  unfold SX12_merges_299
  repeat' first
    | with_reducible exact Fo.ret
    | with_reducible exact Fo.no
    | with_reducible refine Fo.bd ?_ (fun _ _ => ?_)
    | with_reducible refine Fo.ck (fun _ => ?_)
    | with_reducible refine Fo.ite ?_ ?_
    | with_reducible refine Fo.rd (fun _ => ?_)
    | with_reducible refine Fo.wr (fun c i h => by have hh := hP c i h; first | exact hh | (intro e; exact absurd e hh) | omega | (have := net_q (by assumption); omega) | (have := net_q (x := el 10 _) (by assumption); omega) | (have := find_q (by assumption); omega) | (have := finds_q (by assumption); omega)) (fun _ => ?_)
    | with_reducible refine Fo.cp (fun c i h => by have hh := hP c i h; first | exact hh | (intro e; exact absurd e hh) | omega | (have := net_q (by assumption); omega) | (have := net_q (x := el 10 _) (by assumption); omega)) (fun _ => ?_)
    | with_reducible refine Fo.oe ?_ (fun _ => ?_)
    | with_reducible refine Fo.se (fun _ => ?_) (fun _ => ?_)
set_option maxHeartbeats 4000000 in
theorem fo_SX12_merges_336 {P : Nat → Nat → Prop} {t : St} (w1 : Int32) (w6 : Int32) (c : Int32) (hP : ∀ c i, P c i → c ≠ 150) : Fo P t (SX12_merges_336 w1 w6 c t) := by
  unfold SX12_merges_336
  repeat' first
    | with_reducible exact Fo.ret
    | with_reducible exact Fo.no
    | with_reducible exact fo_FX12_puts _ _ _ (fun c i h => by have hh := hP c i h; first | exact hh | (intro e; exact absurd e hh) | omega | (have := net_q (by assumption); omega) | (have := net_q (x := el 10 _) (by assumption); omega) | (have := find_q (by assumption); omega) | (have := finds_q (by assumption); omega))
    | with_reducible refine Fo.bd ?_ (fun _ _ => ?_)
    | with_reducible refine Fo.ck (fun _ => ?_)
    | with_reducible refine Fo.ite ?_ ?_
    | with_reducible refine Fo.rd (fun _ => ?_)
    | with_reducible refine Fo.wr (fun c i h => by have hh := hP c i h; first | exact hh | (intro e; exact absurd e hh) | omega | (have := net_q (by assumption); omega) | (have := net_q (x := el 10 _) (by assumption); omega) | (have := find_q (by assumption); omega) | (have := finds_q (by assumption); omega)) (fun _ => ?_)
    | with_reducible refine Fo.cp (fun c i h => by have hh := hP c i h; first | exact hh | (intro e; exact absurd e hh) | omega | (have := net_q (by assumption); omega) | (have := net_q (x := el 10 _) (by assumption); omega)) (fun _ => ?_)
    | with_reducible refine Fo.oe ?_ (fun _ => ?_)
    | with_reducible refine Fo.se (fun _ => ?_) (fun _ => ?_)
set_option maxHeartbeats 4000000 in
theorem fo_FX12_merges {P : Nat → Nat → Prop} {t : St} (a : Int32) (b : Int32) (c : Int32) (hP : ∀ c i, P c i → c ≠ 150 ∧ c ≠ 151 ∧ c ≠ 152 ∧ c ≠ 154 ∧ c ≠ 161 ∧ (c = 149 → i ≠ 3)) : Fo P t (FX12_merges a b c t) := by
  unfold FX12_merges
  repeat' first
    | with_reducible exact Fo.ret
    | with_reducible exact Fo.no
    | with_reducible exact fo_FX12_areTwo _ _ _
    | with_reducible exact fo_FX12_weight _ _ _
    | with_reducible exact fo_FX12_points _
    | with_reducible exact fo_FX12_remembers (fun c i h => by have hh := hP c i h; first | exact hh | (obtain ⟨g0, g1, g2, g3, g4, g5⟩ := hh; and_intros <;> first | assumption | (intro e; exact absurd e (by assumption))) | omega | (have := net_q (by assumption); omega) | (have := net_q (x := el 10 _) (by assumption); omega) | (have := find_q (by assumption); omega) | (have := finds_q (by assumption); omega))
    | with_reducible refine Fo.wh (fun cc ss => fo_SX12_merges_54 _ _ _ _ cc (fun c i h => by have hh := hP c i h; first | exact hh | (obtain ⟨g0, g1, g2, g3, g4, g5⟩ := hh; and_intros <;> first | assumption | (intro e; exact absurd e (by assumption))) | omega | (have := net_q (by assumption); omega) | (have := net_q (x := el 10 _) (by assumption); omega) | (have := find_q (by assumption); omega) | (have := finds_q (by assumption); omega)))
    | with_reducible refine Fo.wh (fun cc ss => fo_SX12_merges_78 _ _ _ _ cc (fun c i h => by have hh := hP c i h; first | exact hh | (obtain ⟨g0, g1, g2, g3, g4, g5⟩ := hh; and_intros <;> first | assumption | (intro e; exact absurd e (by assumption))) | omega | (have := net_q (by assumption); omega) | (have := net_q (x := el 10 _) (by assumption); omega) | (have := find_q (by assumption); omega) | (have := finds_q (by assumption); omega)))
    | with_reducible refine Fo.wh (fun cc ss => fo_SX12_merges_223 _ _ _ cc (fun c i h => by have hh := hP c i h; first | exact hh | (obtain ⟨g0, g1, g2, g3, g4, g5⟩ := hh; and_intros <;> first | assumption | (intro e; exact absurd e (by assumption))) | omega | (have := net_q (by assumption); omega) | (have := net_q (x := el 10 _) (by assumption); omega) | (have := find_q (by assumption); omega) | (have := finds_q (by assumption); omega)))
    | with_reducible exact fo_FX12_empties _ (fun c i h => by have hh := hP c i h; first | exact hh | (obtain ⟨g0, g1, g2, g3, g4, g5⟩ := hh; and_intros <;> first | assumption | (intro e; exact absurd e (by assumption))) | omega | (have := net_q (by assumption); omega) | (have := net_q (x := el 10 _) (by assumption); omega) | (have := find_q (by assumption); omega) | (have := finds_q (by assumption); omega))
    | with_reducible refine Fo.wh (fun cc ss => fo_SX12_merges_299 _ _ cc (fun c i h => by have hh := hP c i h; first | exact hh | (obtain ⟨g0, g1, g2, g3, g4, g5⟩ := hh; and_intros <;> first | assumption | (intro e; exact absurd e (by assumption))) | omega | (have := net_q (by assumption); omega) | (have := net_q (x := el 10 _) (by assumption); omega) | (have := find_q (by assumption); omega) | (have := finds_q (by assumption); omega)))
    | with_reducible refine Fo.wh (fun cc ss => fo_SX12_merges_336 _ _ cc (fun c i h => by have hh := hP c i h; first | exact hh | (obtain ⟨g0, g1, g2, g3, g4, g5⟩ := hh; and_intros <;> first | assumption | (intro e; exact absurd e (by assumption))) | omega | (have := net_q (by assumption); omega) | (have := net_q (x := el 10 _) (by assumption); omega) | (have := find_q (by assumption); omega) | (have := finds_q (by assumption); omega)))
    | with_reducible exact fo_FX12_keeps _ (fun c i h => by have hh := hP c i h; first | exact hh | (obtain ⟨g0, g1, g2, g3, g4, g5⟩ := hh; and_intros <;> first | assumption | (intro e; exact absurd e (by assumption))) | omega | (have := net_q (by assumption); omega) | (have := net_q (x := el 10 _) (by assumption); omega) | (have := find_q (by assumption); omega) | (have := finds_q (by assumption); omega))
    | with_reducible refine Fo.bd ?_ (fun _ _ => ?_)
    | with_reducible refine Fo.ck (fun _ => ?_)
    | with_reducible refine Fo.ite ?_ ?_
    | with_reducible refine Fo.rd (fun _ => ?_)
    | with_reducible refine Fo.wr (fun c i h => by have hh := hP c i h; first | exact hh | (obtain ⟨g0, g1, g2, g3, g4, g5⟩ := hh; and_intros <;> first | assumption | (intro e; exact absurd e (by assumption))) | omega | (have := net_q (by assumption); omega) | (have := net_q (x := el 10 _) (by assumption); omega) | (have := find_q (by assumption); omega) | (have := finds_q (by assumption); omega)) (fun _ => ?_)
    | with_reducible refine Fo.cp (fun c i h => by have hh := hP c i h; first | exact hh | (obtain ⟨g0, g1, g2, g3, g4, g5⟩ := hh; and_intros <;> first | assumption | (intro e; exact absurd e (by assumption))) | omega | (have := net_q (by assumption); omega) | (have := net_q (x := el 10 _) (by assumption); omega)) (fun _ => ?_)
    | with_reducible refine Fo.oe ?_ (fun _ => ?_)
    | with_reducible refine Fo.se (fun _ => ?_) (fun _ => ?_)
set_option maxHeartbeats 4000000 in
theorem fo_SX12_minor_13 {P : Nat → Nat → Prop} {t : St} (w1 : Int32) (c : Int32) (hP : ∀ c i, P c i → c ≠ 160) : Fo P t (SX12_minor_13 w1 c t) := by
  unfold SX12_minor_13
  repeat' first
    | with_reducible exact Fo.ret
    | with_reducible exact Fo.no
    | with_reducible exact fo_FX12_points _
    | with_reducible exact fo_FX12_nearOf _ _
    | with_reducible refine Fo.bd ?_ (fun _ _ => ?_)
    | with_reducible refine Fo.ck (fun _ => ?_)
    | with_reducible refine Fo.ite ?_ ?_
    | with_reducible refine Fo.rd (fun _ => ?_)
    | with_reducible refine Fo.wr (fun c i h => by have hh := hP c i h; first | exact hh | (intro e; exact absurd e hh) | omega | (have := net_q (by assumption); omega) | (have := net_q (x := el 10 _) (by assumption); omega) | (have := find_q (by assumption); omega) | (have := finds_q (by assumption); omega)) (fun _ => ?_)
    | with_reducible refine Fo.cp (fun c i h => by have hh := hP c i h; first | exact hh | (intro e; exact absurd e hh) | omega | (have := net_q (by assumption); omega) | (have := net_q (x := el 10 _) (by assumption); omega)) (fun _ => ?_)
    | with_reducible refine Fo.oe ?_ (fun _ => ?_)
    | with_reducible refine Fo.se (fun _ => ?_) (fun _ => ?_)
set_option maxHeartbeats 4000000 in
theorem fo_SX12_minor_103 {P : Nat → Nat → Prop} {t : St} (w1 : Int32) (w2 : Int32) (w3 : Int32) (w4 : Int32) (w5 : Int32) (c : Int32) (hP : ∀ c i, P c i → c ≠ 160) : Fo P t (SX12_minor_103 w1 w2 w3 w4 w5 c t) := by
  unfold SX12_minor_103
  repeat' first
    | with_reducible exact Fo.ret
    | with_reducible exact Fo.no
    | with_reducible exact fo_FX12_points _
    | with_reducible exact fo_FX12_has _ _
    | with_reducible refine Fo.bd ?_ (fun _ _ => ?_)
    | with_reducible refine Fo.ck (fun _ => ?_)
    | with_reducible refine Fo.ite ?_ ?_
    | with_reducible refine Fo.rd (fun _ => ?_)
    | with_reducible refine Fo.wr (fun c i h => by have hh := hP c i h; first | exact hh | (intro e; exact absurd e hh) | omega | (have := net_q (by assumption); omega) | (have := net_q (x := el 10 _) (by assumption); omega) | (have := find_q (by assumption); omega) | (have := finds_q (by assumption); omega)) (fun _ => ?_)
    | with_reducible refine Fo.cp (fun c i h => by have hh := hP c i h; first | exact hh | (intro e; exact absurd e hh) | omega | (have := net_q (by assumption); omega) | (have := net_q (x := el 10 _) (by assumption); omega)) (fun _ => ?_)
    | with_reducible refine Fo.oe ?_ (fun _ => ?_)
    | with_reducible refine Fo.se (fun _ => ?_) (fun _ => ?_)
set_option maxHeartbeats 4000000 in
theorem fo_SX12_minor_52 {P : Nat → Nat → Prop} {t : St} (w1 : Int32) (c : Int32 × Int32) (hP : ∀ c i, P c i → c ≠ 160) : Fo P t (SX12_minor_52 w1 c t) := by
  unfold SX12_minor_52
  repeat' first
    | with_reducible exact Fo.ret
    | with_reducible exact Fo.no
    | with_reducible exact fo_FX12_fewestOf _
    | with_reducible exact fo_FX12_ones _
    | with_reducible refine Fo.wh (fun cc ss => fo_SX12_minor_103 _ _ _ _ _ cc (fun c i h => by have hh := hP c i h; first | exact hh | (intro e; exact absurd e hh) | omega | (have := net_q (by assumption); omega) | (have := net_q (x := el 10 _) (by assumption); omega) | (have := find_q (by assumption); omega) | (have := finds_q (by assumption); omega)))
    | with_reducible refine Fo.bd ?_ (fun _ _ => ?_)
    | with_reducible refine Fo.ck (fun _ => ?_)
    | with_reducible refine Fo.ite ?_ ?_
    | with_reducible refine Fo.rd (fun _ => ?_)
    | with_reducible refine Fo.wr (fun c i h => by have hh := hP c i h; first | exact hh | (intro e; exact absurd e hh) | omega | (have := net_q (by assumption); omega) | (have := net_q (x := el 10 _) (by assumption); omega) | (have := find_q (by assumption); omega) | (have := finds_q (by assumption); omega)) (fun _ => ?_)
    | with_reducible refine Fo.cp (fun c i h => by have hh := hP c i h; first | exact hh | (intro e; exact absurd e hh) | omega | (have := net_q (by assumption); omega) | (have := net_q (x := el 10 _) (by assumption); omega)) (fun _ => ?_)
    | with_reducible refine Fo.oe ?_ (fun _ => ?_)
    | with_reducible refine Fo.se (fun _ => ?_) (fun _ => ?_)
set_option maxHeartbeats 4000000 in
theorem fo_FX12_minor {P : Nat → Nat → Prop} {t : St} (a : Int32) (hP : ∀ c i, P c i → c ≠ 160) : Fo P t (FX12_minor a t) := by
  unfold FX12_minor
  repeat' first
    | with_reducible exact Fo.ret
    | with_reducible exact Fo.no
    | with_reducible exact fo_FX12_isNet _
    | with_reducible refine Fo.wh (fun cc ss => fo_SX12_minor_13 _ cc (fun c i h => by have hh := hP c i h; first | exact hh | (intro e; exact absurd e hh) | omega | (have := net_q (by assumption); omega) | (have := net_q (x := el 10 _) (by assumption); omega) | (have := find_q (by assumption); omega) | (have := finds_q (by assumption); omega)))
    | with_reducible exact fo_FX12_points _
    | with_reducible refine Fo.wh (fun cc ss => fo_SX12_minor_52 _ cc (fun c i h => by have hh := hP c i h; first | exact hh | (intro e; exact absurd e hh) | omega | (have := net_q (by assumption); omega) | (have := net_q (x := el 10 _) (by assumption); omega) | (have := find_q (by assumption); omega) | (have := finds_q (by assumption); omega)))
    | with_reducible refine Fo.bd ?_ (fun _ _ => ?_)
    | with_reducible refine Fo.ck (fun _ => ?_)
    | with_reducible refine Fo.ite ?_ ?_
    | with_reducible refine Fo.rd (fun _ => ?_)
    | with_reducible refine Fo.wr (fun c i h => by have hh := hP c i h; first | exact hh | (intro e; exact absurd e hh) | omega | (have := net_q (by assumption); omega) | (have := net_q (x := el 10 _) (by assumption); omega) | (have := find_q (by assumption); omega) | (have := finds_q (by assumption); omega)) (fun _ => ?_)
    | with_reducible refine Fo.cp (fun c i h => by have hh := hP c i h; first | exact hh | (intro e; exact absurd e hh) | omega | (have := net_q (by assumption); omega) | (have := net_q (x := el 10 _) (by assumption); omega)) (fun _ => ?_)
    | with_reducible refine Fo.oe ?_ (fun _ => ?_)
    | with_reducible refine Fo.se (fun _ => ?_) (fun _ => ?_)
set_option maxHeartbeats 4000000 in
theorem fo_SX12_moves_41 {P : Nat → Nat → Prop} {t : St} (w1 : Int32) (w3 : Int32) (w4 : Int32) (c : Int32) (hP : ∀ c i, P c i → c ≠ 154) : Fo P t (SX12_moves_41 w1 w3 w4 c t) := by
  unfold SX12_moves_41
  repeat' first
    | with_reducible exact Fo.ret
    | with_reducible exact Fo.no
    | with_reducible exact fo_FX12_exchanges _ _ (fun c i h => by have hh := hP c i h; first | exact hh | (intro e; exact absurd e hh) | omega | (have := net_q (by assumption); omega) | (have := net_q (x := el 10 _) (by assumption); omega) | (have := find_q (by assumption); omega) | (have := finds_q (by assumption); omega))
    | with_reducible refine Fo.bd ?_ (fun _ _ => ?_)
    | with_reducible refine Fo.ck (fun _ => ?_)
    | with_reducible refine Fo.ite ?_ ?_
    | with_reducible refine Fo.rd (fun _ => ?_)
    | with_reducible refine Fo.wr (fun c i h => by have hh := hP c i h; first | exact hh | (intro e; exact absurd e hh) | omega | (have := net_q (by assumption); omega) | (have := net_q (x := el 10 _) (by assumption); omega) | (have := find_q (by assumption); omega) | (have := finds_q (by assumption); omega)) (fun _ => ?_)
    | with_reducible refine Fo.cp (fun c i h => by have hh := hP c i h; first | exact hh | (intro e; exact absurd e hh) | omega | (have := net_q (by assumption); omega) | (have := net_q (x := el 10 _) (by assumption); omega)) (fun _ => ?_)
    | with_reducible refine Fo.oe ?_ (fun _ => ?_)
    | with_reducible refine Fo.se (fun _ => ?_) (fun _ => ?_)
set_option maxHeartbeats 4000000 in
theorem fo_FX12_moves {P : Nat → Nat → Prop} {t : St} (a : Int32) (b : Int32) (c : Int32) (hP : ∀ c i, P c i → c ≠ 150 ∧ c ≠ 151 ∧ c ≠ 152 ∧ c ≠ 154 ∧ (c = 149 → i ≠ 3)) : Fo P t (FX12_moves a b c t) := by
  unfold FX12_moves
  repeat' first
    | with_reducible exact Fo.ret
    | with_reducible exact Fo.no
    | with_reducible exact fo_FX12_isPoint _ _
    | with_reducible exact fo_FX12_laysRow _ (fun c i h => by have hh := hP c i h; first | exact hh | (obtain ⟨g0, g1, g2, g3, g4⟩ := hh; and_intros <;> first | assumption | (intro e; exact absurd e (by assumption))) | omega | (have := net_q (by assumption); omega) | (have := net_q (x := el 10 _) (by assumption); omega) | (have := find_q (by assumption); omega) | (have := finds_q (by assumption); omega))
    | with_reducible refine Fo.wh (fun cc ss => fo_SX12_moves_41 _ _ _ cc (fun c i h => by have hh := hP c i h; first | exact hh | (obtain ⟨g0, g1, g2, g3, g4⟩ := hh; and_intros <;> first | assumption | (intro e; exact absurd e (by assumption))) | omega | (have := net_q (by assumption); omega) | (have := net_q (x := el 10 _) (by assumption); omega) | (have := find_q (by assumption); omega) | (have := finds_q (by assumption); omega)))
    | with_reducible exact fo_FX12_takesRow _ (fun c i h => by have hh := hP c i h; first | exact hh | (obtain ⟨g0, g1, g2, g3, g4⟩ := hh; and_intros <;> first | assumption | (intro e; exact absurd e (by assumption))) | omega | (have := net_q (by assumption); omega) | (have := net_q (x := el 10 _) (by assumption); omega) | (have := find_q (by assumption); omega) | (have := finds_q (by assumption); omega))
    | with_reducible exact fo_FX12_at _ _
    | with_reducible refine Fo.bd ?_ (fun _ _ => ?_)
    | with_reducible refine Fo.ck (fun _ => ?_)
    | with_reducible refine Fo.ite ?_ ?_
    | with_reducible refine Fo.rd (fun _ => ?_)
    | with_reducible refine Fo.wr (fun c i h => by have hh := hP c i h; first | exact hh | (obtain ⟨g0, g1, g2, g3, g4⟩ := hh; and_intros <;> first | assumption | (intro e; exact absurd e (by assumption))) | omega | (have := net_q (by assumption); omega) | (have := net_q (x := el 10 _) (by assumption); omega) | (have := find_q (by assumption); omega) | (have := finds_q (by assumption); omega)) (fun _ => ?_)
    | with_reducible refine Fo.cp (fun c i h => by have hh := hP c i h; first | exact hh | (obtain ⟨g0, g1, g2, g3, g4⟩ := hh; and_intros <;> first | assumption | (intro e; exact absurd e (by assumption))) | omega | (have := net_q (by assumption); omega) | (have := net_q (x := el 10 _) (by assumption); omega)) (fun _ => ?_)
    | with_reducible refine Fo.oe ?_ (fun _ => ?_)
    | with_reducible refine Fo.se (fun _ => ?_) (fun _ => ?_)
set_option maxHeartbeats 4000000 in
theorem fo_FX12_near {P : Nat → Nat → Prop} {t : St} (a : Int32) (b : Int32) : Fo P t (FX12_near a b t) := by
  unfold FX12_near
  repeat' first
    | with_reducible exact Fo.ret
    | with_reducible exact Fo.no
    | with_reducible exact fo_FX12_isPoint _ _
    | with_reducible exact fo_FX12_nearOf _ _
    | with_reducible refine Fo.bd ?_ (fun _ _ => ?_)
    | with_reducible refine Fo.ck (fun _ => ?_)
    | with_reducible refine Fo.ite ?_ ?_
    | with_reducible refine Fo.rd (fun _ => ?_)
    | with_reducible refine Fo.oe ?_ (fun _ => ?_)
    | with_reducible refine Fo.se (fun _ => ?_) (fun _ => ?_)
set_option maxHeartbeats 4000000 in
theorem fo_FX12_octet {P : Nat → Nat → Prop} {t : St} (a : Int32) : Fo P t (FX12_octet a t) := by
  unfold FX12_octet
  repeat' first
    | with_reducible exact Fo.ret
    | with_reducible exact Fo.no
    | with_reducible exact fo_FX12_in _ _ _
    | with_reducible refine Fo.bd ?_ (fun _ _ => ?_)
    | with_reducible refine Fo.ck (fun _ => ?_)
    | with_reducible refine Fo.ite ?_ ?_
    | with_reducible refine Fo.rd (fun _ => ?_)
    | with_reducible refine Fo.oe ?_ (fun _ => ?_)
    | with_reducible refine Fo.se (fun _ => ?_) (fun _ => ?_)
set_option maxHeartbeats 4000000 in
theorem fo_FX12_place {P : Nat → Nat → Prop} {t : St} (a : Int32) (b : Int32) : Fo P t (FX12_place a b t) := by
  unfold FX12_place
  repeat' first
    | with_reducible exact Fo.ret
    | with_reducible exact Fo.no
    | with_reducible exact fo_FX12_isPoint _ _
    | with_reducible exact fo_FX12_placeOf _ _
    | with_reducible refine Fo.bd ?_ (fun _ _ => ?_)
    | with_reducible refine Fo.ck (fun _ => ?_)
    | with_reducible refine Fo.ite ?_ ?_
    | with_reducible refine Fo.rd (fun _ => ?_)
    | with_reducible refine Fo.oe ?_ (fun _ => ?_)
    | with_reducible refine Fo.se (fun _ => ?_) (fun _ => ?_)
set_option maxHeartbeats 4000000 in
theorem fo_SX12_polishes_52 {P : Nat → Nat → Prop} {t : St} (w1 : Int32) (w2 : Int32) (w3 : Int32) (w4 : Int32) (w9 : Int32) (c : Int32 × Int32 × Int32 × Int32) (hP : ∀ c i, P c i → c ≠ 154) : Fo P t (SX12_polishes_52 w1 w2 w3 w4 w9 c t) := by
  unfold SX12_polishes_52
  repeat' first
    | with_reducible exact Fo.ret
    | with_reducible exact Fo.no
    | with_reducible exact fo_FX12_points _
    | with_reducible exact fo_FX12_exchanges _ _ (fun c i h => by have hh := hP c i h; first | exact hh | (intro e; exact absurd e hh) | omega | (have := net_q (by assumption); omega) | (have := net_q (x := el 10 _) (by assumption); omega) | (have := find_q (by assumption); omega) | (have := finds_q (by assumption); omega))
    | with_reducible exact fo_FX12_valueOf _ _
    | with_reducible refine Fo.bd ?_ (fun _ _ => ?_)
    | with_reducible refine Fo.ck (fun _ => ?_)
    | with_reducible refine Fo.ite ?_ ?_
    | with_reducible refine Fo.rd (fun _ => ?_)
    | with_reducible refine Fo.wr (fun c i h => by have hh := hP c i h; first | exact hh | (intro e; exact absurd e hh) | omega | (have := net_q (by assumption); omega) | (have := net_q (x := el 10 _) (by assumption); omega) | (have := find_q (by assumption); omega) | (have := finds_q (by assumption); omega)) (fun _ => ?_)
    | with_reducible refine Fo.cp (fun c i h => by have hh := hP c i h; first | exact hh | (intro e; exact absurd e hh) | omega | (have := net_q (by assumption); omega) | (have := net_q (x := el 10 _) (by assumption); omega)) (fun _ => ?_)
    | with_reducible refine Fo.oe ?_ (fun _ => ?_)
    | with_reducible refine Fo.se (fun _ => ?_) (fun _ => ?_)
set_option maxHeartbeats 4000000 in
theorem fo_SX12_polishes_36 {P : Nat → Nat → Prop} {t : St} (w1 : Int32) (w2 : Int32) (w3 : Int32) (w4 : Int32) (c : Int32 × Int32 × Int32 × Int32) (hP : ∀ c i, P c i → c ≠ 154) : Fo P t (SX12_polishes_36 w1 w2 w3 w4 c t) := by
  unfold SX12_polishes_36
  repeat' first
    | with_reducible exact Fo.ret
    | with_reducible exact Fo.no
    | with_reducible exact fo_FX12_points _
    | with_reducible refine Fo.wh (fun cc ss => fo_SX12_polishes_52 _ _ _ _ _ cc (fun c i h => by have hh := hP c i h; first | exact hh | (intro e; exact absurd e hh) | omega | (have := net_q (by assumption); omega) | (have := net_q (x := el 10 _) (by assumption); omega) | (have := find_q (by assumption); omega) | (have := finds_q (by assumption); omega)))
    | with_reducible refine Fo.bd ?_ (fun _ _ => ?_)
    | with_reducible refine Fo.ck (fun _ => ?_)
    | with_reducible refine Fo.ite ?_ ?_
    | with_reducible refine Fo.rd (fun _ => ?_)
    | with_reducible refine Fo.wr (fun c i h => by have hh := hP c i h; first | exact hh | (intro e; exact absurd e hh) | omega | (have := net_q (by assumption); omega) | (have := net_q (x := el 10 _) (by assumption); omega) | (have := find_q (by assumption); omega) | (have := finds_q (by assumption); omega)) (fun _ => ?_)
    | with_reducible refine Fo.cp (fun c i h => by have hh := hP c i h; first | exact hh | (intro e; exact absurd e hh) | omega | (have := net_q (by assumption); omega) | (have := net_q (x := el 10 _) (by assumption); omega)) (fun _ => ?_)
    | with_reducible refine Fo.oe ?_ (fun _ => ?_)
    | with_reducible refine Fo.se (fun _ => ?_) (fun _ => ?_)
set_option maxHeartbeats 4000000 in
theorem fo_SX12_polishes_18 {P : Nat → Nat → Prop} {t : St} (w1 : Int32) (w2 : Int32) (c : Int32 × Int32 × Int32) (hP : ∀ c i, P c i → c ≠ 154) : Fo P t (SX12_polishes_18 w1 w2 c t) := by
  unfold SX12_polishes_18
  repeat' first
    | with_reducible exact Fo.ret
    | with_reducible exact Fo.no
    | with_reducible refine Fo.wh (fun cc ss => fo_SX12_polishes_36 _ _ _ _ cc (fun c i h => by have hh := hP c i h; first | exact hh | (intro e; exact absurd e hh) | omega | (have := net_q (by assumption); omega) | (have := net_q (x := el 10 _) (by assumption); omega) | (have := find_q (by assumption); omega) | (have := finds_q (by assumption); omega)))
    | with_reducible exact fo_FX12_exchanges _ _ (fun c i h => by have hh := hP c i h; first | exact hh | (intro e; exact absurd e hh) | omega | (have := net_q (by assumption); omega) | (have := net_q (x := el 10 _) (by assumption); omega) | (have := find_q (by assumption); omega) | (have := finds_q (by assumption); omega))
    | with_reducible refine Fo.bd ?_ (fun _ _ => ?_)
    | with_reducible refine Fo.ck (fun _ => ?_)
    | with_reducible refine Fo.ite ?_ ?_
    | with_reducible refine Fo.rd (fun _ => ?_)
    | with_reducible refine Fo.wr (fun c i h => by have hh := hP c i h; first | exact hh | (intro e; exact absurd e hh) | omega | (have := net_q (by assumption); omega) | (have := net_q (x := el 10 _) (by assumption); omega) | (have := find_q (by assumption); omega) | (have := finds_q (by assumption); omega)) (fun _ => ?_)
    | with_reducible refine Fo.cp (fun c i h => by have hh := hP c i h; first | exact hh | (intro e; exact absurd e hh) | omega | (have := net_q (by assumption); omega) | (have := net_q (x := el 10 _) (by assumption); omega)) (fun _ => ?_)
    | with_reducible refine Fo.oe ?_ (fun _ => ?_)
    | with_reducible refine Fo.se (fun _ => ?_) (fun _ => ?_)
set_option maxHeartbeats 4000000 in
theorem fo_FX12_polishes {P : Nat → Nat → Prop} {t : St} (a : Int32) (b : Int32) (hP : ∀ c i, P c i → c ≠ 154) : Fo P t (FX12_polishes a b t) := by
  unfold FX12_polishes
  repeat' first
    | with_reducible exact Fo.ret
    | with_reducible exact Fo.no
    | with_reducible exact fo_FX12_laysRow _ (fun c i h => by have hh := hP c i h; first | exact hh | (intro e; exact absurd e hh) | omega | (have := net_q (by assumption); omega) | (have := net_q (x := el 10 _) (by assumption); omega) | (have := find_q (by assumption); omega) | (have := finds_q (by assumption); omega))
    | with_reducible exact fo_FX12_valueOf _ _
    | with_reducible refine Fo.wh (fun cc ss => fo_SX12_polishes_18 _ _ cc (fun c i h => by have hh := hP c i h; first | exact hh | (intro e; exact absurd e hh) | omega | (have := net_q (by assumption); omega) | (have := net_q (x := el 10 _) (by assumption); omega) | (have := find_q (by assumption); omega) | (have := finds_q (by assumption); omega)))
    | with_reducible refine Fo.bd ?_ (fun _ _ => ?_)
    | with_reducible refine Fo.ck (fun _ => ?_)
    | with_reducible refine Fo.ite ?_ ?_
    | with_reducible refine Fo.rd (fun _ => ?_)
    | with_reducible refine Fo.wr (fun c i h => by have hh := hP c i h; first | exact hh | (intro e; exact absurd e hh) | omega | (have := net_q (by assumption); omega) | (have := net_q (x := el 10 _) (by assumption); omega) | (have := find_q (by assumption); omega) | (have := finds_q (by assumption); omega)) (fun _ => ?_)
    | with_reducible refine Fo.cp (fun c i h => by have hh := hP c i h; first | exact hh | (intro e; exact absurd e hh) | omega | (have := net_q (by assumption); omega) | (have := net_q (x := el 10 _) (by assumption); omega)) (fun _ => ?_)
    | with_reducible refine Fo.oe ?_ (fun _ => ?_)
    | with_reducible refine Fo.se (fun _ => ?_) (fun _ => ?_)
set_option maxHeartbeats 4000000 in
theorem fo_FX12_polish {P : Nat → Nat → Prop} {t : St} (a : Int32) (b : Int32) (hP : ∀ c i, P c i → c ≠ 150 ∧ c ≠ 151 ∧ c ≠ 152 ∧ c ≠ 154 ∧ (c = 149 → i ≠ 3)) : Fo P t (FX12_polish a b t) := by
  unfold FX12_polish
  repeat' first
    | with_reducible exact Fo.ret
    | with_reducible exact Fo.no
    | with_reducible exact fo_FX12_isNet _
    | with_reducible exact fo_FX12_isMeasure _
    | with_reducible exact fo_FX12_polishes _ _ (fun c i h => by have hh := hP c i h; first | exact hh | (obtain ⟨g0, g1, g2, g3, g4⟩ := hh; and_intros <;> first | assumption | (intro e; exact absurd e (by assumption))) | omega | (have := net_q (by assumption); omega) | (have := net_q (x := el 10 _) (by assumption); omega) | (have := find_q (by assumption); omega) | (have := finds_q (by assumption); omega))
    | with_reducible exact fo_FX12_takesRow _ (fun c i h => by have hh := hP c i h; first | exact hh | (obtain ⟨g0, g1, g2, g3, g4⟩ := hh; and_intros <;> first | assumption | (intro e; exact absurd e (by assumption))) | omega | (have := net_q (by assumption); omega) | (have := net_q (x := el 10 _) (by assumption); omega) | (have := find_q (by assumption); omega) | (have := finds_q (by assumption); omega))
    | with_reducible refine Fo.bd ?_ (fun _ _ => ?_)
    | with_reducible refine Fo.ck (fun _ => ?_)
    | with_reducible refine Fo.ite ?_ ?_
    | with_reducible refine Fo.rd (fun _ => ?_)
    | with_reducible refine Fo.wr (fun c i h => by have hh := hP c i h; first | exact hh | (obtain ⟨g0, g1, g2, g3, g4⟩ := hh; and_intros <;> first | assumption | (intro e; exact absurd e (by assumption))) | omega | (have := net_q (by assumption); omega) | (have := net_q (x := el 10 _) (by assumption); omega) | (have := find_q (by assumption); omega) | (have := finds_q (by assumption); omega)) (fun _ => ?_)
    | with_reducible refine Fo.cp (fun c i h => by have hh := hP c i h; first | exact hh | (obtain ⟨g0, g1, g2, g3, g4⟩ := hh; and_intros <;> first | assumption | (intro e; exact absurd e (by assumption))) | omega | (have := net_q (by assumption); omega) | (have := net_q (x := el 10 _) (by assumption); omega)) (fun _ => ?_)
    | with_reducible refine Fo.oe ?_ (fun _ => ?_)
    | with_reducible refine Fo.se (fun _ => ?_) (fun _ => ?_)
set_option maxHeartbeats 4000000 in
theorem fo_FX12_polished {P : Nat → Nat → Prop} {t : St} (a : Int32) (b : Int32) (hP : ∀ c i, P c i → c ≠ 154) : Fo P t (FX12_polished a b t) := by
  unfold FX12_polished
  repeat' first
    | with_reducible exact Fo.ret
    | with_reducible exact Fo.no
    | with_reducible exact fo_FX12_isNet _
    | with_reducible exact fo_FX12_isMeasure _
    | with_reducible exact fo_FX12_polishes _ _ (fun c i h => by have hh := hP c i h; first | exact hh | (intro e; exact absurd e hh) | omega | (have := net_q (by assumption); omega) | (have := net_q (x := el 10 _) (by assumption); omega) | (have := find_q (by assumption); omega) | (have := finds_q (by assumption); omega))
    | with_reducible exact fo_FX12_valueOf _ _
    | with_reducible refine Fo.bd ?_ (fun _ _ => ?_)
    | with_reducible refine Fo.ck (fun _ => ?_)
    | with_reducible refine Fo.ite ?_ ?_
    | with_reducible refine Fo.rd (fun _ => ?_)
    | with_reducible refine Fo.wr (fun c i h => by have hh := hP c i h; first | exact hh | (intro e; exact absurd e hh) | omega | (have := net_q (by assumption); omega) | (have := net_q (x := el 10 _) (by assumption); omega) | (have := find_q (by assumption); omega) | (have := finds_q (by assumption); omega)) (fun _ => ?_)
    | with_reducible refine Fo.cp (fun c i h => by have hh := hP c i h; first | exact hh | (intro e; exact absurd e hh) | omega | (have := net_q (by assumption); omega) | (have := net_q (x := el 10 _) (by assumption); omega)) (fun _ => ?_)
    | with_reducible refine Fo.oe ?_ (fun _ => ?_)
    | with_reducible refine Fo.se (fun _ => ?_) (fun _ => ?_)
set_option maxHeartbeats 4000000 in
theorem fo_FX12_priceOf {P : Nat → Nat → Prop} {t : St} (a : Int32) (b : Int32) (c : Int32) : Fo P t (FX12_priceOf a b c t) := by
  unfold FX12_priceOf
  repeat' first
    | with_reducible exact Fo.ret
    | with_reducible exact Fo.no
    | with_reducible exact fo_FX12_isTakenOut _
    | with_reducible exact fo_FX12_aheadOf _ _
    | with_reducible exact fo_FX12_at _ _
    | with_reducible exact fo_FX12_cost _ _ _ _
    | with_reducible refine Fo.bd ?_ (fun _ _ => ?_)
    | with_reducible refine Fo.ck (fun _ => ?_)
    | with_reducible refine Fo.ite ?_ ?_
    | with_reducible refine Fo.rd (fun _ => ?_)
    | with_reducible refine Fo.oe ?_ (fun _ => ?_)
    | with_reducible refine Fo.se (fun _ => ?_) (fun _ => ?_)
set_option maxHeartbeats 4000000 in
theorem fo_FX12_price {P : Nat → Nat → Prop} {t : St} (a : Int32) (b : Int32) (c : Int32) : Fo P t (FX12_price a b c t) := by
  unfold FX12_price
  repeat' first
    | with_reducible exact Fo.ret
    | with_reducible exact Fo.no
    | with_reducible exact fo_FX12_isNet _
    | with_reducible exact fo_FX12_isMeasure _
    | with_reducible exact fo_FX12_isTakenOut _
    | with_reducible exact fo_FX12_points _
    | with_reducible exact fo_FX12_in _ _ _
    | with_reducible exact fo_FX12_priceOf _ _ _
    | with_reducible refine Fo.bd ?_ (fun _ _ => ?_)
    | with_reducible refine Fo.ck (fun _ => ?_)
    | with_reducible refine Fo.ite ?_ ?_
    | with_reducible refine Fo.rd (fun _ => ?_)
    | with_reducible refine Fo.oe ?_ (fun _ => ?_)
    | with_reducible refine Fo.se (fun _ => ?_) (fun _ => ?_)
set_option maxHeartbeats 4000000 in
theorem fo_SX12_reverse_18 {P : Nat → Nat → Prop} {t : St} (w1 : Int32) (c : Int32) (hP : ∀ c i, P c i → c ≠ 154) : Fo P t (SX12_reverse_18 w1 c t) := by
  unfold SX12_reverse_18
  repeat' first
    | with_reducible exact Fo.ret
    | with_reducible exact Fo.no
    | with_reducible exact fo_FX12_points _
    | with_reducible exact fo_FX12_exchanges _ _ (fun c i h => by have hh := hP c i h; first | exact hh | (intro e; exact absurd e hh) | omega | (have := net_q (by assumption); omega) | (have := net_q (x := el 10 _) (by assumption); omega) | (have := find_q (by assumption); omega) | (have := finds_q (by assumption); omega))
    | with_reducible refine Fo.bd ?_ (fun _ _ => ?_)
    | with_reducible refine Fo.ck (fun _ => ?_)
    | with_reducible refine Fo.ite ?_ ?_
    | with_reducible refine Fo.rd (fun _ => ?_)
    | with_reducible refine Fo.wr (fun c i h => by have hh := hP c i h; first | exact hh | (intro e; exact absurd e hh) | omega | (have := net_q (by assumption); omega) | (have := net_q (x := el 10 _) (by assumption); omega) | (have := find_q (by assumption); omega) | (have := finds_q (by assumption); omega)) (fun _ => ?_)
    | with_reducible refine Fo.cp (fun c i h => by have hh := hP c i h; first | exact hh | (intro e; exact absurd e hh) | omega | (have := net_q (by assumption); omega) | (have := net_q (x := el 10 _) (by assumption); omega)) (fun _ => ?_)
    | with_reducible refine Fo.oe ?_ (fun _ => ?_)
    | with_reducible refine Fo.se (fun _ => ?_) (fun _ => ?_)
set_option maxHeartbeats 4000000 in
theorem fo_FX12_reverse {P : Nat → Nat → Prop} {t : St} (a : Int32) (hP : ∀ c i, P c i → c ≠ 150 ∧ c ≠ 151 ∧ c ≠ 152 ∧ c ≠ 154 ∧ (c = 149 → i ≠ 3)) : Fo P t (FX12_reverse a t) := by
  unfold FX12_reverse
  repeat' first
    | with_reducible exact Fo.ret
    | with_reducible exact Fo.no
    | with_reducible exact fo_FX12_isNet _
    | with_reducible exact fo_FX12_laysRow _ (fun c i h => by have hh := hP c i h; first | exact hh | (obtain ⟨g0, g1, g2, g3, g4⟩ := hh; and_intros <;> first | assumption | (intro e; exact absurd e (by assumption))) | omega | (have := net_q (by assumption); omega) | (have := net_q (x := el 10 _) (by assumption); omega) | (have := find_q (by assumption); omega) | (have := finds_q (by assumption); omega))
    | with_reducible refine Fo.wh (fun cc ss => fo_SX12_reverse_18 _ cc (fun c i h => by have hh := hP c i h; first | exact hh | (obtain ⟨g0, g1, g2, g3, g4⟩ := hh; and_intros <;> first | assumption | (intro e; exact absurd e (by assumption))) | omega | (have := net_q (by assumption); omega) | (have := net_q (x := el 10 _) (by assumption); omega) | (have := find_q (by assumption); omega) | (have := finds_q (by assumption); omega)))
    | with_reducible exact fo_FX12_takesRow _ (fun c i h => by have hh := hP c i h; first | exact hh | (obtain ⟨g0, g1, g2, g3, g4⟩ := hh; and_intros <;> first | assumption | (intro e; exact absurd e (by assumption))) | omega | (have := net_q (by assumption); omega) | (have := net_q (x := el 10 _) (by assumption); omega) | (have := find_q (by assumption); omega) | (have := finds_q (by assumption); omega))
    | with_reducible exact fo_FX12_at _ _
    | with_reducible refine Fo.bd ?_ (fun _ _ => ?_)
    | with_reducible refine Fo.ck (fun _ => ?_)
    | with_reducible refine Fo.ite ?_ ?_
    | with_reducible refine Fo.rd (fun _ => ?_)
    | with_reducible refine Fo.wr (fun c i h => by have hh := hP c i h; first | exact hh | (obtain ⟨g0, g1, g2, g3, g4⟩ := hh; and_intros <;> first | assumption | (intro e; exact absurd e (by assumption))) | omega | (have := net_q (by assumption); omega) | (have := net_q (x := el 10 _) (by assumption); omega) | (have := find_q (by assumption); omega) | (have := finds_q (by assumption); omega)) (fun _ => ?_)
    | with_reducible refine Fo.cp (fun c i h => by have hh := hP c i h; first | exact hh | (obtain ⟨g0, g1, g2, g3, g4⟩ := hh; and_intros <;> first | assumption | (intro e; exact absurd e (by assumption))) | omega | (have := net_q (by assumption); omega) | (have := net_q (x := el 10 _) (by assumption); omega)) (fun _ => ?_)
    | with_reducible refine Fo.oe ?_ (fun _ => ?_)
    | with_reducible refine Fo.se (fun _ => ?_) (fun _ => ?_)
set_option maxHeartbeats 4000000 in
theorem fo_FX12_row {P : Nat → Nat → Prop} {t : St} (a : Int32) (b : Int32) : Fo P t (FX12_row a b t) := by
  unfold FX12_row
  repeat' first
    | with_reducible exact Fo.ret
    | with_reducible exact Fo.no
    | with_reducible exact fo_FX12_isPoint _ _
    | with_reducible exact fo_FX12_at _ _
    | with_reducible refine Fo.bd ?_ (fun _ _ => ?_)
    | with_reducible refine Fo.ck (fun _ => ?_)
    | with_reducible refine Fo.ite ?_ ?_
    | with_reducible refine Fo.rd (fun _ => ?_)
    | with_reducible refine Fo.oe ?_ (fun _ => ?_)
    | with_reducible refine Fo.se (fun _ => ?_) (fun _ => ?_)
set_option maxHeartbeats 4000000 in
theorem fo_SX12_rowsOfLeast_30 {P : Nat → Nat → Prop} {t : St} (w1 : Int32) (w2 : Int32) (c : Int32) (hP : ∀ c i, P c i → c ≠ 156) : Fo P t (SX12_rowsOfLeast_30 w1 w2 c t) := by
  unfold SX12_rowsOfLeast_30
  repeat' first
    | with_reducible exact Fo.ret
    | with_reducible exact Fo.no
    | with_reducible exact fo_FX12_points _
    | with_reducible exact fo_FX12_has _ _
    | with_reducible refine Fo.bd ?_ (fun _ _ => ?_)
    | with_reducible refine Fo.ck (fun _ => ?_)
    | with_reducible refine Fo.ite ?_ ?_
    | with_reducible refine Fo.rd (fun _ => ?_)
    | with_reducible refine Fo.wr (fun c i h => by have hh := hP c i h; first | exact hh | (intro e; exact absurd e hh) | omega | (have := net_q (by assumption); omega) | (have := net_q (x := el 10 _) (by assumption); omega) | (have := find_q (by assumption); omega) | (have := finds_q (by assumption); omega)) (fun _ => ?_)
    | with_reducible refine Fo.cp (fun c i h => by have hh := hP c i h; first | exact hh | (intro e; exact absurd e hh) | omega | (have := net_q (by assumption); omega) | (have := net_q (x := el 10 _) (by assumption); omega)) (fun _ => ?_)
    | with_reducible refine Fo.oe ?_ (fun _ => ?_)
    | with_reducible refine Fo.se (fun _ => ?_) (fun _ => ?_)
set_option maxHeartbeats 4000000 in
theorem fo_SX12_rowsOfLeast_5 {P : Nat → Nat → Prop} {t : St} (w1 : Int32) (c : Int32) (hP : ∀ c i, P c i → c ≠ 156) : Fo P t (SX12_rowsOfLeast_5 w1 c t) := by
  unfold SX12_rowsOfLeast_5
  repeat' first
    | with_reducible exact Fo.ret
    | with_reducible exact Fo.no
    | with_reducible refine Fo.wh (fun cc ss => fo_SX12_rowsOfLeast_30 _ _ cc (fun c i h => by have hh := hP c i h; first | exact hh | (intro e; exact absurd e hh) | omega | (have := net_q (by assumption); omega) | (have := net_q (x := el 10 _) (by assumption); omega) | (have := find_q (by assumption); omega) | (have := finds_q (by assumption); omega)))
    | with_reducible refine Fo.bd ?_ (fun _ _ => ?_)
    | with_reducible refine Fo.ck (fun _ => ?_)
    | with_reducible refine Fo.ite ?_ ?_
    | with_reducible refine Fo.rd (fun _ => ?_)
    | with_reducible refine Fo.wr (fun c i h => by have hh := hP c i h; first | exact hh | (intro e; exact absurd e hh) | omega | (have := net_q (by assumption); omega) | (have := net_q (x := el 10 _) (by assumption); omega) | (have := find_q (by assumption); omega) | (have := finds_q (by assumption); omega)) (fun _ => ?_)
    | with_reducible refine Fo.cp (fun c i h => by have hh := hP c i h; first | exact hh | (intro e; exact absurd e hh) | omega | (have := net_q (by assumption); omega) | (have := net_q (x := el 10 _) (by assumption); omega)) (fun _ => ?_)
    | with_reducible refine Fo.oe ?_ (fun _ => ?_)
    | with_reducible refine Fo.se (fun _ => ?_) (fun _ => ?_)
set_option maxHeartbeats 4000000 in
theorem fo_FX12_rowsOfLeast {P : Nat → Nat → Prop} {t : St} (a : Int32) (hP : ∀ c i, P c i → c ≠ 156) : Fo P t (FX12_rowsOfLeast a t) := by
  unfold FX12_rowsOfLeast
  repeat' first
    | with_reducible exact Fo.ret
    | with_reducible exact Fo.no
    | with_reducible refine Fo.wh (fun cc ss => fo_SX12_rowsOfLeast_5 _ cc (fun c i h => by have hh := hP c i h; first | exact hh | (intro e; exact absurd e hh) | omega | (have := net_q (by assumption); omega) | (have := net_q (x := el 10 _) (by assumption); omega) | (have := find_q (by assumption); omega) | (have := finds_q (by assumption); omega)))
    | with_reducible refine Fo.bd ?_ (fun _ _ => ?_)
    | with_reducible refine Fo.ck (fun _ => ?_)
    | with_reducible refine Fo.ite ?_ ?_
    | with_reducible refine Fo.rd (fun _ => ?_)
    | with_reducible refine Fo.wr (fun c i h => by have hh := hP c i h; first | exact hh | (intro e; exact absurd e hh) | omega | (have := net_q (by assumption); omega) | (have := net_q (x := el 10 _) (by assumption); omega) | (have := find_q (by assumption); omega) | (have := finds_q (by assumption); omega)) (fun _ => ?_)
    | with_reducible refine Fo.cp (fun c i h => by have hh := hP c i h; first | exact hh | (intro e; exact absurd e hh) | omega | (have := net_q (by assumption); omega) | (have := net_q (x := el 10 _) (by assumption); omega)) (fun _ => ?_)
    | with_reducible refine Fo.oe ?_ (fun _ => ?_)
    | with_reducible refine Fo.se (fun _ => ?_) (fun _ => ?_)
set_option maxHeartbeats 4000000 in
theorem fo_SX12_rowsWithin_31 {P : Nat → Nat → Prop} {t : St} (w1 : Int32) (w2 : Int32) (w3 : Int32) (c : Int32) (hP : ∀ c i, P c i → c ≠ 156) : Fo P t (SX12_rowsWithin_31 w1 w2 w3 c t) := by
  unfold SX12_rowsWithin_31
  repeat' first
    | with_reducible exact Fo.ret
    | with_reducible exact Fo.no
    | with_reducible exact fo_FX12_points _
    | with_reducible exact fo_FX12_has _ _
    | with_reducible refine Fo.bd ?_ (fun _ _ => ?_)
    | with_reducible refine Fo.ck (fun _ => ?_)
    | with_reducible refine Fo.ite ?_ ?_
    | with_reducible refine Fo.rd (fun _ => ?_)
    | with_reducible refine Fo.wr (fun c i h => by have hh := hP c i h; first | exact hh | (intro e; exact absurd e hh) | omega | (have := net_q (by assumption); omega) | (have := net_q (x := el 10 _) (by assumption); omega) | (have := find_q (by assumption); omega) | (have := finds_q (by assumption); omega)) (fun _ => ?_)
    | with_reducible refine Fo.cp (fun c i h => by have hh := hP c i h; first | exact hh | (intro e; exact absurd e hh) | omega | (have := net_q (by assumption); omega) | (have := net_q (x := el 10 _) (by assumption); omega)) (fun _ => ?_)
    | with_reducible refine Fo.oe ?_ (fun _ => ?_)
    | with_reducible refine Fo.se (fun _ => ?_) (fun _ => ?_)
set_option maxHeartbeats 4000000 in
theorem fo_SX12_rowsWithin_5 {P : Nat → Nat → Prop} {t : St} (w1 : Int32) (w2 : Int32) (c : Int32) (hP : ∀ c i, P c i → c ≠ 156) : Fo P t (SX12_rowsWithin_5 w1 w2 c t) := by
  unfold SX12_rowsWithin_5
  repeat' first
    | with_reducible exact Fo.ret
    | with_reducible exact Fo.no
    | with_reducible refine Fo.wh (fun cc ss => fo_SX12_rowsWithin_31 _ _ _ cc (fun c i h => by have hh := hP c i h; first | exact hh | (intro e; exact absurd e hh) | omega | (have := net_q (by assumption); omega) | (have := net_q (x := el 10 _) (by assumption); omega) | (have := find_q (by assumption); omega) | (have := finds_q (by assumption); omega)))
    | with_reducible refine Fo.bd ?_ (fun _ _ => ?_)
    | with_reducible refine Fo.ck (fun _ => ?_)
    | with_reducible refine Fo.ite ?_ ?_
    | with_reducible refine Fo.rd (fun _ => ?_)
    | with_reducible refine Fo.wr (fun c i h => by have hh := hP c i h; first | exact hh | (intro e; exact absurd e hh) | omega | (have := net_q (by assumption); omega) | (have := net_q (x := el 10 _) (by assumption); omega) | (have := find_q (by assumption); omega) | (have := finds_q (by assumption); omega)) (fun _ => ?_)
    | with_reducible refine Fo.cp (fun c i h => by have hh := hP c i h; first | exact hh | (intro e; exact absurd e hh) | omega | (have := net_q (by assumption); omega) | (have := net_q (x := el 10 _) (by assumption); omega)) (fun _ => ?_)
    | with_reducible refine Fo.oe ?_ (fun _ => ?_)
    | with_reducible refine Fo.se (fun _ => ?_) (fun _ => ?_)
set_option maxHeartbeats 4000000 in
theorem fo_FX12_rowsWithin {P : Nat → Nat → Prop} {t : St} (a : Int32) (b : Int32) (hP : ∀ c i, P c i → c ≠ 156) : Fo P t (FX12_rowsWithin a b t) := by
  unfold FX12_rowsWithin
  repeat' first
    | with_reducible exact Fo.ret
    | with_reducible exact Fo.no
    | with_reducible refine Fo.wh (fun cc ss => fo_SX12_rowsWithin_5 _ _ cc (fun c i h => by have hh := hP c i h; first | exact hh | (intro e; exact absurd e hh) | omega | (have := net_q (by assumption); omega) | (have := net_q (x := el 10 _) (by assumption); omega) | (have := find_q (by assumption); omega) | (have := finds_q (by assumption); omega)))
    | with_reducible refine Fo.bd ?_ (fun _ _ => ?_)
    | with_reducible refine Fo.ck (fun _ => ?_)
    | with_reducible refine Fo.ite ?_ ?_
    | with_reducible refine Fo.rd (fun _ => ?_)
    | with_reducible refine Fo.wr (fun c i h => by have hh := hP c i h; first | exact hh | (intro e; exact absurd e hh) | omega | (have := net_q (by assumption); omega) | (have := net_q (x := el 10 _) (by assumption); omega) | (have := find_q (by assumption); omega) | (have := finds_q (by assumption); omega)) (fun _ => ?_)
    | with_reducible refine Fo.cp (fun c i h => by have hh := hP c i h; first | exact hh | (intro e; exact absurd e hh) | omega | (have := net_q (by assumption); omega) | (have := net_q (x := el 10 _) (by assumption); omega)) (fun _ => ?_)
    | with_reducible refine Fo.oe ?_ (fun _ => ?_)
    | with_reducible refine Fo.se (fun _ => ?_) (fun _ => ?_)
set_option maxHeartbeats 4000000 in
theorem fo_SX12_says_s6_2 {P : Nat → Nat → Prop} {t : St} (c : Int32) (hP : ∀ c i, P c i → c ≠ 162 ∧ (c = 149 → i ≠ 25)) : Fo P t (SX12_says_s6_2 c t) := by
  unfold SX12_says_s6_2
  repeat' first
    | with_reducible exact Fo.ret
    | with_reducible exact Fo.no
    | with_reducible refine Fo.bd ?_ (fun _ _ => ?_)
    | with_reducible refine Fo.ck (fun _ => ?_)
    | with_reducible refine Fo.ite ?_ ?_
    | with_reducible refine Fo.rd (fun _ => ?_)
    | with_reducible refine Fo.wr (fun c i h => by have hh := hP c i h; first | exact hh | (obtain ⟨g0, g1⟩ := hh; and_intros <;> first | assumption | (intro e; exact absurd e (by assumption))) | omega | (have := net_q (by assumption); omega) | (have := net_q (x := el 10 _) (by assumption); omega) | (have := find_q (by assumption); omega) | (have := finds_q (by assumption); omega)) (fun _ => ?_)
    | with_reducible refine Fo.cp (fun c i h => by have hh := hP c i h; first | exact hh | (obtain ⟨g0, g1⟩ := hh; and_intros <;> first | assumption | (intro e; exact absurd e (by assumption))) | omega | (have := net_q (by assumption); omega) | (have := net_q (x := el 10 _) (by assumption); omega)) (fun _ => ?_)
    | with_reducible refine Fo.oe ?_ (fun _ => ?_)
    | with_reducible refine Fo.se (fun _ => ?_) (fun _ => ?_)
set_option maxHeartbeats 4000000 in
theorem fo_FX12_says_s6 {P : Nat → Nat → Prop} {t : St} (hP : ∀ c i, P c i → c ≠ 162 ∧ (c = 149 → i ≠ 25)) : Fo P t (FX12_says_s6 t) := by
  unfold FX12_says_s6
  repeat' first
    | with_reducible exact Fo.ret
    | with_reducible exact Fo.no
    | with_reducible refine Fo.wh (fun cc ss => fo_SX12_says_s6_2 cc (fun c i h => by have hh := hP c i h; first | exact hh | (obtain ⟨g0, g1⟩ := hh; and_intros <;> first | assumption | (intro e; exact absurd e (by assumption))) | omega | (have := net_q (by assumption); omega) | (have := net_q (x := el 10 _) (by assumption); omega) | (have := find_q (by assumption); omega) | (have := finds_q (by assumption); omega)))
    | with_reducible refine Fo.bd ?_ (fun _ _ => ?_)
    | with_reducible refine Fo.ck (fun _ => ?_)
    | with_reducible refine Fo.ite ?_ ?_
    | with_reducible refine Fo.rd (fun _ => ?_)
    | with_reducible refine Fo.wr (fun c i h => by have hh := hP c i h; first | exact hh | (obtain ⟨g0, g1⟩ := hh; and_intros <;> first | assumption | (intro e; exact absurd e (by assumption))) | omega | (have := net_q (by assumption); omega) | (have := net_q (x := el 10 _) (by assumption); omega) | (have := find_q (by assumption); omega) | (have := finds_q (by assumption); omega)) (fun _ => ?_)
    | with_reducible refine Fo.cp (fun c i h => by have hh := hP c i h; first | exact hh | (obtain ⟨g0, g1⟩ := hh; and_intros <;> first | assumption | (intro e; exact absurd e (by assumption))) | omega | (have := net_q (by assumption); omega) | (have := net_q (x := el 10 _) (by assumption); omega)) (fun _ => ?_)
    | with_reducible refine Fo.oe ?_ (fun _ => ?_)
    | with_reducible refine Fo.se (fun _ => ?_) (fun _ => ?_)
set_option maxHeartbeats 4000000 in
theorem fo_SX12_says_s7_2 {P : Nat → Nat → Prop} {t : St} (c : Int32) (hP : ∀ c i, P c i → c ≠ 162 ∧ (c = 149 → i ≠ 25)) : Fo P t (SX12_says_s7_2 c t) := by
  unfold SX12_says_s7_2
  repeat' first
    | with_reducible exact Fo.ret
    | with_reducible exact Fo.no
    | with_reducible refine Fo.bd ?_ (fun _ _ => ?_)
    | with_reducible refine Fo.ck (fun _ => ?_)
    | with_reducible refine Fo.ite ?_ ?_
    | with_reducible refine Fo.rd (fun _ => ?_)
    | with_reducible refine Fo.wr (fun c i h => by have hh := hP c i h; first | exact hh | (obtain ⟨g0, g1⟩ := hh; and_intros <;> first | assumption | (intro e; exact absurd e (by assumption))) | omega | (have := net_q (by assumption); omega) | (have := net_q (x := el 10 _) (by assumption); omega) | (have := find_q (by assumption); omega) | (have := finds_q (by assumption); omega)) (fun _ => ?_)
    | with_reducible refine Fo.cp (fun c i h => by have hh := hP c i h; first | exact hh | (obtain ⟨g0, g1⟩ := hh; and_intros <;> first | assumption | (intro e; exact absurd e (by assumption))) | omega | (have := net_q (by assumption); omega) | (have := net_q (x := el 10 _) (by assumption); omega)) (fun _ => ?_)
    | with_reducible refine Fo.oe ?_ (fun _ => ?_)
    | with_reducible refine Fo.se (fun _ => ?_) (fun _ => ?_)
set_option maxHeartbeats 4000000 in
theorem fo_FX12_says_s7 {P : Nat → Nat → Prop} {t : St} (hP : ∀ c i, P c i → c ≠ 162 ∧ (c = 149 → i ≠ 25)) : Fo P t (FX12_says_s7 t) := by
  unfold FX12_says_s7
  repeat' first
    | with_reducible exact Fo.ret
    | with_reducible exact Fo.no
    | with_reducible refine Fo.wh (fun cc ss => fo_SX12_says_s7_2 cc (fun c i h => by have hh := hP c i h; first | exact hh | (obtain ⟨g0, g1⟩ := hh; and_intros <;> first | assumption | (intro e; exact absurd e (by assumption))) | omega | (have := net_q (by assumption); omega) | (have := net_q (x := el 10 _) (by assumption); omega) | (have := find_q (by assumption); omega) | (have := finds_q (by assumption); omega)))
    | with_reducible refine Fo.bd ?_ (fun _ _ => ?_)
    | with_reducible refine Fo.ck (fun _ => ?_)
    | with_reducible refine Fo.ite ?_ ?_
    | with_reducible refine Fo.rd (fun _ => ?_)
    | with_reducible refine Fo.wr (fun c i h => by have hh := hP c i h; first | exact hh | (obtain ⟨g0, g1⟩ := hh; and_intros <;> first | assumption | (intro e; exact absurd e (by assumption))) | omega | (have := net_q (by assumption); omega) | (have := net_q (x := el 10 _) (by assumption); omega) | (have := find_q (by assumption); omega) | (have := finds_q (by assumption); omega)) (fun _ => ?_)
    | with_reducible refine Fo.cp (fun c i h => by have hh := hP c i h; first | exact hh | (obtain ⟨g0, g1⟩ := hh; and_intros <;> first | assumption | (intro e; exact absurd e (by assumption))) | omega | (have := net_q (by assumption); omega) | (have := net_q (x := el 10 _) (by assumption); omega)) (fun _ => ?_)
    | with_reducible refine Fo.oe ?_ (fun _ => ?_)
    | with_reducible refine Fo.se (fun _ => ?_) (fun _ => ?_)
set_option maxHeartbeats 4000000 in
theorem fo_SX12_says_s8_2 {P : Nat → Nat → Prop} {t : St} (c : Int32) (hP : ∀ c i, P c i → c ≠ 162 ∧ (c = 149 → i ≠ 25)) : Fo P t (SX12_says_s8_2 c t) := by
  unfold SX12_says_s8_2
  repeat' first
    | with_reducible exact Fo.ret
    | with_reducible exact Fo.no
    | with_reducible refine Fo.bd ?_ (fun _ _ => ?_)
    | with_reducible refine Fo.ck (fun _ => ?_)
    | with_reducible refine Fo.ite ?_ ?_
    | with_reducible refine Fo.rd (fun _ => ?_)
    | with_reducible refine Fo.wr (fun c i h => by have hh := hP c i h; first | exact hh | (obtain ⟨g0, g1⟩ := hh; and_intros <;> first | assumption | (intro e; exact absurd e (by assumption))) | omega | (have := net_q (by assumption); omega) | (have := net_q (x := el 10 _) (by assumption); omega) | (have := find_q (by assumption); omega) | (have := finds_q (by assumption); omega)) (fun _ => ?_)
    | with_reducible refine Fo.cp (fun c i h => by have hh := hP c i h; first | exact hh | (obtain ⟨g0, g1⟩ := hh; and_intros <;> first | assumption | (intro e; exact absurd e (by assumption))) | omega | (have := net_q (by assumption); omega) | (have := net_q (x := el 10 _) (by assumption); omega)) (fun _ => ?_)
    | with_reducible refine Fo.oe ?_ (fun _ => ?_)
    | with_reducible refine Fo.se (fun _ => ?_) (fun _ => ?_)
set_option maxHeartbeats 4000000 in
theorem fo_FX12_says_s8 {P : Nat → Nat → Prop} {t : St} (hP : ∀ c i, P c i → c ≠ 162 ∧ (c = 149 → i ≠ 25)) : Fo P t (FX12_says_s8 t) := by
  unfold FX12_says_s8
  repeat' first
    | with_reducible exact Fo.ret
    | with_reducible exact Fo.no
    | with_reducible refine Fo.wh (fun cc ss => fo_SX12_says_s8_2 cc (fun c i h => by have hh := hP c i h; first | exact hh | (obtain ⟨g0, g1⟩ := hh; and_intros <;> first | assumption | (intro e; exact absurd e (by assumption))) | omega | (have := net_q (by assumption); omega) | (have := net_q (x := el 10 _) (by assumption); omega) | (have := find_q (by assumption); omega) | (have := finds_q (by assumption); omega)))
    | with_reducible refine Fo.bd ?_ (fun _ _ => ?_)
    | with_reducible refine Fo.ck (fun _ => ?_)
    | with_reducible refine Fo.ite ?_ ?_
    | with_reducible refine Fo.rd (fun _ => ?_)
    | with_reducible refine Fo.wr (fun c i h => by have hh := hP c i h; first | exact hh | (obtain ⟨g0, g1⟩ := hh; and_intros <;> first | assumption | (intro e; exact absurd e (by assumption))) | omega | (have := net_q (by assumption); omega) | (have := net_q (x := el 10 _) (by assumption); omega) | (have := find_q (by assumption); omega) | (have := finds_q (by assumption); omega)) (fun _ => ?_)
    | with_reducible refine Fo.cp (fun c i h => by have hh := hP c i h; first | exact hh | (obtain ⟨g0, g1⟩ := hh; and_intros <;> first | assumption | (intro e; exact absurd e (by assumption))) | omega | (have := net_q (by assumption); omega) | (have := net_q (x := el 10 _) (by assumption); omega)) (fun _ => ?_)
    | with_reducible refine Fo.oe ?_ (fun _ => ?_)
    | with_reducible refine Fo.se (fun _ => ?_) (fun _ => ?_)
set_option maxHeartbeats 4000000 in
theorem fo_SX12_says_s9_2 {P : Nat → Nat → Prop} {t : St} (c : Int32) (hP : ∀ c i, P c i → c ≠ 162 ∧ (c = 149 → i ≠ 25)) : Fo P t (SX12_says_s9_2 c t) := by
  unfold SX12_says_s9_2
  repeat' first
    | with_reducible exact Fo.ret
    | with_reducible exact Fo.no
    | with_reducible refine Fo.bd ?_ (fun _ _ => ?_)
    | with_reducible refine Fo.ck (fun _ => ?_)
    | with_reducible refine Fo.ite ?_ ?_
    | with_reducible refine Fo.rd (fun _ => ?_)
    | with_reducible refine Fo.wr (fun c i h => by have hh := hP c i h; first | exact hh | (obtain ⟨g0, g1⟩ := hh; and_intros <;> first | assumption | (intro e; exact absurd e (by assumption))) | omega | (have := net_q (by assumption); omega) | (have := net_q (x := el 10 _) (by assumption); omega) | (have := find_q (by assumption); omega) | (have := finds_q (by assumption); omega)) (fun _ => ?_)
    | with_reducible refine Fo.cp (fun c i h => by have hh := hP c i h; first | exact hh | (obtain ⟨g0, g1⟩ := hh; and_intros <;> first | assumption | (intro e; exact absurd e (by assumption))) | omega | (have := net_q (by assumption); omega) | (have := net_q (x := el 10 _) (by assumption); omega)) (fun _ => ?_)
    | with_reducible refine Fo.oe ?_ (fun _ => ?_)
    | with_reducible refine Fo.se (fun _ => ?_) (fun _ => ?_)
set_option maxHeartbeats 4000000 in
theorem fo_FX12_says_s9 {P : Nat → Nat → Prop} {t : St} (hP : ∀ c i, P c i → c ≠ 162 ∧ (c = 149 → i ≠ 25)) : Fo P t (FX12_says_s9 t) := by
  unfold FX12_says_s9
  repeat' first
    | with_reducible exact Fo.ret
    | with_reducible exact Fo.no
    | with_reducible refine Fo.wh (fun cc ss => fo_SX12_says_s9_2 cc (fun c i h => by have hh := hP c i h; first | exact hh | (obtain ⟨g0, g1⟩ := hh; and_intros <;> first | assumption | (intro e; exact absurd e (by assumption))) | omega | (have := net_q (by assumption); omega) | (have := net_q (x := el 10 _) (by assumption); omega) | (have := find_q (by assumption); omega) | (have := finds_q (by assumption); omega)))
    | with_reducible refine Fo.bd ?_ (fun _ _ => ?_)
    | with_reducible refine Fo.ck (fun _ => ?_)
    | with_reducible refine Fo.ite ?_ ?_
    | with_reducible refine Fo.rd (fun _ => ?_)
    | with_reducible refine Fo.wr (fun c i h => by have hh := hP c i h; first | exact hh | (obtain ⟨g0, g1⟩ := hh; and_intros <;> first | assumption | (intro e; exact absurd e (by assumption))) | omega | (have := net_q (by assumption); omega) | (have := net_q (x := el 10 _) (by assumption); omega) | (have := find_q (by assumption); omega) | (have := finds_q (by assumption); omega)) (fun _ => ?_)
    | with_reducible refine Fo.cp (fun c i h => by have hh := hP c i h; first | exact hh | (obtain ⟨g0, g1⟩ := hh; and_intros <;> first | assumption | (intro e; exact absurd e (by assumption))) | omega | (have := net_q (by assumption); omega) | (have := net_q (x := el 10 _) (by assumption); omega)) (fun _ => ?_)
    | with_reducible refine Fo.oe ?_ (fun _ => ?_)
    | with_reducible refine Fo.se (fun _ => ?_) (fun _ => ?_)
set_option maxHeartbeats 4000000 in
theorem fo_SX12_says_s10_2 {P : Nat → Nat → Prop} {t : St} (c : Int32) (hP : ∀ c i, P c i → c ≠ 162 ∧ (c = 149 → i ≠ 25)) : Fo P t (SX12_says_s10_2 c t) := by
  unfold SX12_says_s10_2
  repeat' first
    | with_reducible exact Fo.ret
    | with_reducible exact Fo.no
    | with_reducible refine Fo.bd ?_ (fun _ _ => ?_)
    | with_reducible refine Fo.ck (fun _ => ?_)
    | with_reducible refine Fo.ite ?_ ?_
    | with_reducible refine Fo.rd (fun _ => ?_)
    | with_reducible refine Fo.wr (fun c i h => by have hh := hP c i h; first | exact hh | (obtain ⟨g0, g1⟩ := hh; and_intros <;> first | assumption | (intro e; exact absurd e (by assumption))) | omega | (have := net_q (by assumption); omega) | (have := net_q (x := el 10 _) (by assumption); omega) | (have := find_q (by assumption); omega) | (have := finds_q (by assumption); omega)) (fun _ => ?_)
    | with_reducible refine Fo.cp (fun c i h => by have hh := hP c i h; first | exact hh | (obtain ⟨g0, g1⟩ := hh; and_intros <;> first | assumption | (intro e; exact absurd e (by assumption))) | omega | (have := net_q (by assumption); omega) | (have := net_q (x := el 10 _) (by assumption); omega)) (fun _ => ?_)
    | with_reducible refine Fo.oe ?_ (fun _ => ?_)
    | with_reducible refine Fo.se (fun _ => ?_) (fun _ => ?_)
set_option maxHeartbeats 4000000 in
theorem fo_FX12_says_s10 {P : Nat → Nat → Prop} {t : St} (hP : ∀ c i, P c i → c ≠ 162 ∧ (c = 149 → i ≠ 25)) : Fo P t (FX12_says_s10 t) := by
  unfold FX12_says_s10
  repeat' first
    | with_reducible exact Fo.ret
    | with_reducible exact Fo.no
    | with_reducible refine Fo.wh (fun cc ss => fo_SX12_says_s10_2 cc (fun c i h => by have hh := hP c i h; first | exact hh | (obtain ⟨g0, g1⟩ := hh; and_intros <;> first | assumption | (intro e; exact absurd e (by assumption))) | omega | (have := net_q (by assumption); omega) | (have := net_q (x := el 10 _) (by assumption); omega) | (have := find_q (by assumption); omega) | (have := finds_q (by assumption); omega)))
    | with_reducible refine Fo.bd ?_ (fun _ _ => ?_)
    | with_reducible refine Fo.ck (fun _ => ?_)
    | with_reducible refine Fo.ite ?_ ?_
    | with_reducible refine Fo.rd (fun _ => ?_)
    | with_reducible refine Fo.wr (fun c i h => by have hh := hP c i h; first | exact hh | (obtain ⟨g0, g1⟩ := hh; and_intros <;> first | assumption | (intro e; exact absurd e (by assumption))) | omega | (have := net_q (by assumption); omega) | (have := net_q (x := el 10 _) (by assumption); omega) | (have := find_q (by assumption); omega) | (have := finds_q (by assumption); omega)) (fun _ => ?_)
    | with_reducible refine Fo.cp (fun c i h => by have hh := hP c i h; first | exact hh | (obtain ⟨g0, g1⟩ := hh; and_intros <;> first | assumption | (intro e; exact absurd e (by assumption))) | omega | (have := net_q (by assumption); omega) | (have := net_q (x := el 10 _) (by assumption); omega)) (fun _ => ?_)
    | with_reducible refine Fo.oe ?_ (fun _ => ?_)
    | with_reducible refine Fo.se (fun _ => ?_) (fun _ => ?_)
set_option maxHeartbeats 4000000 in
theorem fo_SX12_says_s11_2 {P : Nat → Nat → Prop} {t : St} (c : Int32) (hP : ∀ c i, P c i → c ≠ 162 ∧ (c = 149 → i ≠ 25)) : Fo P t (SX12_says_s11_2 c t) := by
  unfold SX12_says_s11_2
  repeat' first
    | with_reducible exact Fo.ret
    | with_reducible exact Fo.no
    | with_reducible refine Fo.bd ?_ (fun _ _ => ?_)
    | with_reducible refine Fo.ck (fun _ => ?_)
    | with_reducible refine Fo.ite ?_ ?_
    | with_reducible refine Fo.rd (fun _ => ?_)
    | with_reducible refine Fo.wr (fun c i h => by have hh := hP c i h; first | exact hh | (obtain ⟨g0, g1⟩ := hh; and_intros <;> first | assumption | (intro e; exact absurd e (by assumption))) | omega | (have := net_q (by assumption); omega) | (have := net_q (x := el 10 _) (by assumption); omega) | (have := find_q (by assumption); omega) | (have := finds_q (by assumption); omega)) (fun _ => ?_)
    | with_reducible refine Fo.cp (fun c i h => by have hh := hP c i h; first | exact hh | (obtain ⟨g0, g1⟩ := hh; and_intros <;> first | assumption | (intro e; exact absurd e (by assumption))) | omega | (have := net_q (by assumption); omega) | (have := net_q (x := el 10 _) (by assumption); omega)) (fun _ => ?_)
    | with_reducible refine Fo.oe ?_ (fun _ => ?_)
    | with_reducible refine Fo.se (fun _ => ?_) (fun _ => ?_)
set_option maxHeartbeats 4000000 in
theorem fo_FX12_says_s11 {P : Nat → Nat → Prop} {t : St} (hP : ∀ c i, P c i → c ≠ 162 ∧ (c = 149 → i ≠ 25)) : Fo P t (FX12_says_s11 t) := by
  unfold FX12_says_s11
  repeat' first
    | with_reducible exact Fo.ret
    | with_reducible exact Fo.no
    | with_reducible refine Fo.wh (fun cc ss => fo_SX12_says_s11_2 cc (fun c i h => by have hh := hP c i h; first | exact hh | (obtain ⟨g0, g1⟩ := hh; and_intros <;> first | assumption | (intro e; exact absurd e (by assumption))) | omega | (have := net_q (by assumption); omega) | (have := net_q (x := el 10 _) (by assumption); omega) | (have := find_q (by assumption); omega) | (have := finds_q (by assumption); omega)))
    | with_reducible refine Fo.bd ?_ (fun _ _ => ?_)
    | with_reducible refine Fo.ck (fun _ => ?_)
    | with_reducible refine Fo.ite ?_ ?_
    | with_reducible refine Fo.rd (fun _ => ?_)
    | with_reducible refine Fo.wr (fun c i h => by have hh := hP c i h; first | exact hh | (obtain ⟨g0, g1⟩ := hh; and_intros <;> first | assumption | (intro e; exact absurd e (by assumption))) | omega | (have := net_q (by assumption); omega) | (have := net_q (x := el 10 _) (by assumption); omega) | (have := find_q (by assumption); omega) | (have := finds_q (by assumption); omega)) (fun _ => ?_)
    | with_reducible refine Fo.cp (fun c i h => by have hh := hP c i h; first | exact hh | (obtain ⟨g0, g1⟩ := hh; and_intros <;> first | assumption | (intro e; exact absurd e (by assumption))) | omega | (have := net_q (by assumption); omega) | (have := net_q (x := el 10 _) (by assumption); omega)) (fun _ => ?_)
    | with_reducible refine Fo.oe ?_ (fun _ => ?_)
    | with_reducible refine Fo.se (fun _ => ?_) (fun _ => ?_)
set_option maxHeartbeats 4000000 in
theorem fo_SX12_says_s12_2 {P : Nat → Nat → Prop} {t : St} (c : Int32) (hP : ∀ c i, P c i → c ≠ 162 ∧ (c = 149 → i ≠ 25)) : Fo P t (SX12_says_s12_2 c t) := by
  unfold SX12_says_s12_2
  repeat' first
    | with_reducible exact Fo.ret
    | with_reducible exact Fo.no
    | with_reducible refine Fo.bd ?_ (fun _ _ => ?_)
    | with_reducible refine Fo.ck (fun _ => ?_)
    | with_reducible refine Fo.ite ?_ ?_
    | with_reducible refine Fo.rd (fun _ => ?_)
    | with_reducible refine Fo.wr (fun c i h => by have hh := hP c i h; first | exact hh | (obtain ⟨g0, g1⟩ := hh; and_intros <;> first | assumption | (intro e; exact absurd e (by assumption))) | omega | (have := net_q (by assumption); omega) | (have := net_q (x := el 10 _) (by assumption); omega) | (have := find_q (by assumption); omega) | (have := finds_q (by assumption); omega)) (fun _ => ?_)
    | with_reducible refine Fo.cp (fun c i h => by have hh := hP c i h; first | exact hh | (obtain ⟨g0, g1⟩ := hh; and_intros <;> first | assumption | (intro e; exact absurd e (by assumption))) | omega | (have := net_q (by assumption); omega) | (have := net_q (x := el 10 _) (by assumption); omega)) (fun _ => ?_)
    | with_reducible refine Fo.oe ?_ (fun _ => ?_)
    | with_reducible refine Fo.se (fun _ => ?_) (fun _ => ?_)
set_option maxHeartbeats 4000000 in
theorem fo_FX12_says_s12 {P : Nat → Nat → Prop} {t : St} (hP : ∀ c i, P c i → c ≠ 162 ∧ (c = 149 → i ≠ 25)) : Fo P t (FX12_says_s12 t) := by
  unfold FX12_says_s12
  repeat' first
    | with_reducible exact Fo.ret
    | with_reducible exact Fo.no
    | with_reducible refine Fo.wh (fun cc ss => fo_SX12_says_s12_2 cc (fun c i h => by have hh := hP c i h; first | exact hh | (obtain ⟨g0, g1⟩ := hh; and_intros <;> first | assumption | (intro e; exact absurd e (by assumption))) | omega | (have := net_q (by assumption); omega) | (have := net_q (x := el 10 _) (by assumption); omega) | (have := find_q (by assumption); omega) | (have := finds_q (by assumption); omega)))
    | with_reducible refine Fo.bd ?_ (fun _ _ => ?_)
    | with_reducible refine Fo.ck (fun _ => ?_)
    | with_reducible refine Fo.ite ?_ ?_
    | with_reducible refine Fo.rd (fun _ => ?_)
    | with_reducible refine Fo.wr (fun c i h => by have hh := hP c i h; first | exact hh | (obtain ⟨g0, g1⟩ := hh; and_intros <;> first | assumption | (intro e; exact absurd e (by assumption))) | omega | (have := net_q (by assumption); omega) | (have := net_q (x := el 10 _) (by assumption); omega) | (have := find_q (by assumption); omega) | (have := finds_q (by assumption); omega)) (fun _ => ?_)
    | with_reducible refine Fo.cp (fun c i h => by have hh := hP c i h; first | exact hh | (obtain ⟨g0, g1⟩ := hh; and_intros <;> first | assumption | (intro e; exact absurd e (by assumption))) | omega | (have := net_q (by assumption); omega) | (have := net_q (x := el 10 _) (by assumption); omega)) (fun _ => ?_)
    | with_reducible refine Fo.oe ?_ (fun _ => ?_)
    | with_reducible refine Fo.se (fun _ => ?_) (fun _ => ?_)
set_option maxHeartbeats 4000000 in
theorem fo_SX12_says_s13_2 {P : Nat → Nat → Prop} {t : St} (c : Int32) (hP : ∀ c i, P c i → c ≠ 162 ∧ (c = 149 → i ≠ 25)) : Fo P t (SX12_says_s13_2 c t) := by
  unfold SX12_says_s13_2
  repeat' first
    | with_reducible exact Fo.ret
    | with_reducible exact Fo.no
    | with_reducible refine Fo.bd ?_ (fun _ _ => ?_)
    | with_reducible refine Fo.ck (fun _ => ?_)
    | with_reducible refine Fo.ite ?_ ?_
    | with_reducible refine Fo.rd (fun _ => ?_)
    | with_reducible refine Fo.wr (fun c i h => by have hh := hP c i h; first | exact hh | (obtain ⟨g0, g1⟩ := hh; and_intros <;> first | assumption | (intro e; exact absurd e (by assumption))) | omega | (have := net_q (by assumption); omega) | (have := net_q (x := el 10 _) (by assumption); omega) | (have := find_q (by assumption); omega) | (have := finds_q (by assumption); omega)) (fun _ => ?_)
    | with_reducible refine Fo.cp (fun c i h => by have hh := hP c i h; first | exact hh | (obtain ⟨g0, g1⟩ := hh; and_intros <;> first | assumption | (intro e; exact absurd e (by assumption))) | omega | (have := net_q (by assumption); omega) | (have := net_q (x := el 10 _) (by assumption); omega)) (fun _ => ?_)
    | with_reducible refine Fo.oe ?_ (fun _ => ?_)
    | with_reducible refine Fo.se (fun _ => ?_) (fun _ => ?_)
set_option maxHeartbeats 4000000 in
theorem fo_FX12_says_s13 {P : Nat → Nat → Prop} {t : St} (hP : ∀ c i, P c i → c ≠ 162 ∧ (c = 149 → i ≠ 25)) : Fo P t (FX12_says_s13 t) := by
  unfold FX12_says_s13
  repeat' first
    | with_reducible exact Fo.ret
    | with_reducible exact Fo.no
    | with_reducible refine Fo.wh (fun cc ss => fo_SX12_says_s13_2 cc (fun c i h => by have hh := hP c i h; first | exact hh | (obtain ⟨g0, g1⟩ := hh; and_intros <;> first | assumption | (intro e; exact absurd e (by assumption))) | omega | (have := net_q (by assumption); omega) | (have := net_q (x := el 10 _) (by assumption); omega) | (have := find_q (by assumption); omega) | (have := finds_q (by assumption); omega)))
    | with_reducible refine Fo.bd ?_ (fun _ _ => ?_)
    | with_reducible refine Fo.ck (fun _ => ?_)
    | with_reducible refine Fo.ite ?_ ?_
    | with_reducible refine Fo.rd (fun _ => ?_)
    | with_reducible refine Fo.wr (fun c i h => by have hh := hP c i h; first | exact hh | (obtain ⟨g0, g1⟩ := hh; and_intros <;> first | assumption | (intro e; exact absurd e (by assumption))) | omega | (have := net_q (by assumption); omega) | (have := net_q (x := el 10 _) (by assumption); omega) | (have := find_q (by assumption); omega) | (have := finds_q (by assumption); omega)) (fun _ => ?_)
    | with_reducible refine Fo.cp (fun c i h => by have hh := hP c i h; first | exact hh | (obtain ⟨g0, g1⟩ := hh; and_intros <;> first | assumption | (intro e; exact absurd e (by assumption))) | omega | (have := net_q (by assumption); omega) | (have := net_q (x := el 10 _) (by assumption); omega)) (fun _ => ?_)
    | with_reducible refine Fo.oe ?_ (fun _ => ?_)
    | with_reducible refine Fo.se (fun _ => ?_) (fun _ => ?_)
set_option maxHeartbeats 4000000 in
theorem fo_SX12_says_s14_2 {P : Nat → Nat → Prop} {t : St} (c : Int32) (hP : ∀ c i, P c i → c ≠ 162 ∧ (c = 149 → i ≠ 25)) : Fo P t (SX12_says_s14_2 c t) := by
  unfold SX12_says_s14_2
  repeat' first
    | with_reducible exact Fo.ret
    | with_reducible exact Fo.no
    | with_reducible refine Fo.bd ?_ (fun _ _ => ?_)
    | with_reducible refine Fo.ck (fun _ => ?_)
    | with_reducible refine Fo.ite ?_ ?_
    | with_reducible refine Fo.rd (fun _ => ?_)
    | with_reducible refine Fo.wr (fun c i h => by have hh := hP c i h; first | exact hh | (obtain ⟨g0, g1⟩ := hh; and_intros <;> first | assumption | (intro e; exact absurd e (by assumption))) | omega | (have := net_q (by assumption); omega) | (have := net_q (x := el 10 _) (by assumption); omega) | (have := find_q (by assumption); omega) | (have := finds_q (by assumption); omega)) (fun _ => ?_)
    | with_reducible refine Fo.cp (fun c i h => by have hh := hP c i h; first | exact hh | (obtain ⟨g0, g1⟩ := hh; and_intros <;> first | assumption | (intro e; exact absurd e (by assumption))) | omega | (have := net_q (by assumption); omega) | (have := net_q (x := el 10 _) (by assumption); omega)) (fun _ => ?_)
    | with_reducible refine Fo.oe ?_ (fun _ => ?_)
    | with_reducible refine Fo.se (fun _ => ?_) (fun _ => ?_)
set_option maxHeartbeats 4000000 in
theorem fo_FX12_says_s14 {P : Nat → Nat → Prop} {t : St} (hP : ∀ c i, P c i → c ≠ 162 ∧ (c = 149 → i ≠ 25)) : Fo P t (FX12_says_s14 t) := by
  unfold FX12_says_s14
  repeat' first
    | with_reducible exact Fo.ret
    | with_reducible exact Fo.no
    | with_reducible refine Fo.wh (fun cc ss => fo_SX12_says_s14_2 cc (fun c i h => by have hh := hP c i h; first | exact hh | (obtain ⟨g0, g1⟩ := hh; and_intros <;> first | assumption | (intro e; exact absurd e (by assumption))) | omega | (have := net_q (by assumption); omega) | (have := net_q (x := el 10 _) (by assumption); omega) | (have := find_q (by assumption); omega) | (have := finds_q (by assumption); omega)))
    | with_reducible refine Fo.bd ?_ (fun _ _ => ?_)
    | with_reducible refine Fo.ck (fun _ => ?_)
    | with_reducible refine Fo.ite ?_ ?_
    | with_reducible refine Fo.rd (fun _ => ?_)
    | with_reducible refine Fo.wr (fun c i h => by have hh := hP c i h; first | exact hh | (obtain ⟨g0, g1⟩ := hh; and_intros <;> first | assumption | (intro e; exact absurd e (by assumption))) | omega | (have := net_q (by assumption); omega) | (have := net_q (x := el 10 _) (by assumption); omega) | (have := find_q (by assumption); omega) | (have := finds_q (by assumption); omega)) (fun _ => ?_)
    | with_reducible refine Fo.cp (fun c i h => by have hh := hP c i h; first | exact hh | (obtain ⟨g0, g1⟩ := hh; and_intros <;> first | assumption | (intro e; exact absurd e (by assumption))) | omega | (have := net_q (by assumption); omega) | (have := net_q (x := el 10 _) (by assumption); omega)) (fun _ => ?_)
    | with_reducible refine Fo.oe ?_ (fun _ => ?_)
    | with_reducible refine Fo.se (fun _ => ?_) (fun _ => ?_)
set_option maxHeartbeats 4000000 in
theorem fo_FX12_saysNumber_b {P : Nat → Nat → Prop} {t : St} (rec : Int32 → St → Option ((Unit) × St)) (a : Int32) (hrec : ∀ q0 s, Fo P s (rec q0 s)) (hP : ∀ c i, P c i → c ≠ 162 ∧ (c = 149 → i ≠ 25)) : Fo P t (FX12_saysNumber_b rec a t) := by
  unfold FX12_saysNumber_b
  repeat' first
    | with_reducible exact Fo.ret
    | with_reducible exact Fo.no
    | with_reducible exact hrec _ _
    | with_reducible refine Fo.bd ?_ (fun _ _ => ?_)
    | with_reducible refine Fo.ck (fun _ => ?_)
    | with_reducible refine Fo.ite ?_ ?_
    | with_reducible refine Fo.rd (fun _ => ?_)
    | with_reducible refine Fo.wr (fun c i h => by have hh := hP c i h; first | exact hh | (obtain ⟨g0, g1⟩ := hh; and_intros <;> first | assumption | (intro e; exact absurd e (by assumption))) | omega | (have := net_q (by assumption); omega) | (have := net_q (x := el 10 _) (by assumption); omega) | (have := find_q (by assumption); omega) | (have := finds_q (by assumption); omega)) (fun _ => ?_)
    | with_reducible refine Fo.cp (fun c i h => by have hh := hP c i h; first | exact hh | (obtain ⟨g0, g1⟩ := hh; and_intros <;> first | assumption | (intro e; exact absurd e (by assumption))) | omega | (have := net_q (by assumption); omega) | (have := net_q (x := el 10 _) (by assumption); omega)) (fun _ => ?_)
    | with_reducible refine Fo.oe ?_ (fun _ => ?_)
    | with_reducible refine Fo.se (fun _ => ?_) (fun _ => ?_)
theorem fo_FX12_saysNumber {P : Nat → Nat → Prop} {t : St} (k : Nat) (q0 : Int32) (hP : ∀ c i, P c i → c ≠ 162 ∧ (c = 149 → i ≠ 25)) : Fo P t (FX12_saysNumber k q0 t) := by
  induction k generalizing t q0 with
  | zero => exact Fo.no
  | succ k ih => exact fo_FX12_saysNumber_b _ _ (fun q0 s => ih q0) hP
set_option maxHeartbeats 4000000 in
theorem fo_SX12_saysNet_34 {P : Nat → Nat → Prop} {t : St} (w1 : Int32) (w3 : Int32) (c : Int32 × Int32) (hP : ∀ c i, P c i → c ≠ 162 ∧ (c = 149 → i ≠ 25)) : Fo P t (SX12_saysNet_34 w1 w3 c t) := by
  unfold SX12_saysNet_34
  repeat' first
    | with_reducible exact Fo.ret
    | with_reducible exact Fo.no
    | with_reducible exact fo_FX12_points _
    | with_reducible exact fo_FX12_weight _ _ _
    | with_reducible exact fo_FX12_says_s8 (fun c i h => by have hh := hP c i h; first | exact hh | (obtain ⟨g0, g1⟩ := hh; and_intros <;> first | assumption | (intro e; exact absurd e (by assumption))) | omega | (have := net_q (by assumption); omega) | (have := net_q (x := el 10 _) (by assumption); omega) | (have := find_q (by assumption); omega) | (have := finds_q (by assumption); omega))
    | with_reducible exact fo_FX12_saysNumber _ _ (fun c i h => by have hh := hP c i h; first | exact hh | (obtain ⟨g0, g1⟩ := hh; and_intros <;> first | assumption | (intro e; exact absurd e (by assumption))) | omega | (have := net_q (by assumption); omega) | (have := net_q (x := el 10 _) (by assumption); omega) | (have := find_q (by assumption); omega) | (have := finds_q (by assumption); omega))
    | with_reducible exact fo_FX12_says_s9 (fun c i h => by have hh := hP c i h; first | exact hh | (obtain ⟨g0, g1⟩ := hh; and_intros <;> first | assumption | (intro e; exact absurd e (by assumption))) | omega | (have := net_q (by assumption); omega) | (have := net_q (x := el 10 _) (by assumption); omega) | (have := find_q (by assumption); omega) | (have := finds_q (by assumption); omega))
    | with_reducible exact fo_FX12_says_s10 (fun c i h => by have hh := hP c i h; first | exact hh | (obtain ⟨g0, g1⟩ := hh; and_intros <;> first | assumption | (intro e; exact absurd e (by assumption))) | omega | (have := net_q (by assumption); omega) | (have := net_q (x := el 10 _) (by assumption); omega) | (have := find_q (by assumption); omega) | (have := finds_q (by assumption); omega))
    | with_reducible exact fo_FX12_says_s7 (fun c i h => by have hh := hP c i h; first | exact hh | (obtain ⟨g0, g1⟩ := hh; and_intros <;> first | assumption | (intro e; exact absurd e (by assumption))) | omega | (have := net_q (by assumption); omega) | (have := net_q (x := el 10 _) (by assumption); omega) | (have := find_q (by assumption); omega) | (have := finds_q (by assumption); omega))
    | with_reducible refine Fo.bd ?_ (fun _ _ => ?_)
    | with_reducible refine Fo.ck (fun _ => ?_)
    | with_reducible refine Fo.ite ?_ ?_
    | with_reducible refine Fo.rd (fun _ => ?_)
    | with_reducible refine Fo.wr (fun c i h => by have hh := hP c i h; first | exact hh | (obtain ⟨g0, g1⟩ := hh; and_intros <;> first | assumption | (intro e; exact absurd e (by assumption))) | omega | (have := net_q (by assumption); omega) | (have := net_q (x := el 10 _) (by assumption); omega) | (have := find_q (by assumption); omega) | (have := finds_q (by assumption); omega)) (fun _ => ?_)
    | with_reducible refine Fo.cp (fun c i h => by have hh := hP c i h; first | exact hh | (obtain ⟨g0, g1⟩ := hh; and_intros <;> first | assumption | (intro e; exact absurd e (by assumption))) | omega | (have := net_q (by assumption); omega) | (have := net_q (x := el 10 _) (by assumption); omega)) (fun _ => ?_)
    | with_reducible refine Fo.oe ?_ (fun _ => ?_)
    | with_reducible refine Fo.se (fun _ => ?_) (fun _ => ?_)
set_option maxHeartbeats 4000000 in
theorem fo_SX12_saysNet_20 {P : Nat → Nat → Prop} {t : St} (w1 : Int32) (c : Int32 × Int32) (hP : ∀ c i, P c i → c ≠ 162 ∧ (c = 149 → i ≠ 25)) : Fo P t (SX12_saysNet_20 w1 c t) := by
  unfold SX12_saysNet_20
  repeat' first
    | with_reducible exact Fo.ret
    | with_reducible exact Fo.no
    | with_reducible exact fo_FX12_points _
    | with_reducible refine Fo.wh (fun cc ss => fo_SX12_saysNet_34 _ _ cc (fun c i h => by have hh := hP c i h; first | exact hh | (obtain ⟨g0, g1⟩ := hh; and_intros <;> first | assumption | (intro e; exact absurd e (by assumption))) | omega | (have := net_q (by assumption); omega) | (have := net_q (x := el 10 _) (by assumption); omega) | (have := find_q (by assumption); omega) | (have := finds_q (by assumption); omega)))
    | with_reducible refine Fo.bd ?_ (fun _ _ => ?_)
    | with_reducible refine Fo.ck (fun _ => ?_)
    | with_reducible refine Fo.ite ?_ ?_
    | with_reducible refine Fo.rd (fun _ => ?_)
    | with_reducible refine Fo.wr (fun c i h => by have hh := hP c i h; first | exact hh | (obtain ⟨g0, g1⟩ := hh; and_intros <;> first | assumption | (intro e; exact absurd e (by assumption))) | omega | (have := net_q (by assumption); omega) | (have := net_q (x := el 10 _) (by assumption); omega) | (have := find_q (by assumption); omega) | (have := finds_q (by assumption); omega)) (fun _ => ?_)
    | with_reducible refine Fo.cp (fun c i h => by have hh := hP c i h; first | exact hh | (obtain ⟨g0, g1⟩ := hh; and_intros <;> first | assumption | (intro e; exact absurd e (by assumption))) | omega | (have := net_q (by assumption); omega) | (have := net_q (x := el 10 _) (by assumption); omega)) (fun _ => ?_)
    | with_reducible refine Fo.oe ?_ (fun _ => ?_)
    | with_reducible refine Fo.se (fun _ => ?_) (fun _ => ?_)
set_option maxHeartbeats 4000000 in
theorem fo_SX12_saysNet_147 {P : Nat → Nat → Prop} {t : St} (w1 : Int32) (c : Int32) (hP : ∀ c i, P c i → c ≠ 162 ∧ (c = 149 → i ≠ 25)) : Fo P t (SX12_saysNet_147 w1 c t) := by
  unfold SX12_saysNet_147
  repeat' first
    | with_reducible exact Fo.ret
    | with_reducible exact Fo.no
    | with_reducible exact fo_FX12_points _
    | with_reducible exact fo_FX12_at _ _
    | with_reducible exact fo_FX12_saysNumber _ _ (fun c i h => by have hh := hP c i h; first | exact hh | (obtain ⟨g0, g1⟩ := hh; and_intros <;> first | assumption | (intro e; exact absurd e (by assumption))) | omega | (have := net_q (by assumption); omega) | (have := net_q (x := el 10 _) (by assumption); omega) | (have := find_q (by assumption); omega) | (have := finds_q (by assumption); omega))
    | with_reducible refine Fo.bd ?_ (fun _ _ => ?_)
    | with_reducible refine Fo.ck (fun _ => ?_)
    | with_reducible refine Fo.ite ?_ ?_
    | with_reducible refine Fo.rd (fun _ => ?_)
    | with_reducible refine Fo.wr (fun c i h => by have hh := hP c i h; first | exact hh | (obtain ⟨g0, g1⟩ := hh; and_intros <;> first | assumption | (intro e; exact absurd e (by assumption))) | omega | (have := net_q (by assumption); omega) | (have := net_q (x := el 10 _) (by assumption); omega) | (have := find_q (by assumption); omega) | (have := finds_q (by assumption); omega)) (fun _ => ?_)
    | with_reducible refine Fo.cp (fun c i h => by have hh := hP c i h; first | exact hh | (obtain ⟨g0, g1⟩ := hh; and_intros <;> first | assumption | (intro e; exact absurd e (by assumption))) | omega | (have := net_q (by assumption); omega) | (have := net_q (x := el 10 _) (by assumption); omega)) (fun _ => ?_)
    | with_reducible refine Fo.oe ?_ (fun _ => ?_)
    | with_reducible refine Fo.se (fun _ => ?_) (fun _ => ?_)
set_option maxHeartbeats 4000000 in
theorem fo_FX12_saysNet {P : Nat → Nat → Prop} {t : St} (a : Int32) (hP : ∀ c i, P c i → c ≠ 162 ∧ (c = 149 → i ≠ 25)) : Fo P t (FX12_saysNet a t) := by
  unfold FX12_saysNet
  repeat' first
    | with_reducible exact Fo.ret
    | with_reducible exact Fo.no
    | with_reducible exact fo_FX12_says_s6 (fun c i h => by have hh := hP c i h; first | exact hh | (obtain ⟨g0, g1⟩ := hh; and_intros <;> first | assumption | (intro e; exact absurd e (by assumption))) | omega | (have := net_q (by assumption); omega) | (have := net_q (x := el 10 _) (by assumption); omega) | (have := find_q (by assumption); omega) | (have := finds_q (by assumption); omega))
    | with_reducible exact fo_FX12_points _
    | with_reducible exact fo_FX12_saysNumber _ _ (fun c i h => by have hh := hP c i h; first | exact hh | (obtain ⟨g0, g1⟩ := hh; and_intros <;> first | assumption | (intro e; exact absurd e (by assumption))) | omega | (have := net_q (by assumption); omega) | (have := net_q (x := el 10 _) (by assumption); omega) | (have := find_q (by assumption); omega) | (have := finds_q (by assumption); omega))
    | with_reducible refine Fo.wh (fun cc ss => fo_SX12_saysNet_20 _ cc (fun c i h => by have hh := hP c i h; first | exact hh | (obtain ⟨g0, g1⟩ := hh; and_intros <;> first | assumption | (intro e; exact absurd e (by assumption))) | omega | (have := net_q (by assumption); omega) | (have := net_q (x := el 10 _) (by assumption); omega) | (have := find_q (by assumption); omega) | (have := finds_q (by assumption); omega)))
    | with_reducible exact fo_FX12_says_s11 (fun c i h => by have hh := hP c i h; first | exact hh | (obtain ⟨g0, g1⟩ := hh; and_intros <;> first | assumption | (intro e; exact absurd e (by assumption))) | omega | (have := net_q (by assumption); omega) | (have := net_q (x := el 10 _) (by assumption); omega) | (have := find_q (by assumption); omega) | (have := finds_q (by assumption); omega))
    | with_reducible refine Fo.wh (fun cc ss => fo_SX12_saysNet_147 _ cc (fun c i h => by have hh := hP c i h; first | exact hh | (obtain ⟨g0, g1⟩ := hh; and_intros <;> first | assumption | (intro e; exact absurd e (by assumption))) | omega | (have := net_q (by assumption); omega) | (have := net_q (x := el 10 _) (by assumption); omega) | (have := find_q (by assumption); omega) | (have := finds_q (by assumption); omega)))
    | with_reducible exact fo_FX12_says_s12 (fun c i h => by have hh := hP c i h; first | exact hh | (obtain ⟨g0, g1⟩ := hh; and_intros <;> first | assumption | (intro e; exact absurd e (by assumption))) | omega | (have := net_q (by assumption); omega) | (have := net_q (x := el 10 _) (by assumption); omega) | (have := find_q (by assumption); omega) | (have := finds_q (by assumption); omega))
    | with_reducible refine Fo.bd ?_ (fun _ _ => ?_)
    | with_reducible refine Fo.ck (fun _ => ?_)
    | with_reducible refine Fo.ite ?_ ?_
    | with_reducible refine Fo.rd (fun _ => ?_)
    | with_reducible refine Fo.wr (fun c i h => by have hh := hP c i h; first | exact hh | (obtain ⟨g0, g1⟩ := hh; and_intros <;> first | assumption | (intro e; exact absurd e (by assumption))) | omega | (have := net_q (by assumption); omega) | (have := net_q (x := el 10 _) (by assumption); omega) | (have := find_q (by assumption); omega) | (have := finds_q (by assumption); omega)) (fun _ => ?_)
    | with_reducible refine Fo.cp (fun c i h => by have hh := hP c i h; first | exact hh | (obtain ⟨g0, g1⟩ := hh; and_intros <;> first | assumption | (intro e; exact absurd e (by assumption))) | omega | (have := net_q (by assumption); omega) | (have := net_q (x := el 10 _) (by assumption); omega)) (fun _ => ?_)
    | with_reducible refine Fo.oe ?_ (fun _ => ?_)
    | with_reducible refine Fo.se (fun _ => ?_) (fun _ => ?_)
set_option maxHeartbeats 4000000 in
theorem fo_FX12_split {P : Nat → Nat → Prop} {t : St} (a : Int32) (b : Int32) (c : Int32) : Fo P t (FX12_split a b c t) := by
  unfold FX12_split
  repeat' first
    | with_reducible exact Fo.ret
    | with_reducible exact Fo.no
    | with_reducible exact fo_FX12_isNet _
    | with_reducible exact fo_FX12_points _
    | with_reducible exact fo_FX12_in _ _ _
    | with_reducible exact fo_FX12_splitOf _ _ _
    | with_reducible refine Fo.bd ?_ (fun _ _ => ?_)
    | with_reducible refine Fo.ck (fun _ => ?_)
    | with_reducible refine Fo.ite ?_ ?_
    | with_reducible refine Fo.rd (fun _ => ?_)
    | with_reducible refine Fo.oe ?_ (fun _ => ?_)
    | with_reducible refine Fo.se (fun _ => ?_) (fun _ => ?_)
set_option maxHeartbeats 4000000 in
theorem fo_FX12_swaps {P : Nat → Nat → Prop} {t : St} (a : Int32) (b : Int32) (c : Int32) (hP : ∀ c i, P c i → c ≠ 150 ∧ c ≠ 151 ∧ c ≠ 152 ∧ c ≠ 154 ∧ (c = 149 → i ≠ 3)) : Fo P t (FX12_swaps a b c t) := by
  unfold FX12_swaps
  repeat' first
    | with_reducible exact Fo.ret
    | with_reducible exact Fo.no
    | with_reducible exact fo_FX12_isPoint _ _
    | with_reducible exact fo_FX12_at _ _
    | with_reducible exact fo_FX12_laysRow _ (fun c i h => by have hh := hP c i h; first | exact hh | (obtain ⟨g0, g1, g2, g3, g4⟩ := hh; and_intros <;> first | assumption | (intro e; exact absurd e (by assumption))) | omega | (have := net_q (by assumption); omega) | (have := net_q (x := el 10 _) (by assumption); omega) | (have := find_q (by assumption); omega) | (have := finds_q (by assumption); omega))
    | with_reducible exact fo_FX12_exchanges _ _ (fun c i h => by have hh := hP c i h; first | exact hh | (obtain ⟨g0, g1, g2, g3, g4⟩ := hh; and_intros <;> first | assumption | (intro e; exact absurd e (by assumption))) | omega | (have := net_q (by assumption); omega) | (have := net_q (x := el 10 _) (by assumption); omega) | (have := find_q (by assumption); omega) | (have := finds_q (by assumption); omega))
    | with_reducible exact fo_FX12_takesRow _ (fun c i h => by have hh := hP c i h; first | exact hh | (obtain ⟨g0, g1, g2, g3, g4⟩ := hh; and_intros <;> first | assumption | (intro e; exact absurd e (by assumption))) | omega | (have := net_q (by assumption); omega) | (have := net_q (x := el 10 _) (by assumption); omega) | (have := find_q (by assumption); omega) | (have := finds_q (by assumption); omega))
    | with_reducible refine Fo.bd ?_ (fun _ _ => ?_)
    | with_reducible refine Fo.ck (fun _ => ?_)
    | with_reducible refine Fo.ite ?_ ?_
    | with_reducible refine Fo.rd (fun _ => ?_)
    | with_reducible refine Fo.wr (fun c i h => by have hh := hP c i h; first | exact hh | (obtain ⟨g0, g1, g2, g3, g4⟩ := hh; and_intros <;> first | assumption | (intro e; exact absurd e (by assumption))) | omega | (have := net_q (by assumption); omega) | (have := net_q (x := el 10 _) (by assumption); omega) | (have := find_q (by assumption); omega) | (have := finds_q (by assumption); omega)) (fun _ => ?_)
    | with_reducible refine Fo.cp (fun c i h => by have hh := hP c i h; first | exact hh | (obtain ⟨g0, g1, g2, g3, g4⟩ := hh; and_intros <;> first | assumption | (intro e; exact absurd e (by assumption))) | omega | (have := net_q (by assumption); omega) | (have := net_q (x := el 10 _) (by assumption); omega)) (fun _ => ?_)
    | with_reducible refine Fo.oe ?_ (fun _ => ?_)
    | with_reducible refine Fo.se (fun _ => ?_) (fun _ => ?_)
set_option maxHeartbeats 4000000 in
theorem fo_SX12_takes_26 {P : Nat → Nat → Prop} {t : St} (w1 : Int32) (c : Int32) (hP : ∀ c i, P c i → c ≠ 154) : Fo P t (SX12_takes_26 w1 c t) := by
  unfold SX12_takes_26
  repeat' first
    | with_reducible exact Fo.ret
    | with_reducible exact Fo.no
    | with_reducible exact fo_FX12_points _
    | with_reducible refine Fo.bd ?_ (fun _ _ => ?_)
    | with_reducible refine Fo.ck (fun _ => ?_)
    | with_reducible refine Fo.ite ?_ ?_
    | with_reducible refine Fo.rd (fun _ => ?_)
    | with_reducible refine Fo.wr (fun c i h => by have hh := hP c i h; first | exact hh | (intro e; exact absurd e hh) | omega | (have := net_q (by assumption); omega) | (have := net_q (x := el 10 _) (by assumption); omega) | (have := find_q (by assumption); omega) | (have := finds_q (by assumption); omega)) (fun _ => ?_)
    | with_reducible refine Fo.cp (fun c i h => by have hh := hP c i h; first | exact hh | (intro e; exact absurd e hh) | omega | (have := net_q (by assumption); omega) | (have := net_q (x := el 10 _) (by assumption); omega)) (fun _ => ?_)
    | with_reducible refine Fo.oe ?_ (fun _ => ?_)
    | with_reducible refine Fo.se (fun _ => ?_) (fun _ => ?_)
set_option maxHeartbeats 4000000 in
theorem fo_FX12_takes {P : Nat → Nat → Prop} {t : St} (a : Int32) (b : Int32) (hP : ∀ c i, P c i → c ≠ 150 ∧ c ≠ 151 ∧ c ≠ 152 ∧ c ≠ 154 ∧ c ≠ 155 ∧ c ≠ 157 ∧ c ≠ 158 ∧ c ≠ 159 ∧ (c = 149 → i ≠ 3) ∧ (c = 149 → i ≠ 17) ∧ (c = 149 → i ≠ 18) ∧ (c = 149 → i ≠ 19)) : Fo P t (FX12_takes a b t) := by
  unfold FX12_takes
  repeat' first
    | with_reducible exact Fo.ret
    | with_reducible exact Fo.no
    | with_reducible exact fo_FX12_isNet _
    | with_reducible exact fo_FX12_isMeasure _
    | with_reducible exact fo_FX12_laysBest _ _ (fun c i h => by have hh := hP c i h; first | exact hh | (obtain ⟨g0, g1, g2, g3, g4, g5, g6, g7, g8, g9, g10, g11⟩ := hh; and_intros <;> first | assumption | (intro e; exact absurd e (by assumption))) | omega | (have := net_q (by assumption); omega) | (have := net_q (x := el 10 _) (by assumption); omega) | (have := find_q (by assumption); omega) | (have := finds_q (by assumption); omega))
    | with_reducible refine Fo.wh (fun cc ss => fo_SX12_takes_26 _ cc (fun c i h => by have hh := hP c i h; first | exact hh | (obtain ⟨g0, g1, g2, g3, g4, g5, g6, g7, g8, g9, g10, g11⟩ := hh; and_intros <;> first | assumption | (intro e; exact absurd e (by assumption))) | omega | (have := net_q (by assumption); omega) | (have := net_q (x := el 10 _) (by assumption); omega) | (have := find_q (by assumption); omega) | (have := finds_q (by assumption); omega)))
    | with_reducible exact fo_FX12_takesRow _ (fun c i h => by have hh := hP c i h; first | exact hh | (obtain ⟨g0, g1, g2, g3, g4, g5, g6, g7, g8, g9, g10, g11⟩ := hh; and_intros <;> first | assumption | (intro e; exact absurd e (by assumption))) | omega | (have := net_q (by assumption); omega) | (have := net_q (x := el 10 _) (by assumption); omega) | (have := find_q (by assumption); omega) | (have := finds_q (by assumption); omega))
    | with_reducible refine Fo.bd ?_ (fun _ _ => ?_)
    | with_reducible refine Fo.ck (fun _ => ?_)
    | with_reducible refine Fo.ite ?_ ?_
    | with_reducible refine Fo.rd (fun _ => ?_)
    | with_reducible refine Fo.wr (fun c i h => by have hh := hP c i h; first | exact hh | (obtain ⟨g0, g1, g2, g3, g4, g5, g6, g7, g8, g9, g10, g11⟩ := hh; and_intros <;> first | assumption | (intro e; exact absurd e (by assumption))) | omega | (have := net_q (by assumption); omega) | (have := net_q (x := el 10 _) (by assumption); omega) | (have := find_q (by assumption); omega) | (have := finds_q (by assumption); omega)) (fun _ => ?_)
    | with_reducible refine Fo.cp (fun c i h => by have hh := hP c i h; first | exact hh | (obtain ⟨g0, g1, g2, g3, g4, g5, g6, g7, g8, g9, g10, g11⟩ := hh; and_intros <;> first | assumption | (intro e; exact absurd e (by assumption))) | omega | (have := net_q (by assumption); omega) | (have := net_q (x := el 10 _) (by assumption); omega)) (fun _ => ?_)
    | with_reducible refine Fo.oe ?_ (fun _ => ?_)
    | with_reducible refine Fo.se (fun _ => ?_) (fun _ => ?_)
set_option maxHeartbeats 4000000 in
theorem fo_SX12_tell_42 {P : Nat → Nat → Prop} {t : St} (w1 : Int32) (c : Int32) (hP : ∀ c i, P c i → c ≠ 162 ∧ (c = 149 → i ≠ 25)) : Fo P t (SX12_tell_42 w1 c t) := by
  unfold SX12_tell_42
  repeat' first
    | with_reducible exact Fo.ret
    | with_reducible exact Fo.no
    | with_reducible exact fo_FX12_points _
    | with_reducible exact fo_FX12_says_s13 (fun c i h => by have hh := hP c i h; first | exact hh | (obtain ⟨g0, g1⟩ := hh; and_intros <;> first | assumption | (intro e; exact absurd e (by assumption))) | omega | (have := net_q (by assumption); omega) | (have := net_q (x := el 10 _) (by assumption); omega) | (have := find_q (by assumption); omega) | (have := finds_q (by assumption); omega))
    | with_reducible exact fo_FX12_priceOf _ _ _
    | with_reducible exact fo_FX12_saysNumber _ _ (fun c i h => by have hh := hP c i h; first | exact hh | (obtain ⟨g0, g1⟩ := hh; and_intros <;> first | assumption | (intro e; exact absurd e (by assumption))) | omega | (have := net_q (by assumption); omega) | (have := net_q (x := el 10 _) (by assumption); omega) | (have := find_q (by assumption); omega) | (have := finds_q (by assumption); omega))
    | with_reducible exact fo_FX12_says_s14 (fun c i h => by have hh := hP c i h; first | exact hh | (obtain ⟨g0, g1⟩ := hh; and_intros <;> first | assumption | (intro e; exact absurd e (by assumption))) | omega | (have := net_q (by assumption); omega) | (have := net_q (x := el 10 _) (by assumption); omega) | (have := find_q (by assumption); omega) | (have := finds_q (by assumption); omega))
    | with_reducible refine Fo.bd ?_ (fun _ _ => ?_)
    | with_reducible refine Fo.ck (fun _ => ?_)
    | with_reducible refine Fo.ite ?_ ?_
    | with_reducible refine Fo.rd (fun _ => ?_)
    | with_reducible refine Fo.wr (fun c i h => by have hh := hP c i h; first | exact hh | (obtain ⟨g0, g1⟩ := hh; and_intros <;> first | assumption | (intro e; exact absurd e (by assumption))) | omega | (have := net_q (by assumption); omega) | (have := net_q (x := el 10 _) (by assumption); omega) | (have := find_q (by assumption); omega) | (have := finds_q (by assumption); omega)) (fun _ => ?_)
    | with_reducible refine Fo.cp (fun c i h => by have hh := hP c i h; first | exact hh | (obtain ⟨g0, g1⟩ := hh; and_intros <;> first | assumption | (intro e; exact absurd e (by assumption))) | omega | (have := net_q (by assumption); omega) | (have := net_q (x := el 10 _) (by assumption); omega)) (fun _ => ?_)
    | with_reducible refine Fo.oe ?_ (fun _ => ?_)
    | with_reducible refine Fo.se (fun _ => ?_) (fun _ => ?_)
set_option maxHeartbeats 4000000 in
theorem fo_FX12_tell {P : Nat → Nat → Prop} {t : St} (a : Int32) (b : Int32) (hP : ∀ c i, P c i → c ≠ 162 ∧ (c = 149 → i ≠ 25)) : Fo P t (FX12_tell a b t) := by
  unfold FX12_tell
  repeat' first
    | with_reducible exact Fo.ret
    | with_reducible exact Fo.no
    | with_reducible exact fo_FX12_isNet _
    | with_reducible exact fo_FX12_in _ _ _
    | with_reducible exact fo_FX12_saysNet _ (fun c i h => by have hh := hP c i h; first | exact hh | (obtain ⟨g0, g1⟩ := hh; and_intros <;> first | assumption | (intro e; exact absurd e (by assumption))) | omega | (have := net_q (by assumption); omega) | (have := net_q (x := el 10 _) (by assumption); omega) | (have := find_q (by assumption); omega) | (have := finds_q (by assumption); omega))
    | with_reducible refine Fo.wh (fun cc ss => fo_SX12_tell_42 _ cc (fun c i h => by have hh := hP c i h; first | exact hh | (obtain ⟨g0, g1⟩ := hh; and_intros <;> first | assumption | (intro e; exact absurd e (by assumption))) | omega | (have := net_q (by assumption); omega) | (have := net_q (x := el 10 _) (by assumption); omega) | (have := find_q (by assumption); omega) | (have := finds_q (by assumption); omega)))
    | with_reducible refine Fo.bd ?_ (fun _ _ => ?_)
    | with_reducible refine Fo.ck (fun _ => ?_)
    | with_reducible refine Fo.ite ?_ ?_
    | with_reducible refine Fo.rd (fun _ => ?_)
    | with_reducible refine Fo.wr (fun c i h => by have hh := hP c i h; first | exact hh | (obtain ⟨g0, g1⟩ := hh; and_intros <;> first | assumption | (intro e; exact absurd e (by assumption))) | omega | (have := net_q (by assumption); omega) | (have := net_q (x := el 10 _) (by assumption); omega) | (have := find_q (by assumption); omega) | (have := finds_q (by assumption); omega)) (fun _ => ?_)
    | with_reducible refine Fo.cp (fun c i h => by have hh := hP c i h; first | exact hh | (obtain ⟨g0, g1⟩ := hh; and_intros <;> first | assumption | (intro e; exact absurd e (by assumption))) | omega | (have := net_q (by assumption); omega) | (have := net_q (x := el 10 _) (by assumption); omega)) (fun _ => ?_)
    | with_reducible refine Fo.oe ?_ (fun _ => ?_)
    | with_reducible refine Fo.se (fun _ => ?_) (fun _ => ?_)
set_option maxHeartbeats 4000000 in
theorem fo_SX12_undo_21 {P : Nat → Nat → Prop} {t : St} (c : Int32) (hP : ∀ c i, P c i → c ≠ 150) : Fo P t (SX12_undo_21 c t) := by
  unfold SX12_undo_21
  repeat' first
    | with_reducible exact Fo.ret
    | with_reducible exact Fo.no
    | with_reducible refine Fo.bd ?_ (fun _ _ => ?_)
    | with_reducible refine Fo.ck (fun _ => ?_)
    | with_reducible refine Fo.ite ?_ ?_
    | with_reducible refine Fo.rd (fun _ => ?_)
    | with_reducible refine Fo.wr (fun c i h => by have hh := hP c i h; first | exact hh | (intro e; exact absurd e hh) | omega | (have := net_q (by assumption); omega) | (have := net_q (x := el 10 _) (by assumption); omega) | (have := find_q (by assumption); omega) | (have := finds_q (by assumption); omega)) (fun _ => ?_)
    | with_reducible refine Fo.cp (fun c i h => by have hh := hP c i h; first | exact hh | (intro e; exact absurd e hh) | omega | (have := net_q (by assumption); omega) | (have := net_q (x := el 10 _) (by assumption); omega)) (fun _ => ?_)
    | with_reducible refine Fo.oe ?_ (fun _ => ?_)
    | with_reducible refine Fo.se (fun _ => ?_) (fun _ => ?_)
set_option maxHeartbeats 4000000 in
theorem fo_FX12_undo {P : Nat → Nat → Prop} {t : St} (hP : ∀ c i, P c i → c ≠ 150 ∧ (c = 149 → i ≠ 3)) : Fo P t (FX12_undo t) := by
  unfold FX12_undo
  repeat' first
    | with_reducible exact Fo.ret
    | with_reducible exact Fo.no
    | with_reducible refine Fo.wh (fun cc ss => fo_SX12_undo_21 cc (fun c i h => by have hh := hP c i h; first | exact hh | (obtain ⟨g0, g1⟩ := hh; and_intros <;> first | assumption | (intro e; exact absurd e (by assumption))) | omega | (have := net_q (by assumption); omega) | (have := net_q (x := el 10 _) (by assumption); omega) | (have := find_q (by assumption); omega) | (have := finds_q (by assumption); omega)))
    | with_reducible refine Fo.bd ?_ (fun _ _ => ?_)
    | with_reducible refine Fo.ck (fun _ => ?_)
    | with_reducible refine Fo.ite ?_ ?_
    | with_reducible refine Fo.rd (fun _ => ?_)
    | with_reducible refine Fo.wr (fun c i h => by have hh := hP c i h; first | exact hh | (obtain ⟨g0, g1⟩ := hh; and_intros <;> first | assumption | (intro e; exact absurd e (by assumption))) | omega | (have := net_q (by assumption); omega) | (have := net_q (x := el 10 _) (by assumption); omega) | (have := find_q (by assumption); omega) | (have := finds_q (by assumption); omega)) (fun _ => ?_)
    | with_reducible refine Fo.cp (fun c i h => by have hh := hP c i h; first | exact hh | (obtain ⟨g0, g1⟩ := hh; and_intros <;> first | assumption | (intro e; exact absurd e (by assumption))) | omega | (have := net_q (by assumption); omega) | (have := net_q (x := el 10 _) (by assumption); omega)) (fun _ => ?_)
    | with_reducible refine Fo.oe ?_ (fun _ => ?_)
    | with_reducible refine Fo.se (fun _ => ?_) (fun _ => ?_)
set_option maxHeartbeats 4000000 in
theorem fo_FX12_value {P : Nat → Nat → Prop} {t : St} (a : Int32) (b : Int32) (hP : ∀ c i, P c i → c ≠ 154) : Fo P t (FX12_value a b t) := by
  unfold FX12_value
  repeat' first
    | with_reducible exact Fo.ret
    | with_reducible exact Fo.no
    | with_reducible exact fo_FX12_isNet _
    | with_reducible exact fo_FX12_isMeasure _
    | with_reducible exact fo_FX12_laysRow _ (fun c i h => by have hh := hP c i h; first | exact hh | (intro e; exact absurd e hh) | omega | (have := net_q (by assumption); omega) | (have := net_q (x := el 10 _) (by assumption); omega) | (have := find_q (by assumption); omega) | (have := finds_q (by assumption); omega))
    | with_reducible exact fo_FX12_valueOf _ _
    | with_reducible refine Fo.bd ?_ (fun _ _ => ?_)
    | with_reducible refine Fo.ck (fun _ => ?_)
    | with_reducible refine Fo.ite ?_ ?_
    | with_reducible refine Fo.rd (fun _ => ?_)
    | with_reducible refine Fo.wr (fun c i h => by have hh := hP c i h; first | exact hh | (intro e; exact absurd e hh) | omega | (have := net_q (by assumption); omega) | (have := net_q (x := el 10 _) (by assumption); omega) | (have := find_q (by assumption); omega) | (have := finds_q (by assumption); omega)) (fun _ => ?_)
    | with_reducible refine Fo.cp (fun c i h => by have hh := hP c i h; first | exact hh | (intro e; exact absurd e hh) | omega | (have := net_q (by assumption); omega) | (have := net_q (x := el 10 _) (by assumption); omega)) (fun _ => ?_)
    | with_reducible refine Fo.oe ?_ (fun _ => ?_)
    | with_reducible refine Fo.se (fun _ => ?_) (fun _ => ?_)
set_option maxHeartbeats 4000000 in
theorem fo_FX12_ways {P : Nat → Nat → Prop} {t : St} (a : Int32) (b : Int32) (hP : ∀ c i, P c i → c ≠ 154 ∧ c ≠ 155 ∧ c ≠ 156 ∧ c ≠ 157 ∧ c ≠ 158 ∧ (c = 149 → i ≠ 17) ∧ (c = 149 → i ≠ 18) ∧ (c = 149 → i ≠ 19)) : Fo P t (FX12_ways a b t) := by
  unfold FX12_ways
  repeat' first
    | with_reducible exact Fo.ret
    | with_reducible exact Fo.no
    | with_reducible exact fo_FX12_isNet _
    | with_reducible exact fo_FX12_isMeasure _
    | with_reducible exact fo_FX12_leastBand _ (fun c i h => by have hh := hP c i h; first | exact hh | (obtain ⟨g0, g1, g2, g3, g4, g5, g6, g7⟩ := hh; and_intros <;> first | assumption | (intro e; exact absurd e (by assumption))) | omega | (have := net_q (by assumption); omega) | (have := net_q (x := el 10 _) (by assumption); omega) | (have := find_q (by assumption); omega) | (have := finds_q (by assumption); omega))
    | with_reducible exact fo_FX12_rowsOfBand _ _ _ (fun c i h => by have hh := hP c i h; first | exact hh | (obtain ⟨g0, g1, g2, g3, g4, g5, g6, g7⟩ := hh; and_intros <;> first | assumption | (intro e; exact absurd e (by assumption))) | omega | (have := net_q (by assumption); omega) | (have := net_q (x := el 10 _) (by assumption); omega) | (have := find_q (by assumption); omega) | (have := finds_q (by assumption); omega))
    | with_reducible exact fo_FX12_laysLeast _ _ (fun c i h => by have hh := hP c i h; first | exact hh | (obtain ⟨g0, g1, g2, g3, g4, g5, g6, g7⟩ := hh; and_intros <;> first | assumption | (intro e; exact absurd e (by assumption))) | omega | (have := net_q (by assumption); omega) | (have := net_q (x := el 10 _) (by assumption); omega) | (have := find_q (by assumption); omega) | (have := finds_q (by assumption); omega))
    | with_reducible exact fo_FX12_isGreatest _
    | with_reducible exact fo_FX12_rowsOfLeast _ (fun c i h => by have hh := hP c i h; first | exact hh | (obtain ⟨g0, g1, g2, g3, g4, g5, g6, g7⟩ := hh; and_intros <;> first | assumption | (intro e; exact absurd e (by assumption))) | omega | (have := net_q (by assumption); omega) | (have := net_q (x := el 10 _) (by assumption); omega) | (have := find_q (by assumption); omega) | (have := finds_q (by assumption); omega))
    | with_reducible exact fo_FX12_rowsWithin _ _ (fun c i h => by have hh := hP c i h; first | exact hh | (obtain ⟨g0, g1, g2, g3, g4, g5, g6, g7⟩ := hh; and_intros <;> first | assumption | (intro e; exact absurd e (by assumption))) | omega | (have := net_q (by assumption); omega) | (have := net_q (x := el 10 _) (by assumption); omega) | (have := find_q (by assumption); omega) | (have := finds_q (by assumption); omega))
    | with_reducible refine Fo.bd ?_ (fun _ _ => ?_)
    | with_reducible refine Fo.ck (fun _ => ?_)
    | with_reducible refine Fo.ite ?_ ?_
    | with_reducible refine Fo.rd (fun _ => ?_)
    | with_reducible refine Fo.wr (fun c i h => by have hh := hP c i h; first | exact hh | (obtain ⟨g0, g1, g2, g3, g4, g5, g6, g7⟩ := hh; and_intros <;> first | assumption | (intro e; exact absurd e (by assumption))) | omega | (have := net_q (by assumption); omega) | (have := net_q (x := el 10 _) (by assumption); omega) | (have := find_q (by assumption); omega) | (have := finds_q (by assumption); omega)) (fun _ => ?_)
    | with_reducible refine Fo.cp (fun c i h => by have hh := hP c i h; first | exact hh | (obtain ⟨g0, g1, g2, g3, g4, g5, g6, g7⟩ := hh; and_intros <;> first | assumption | (intro e; exact absurd e (by assumption))) | omega | (have := net_q (by assumption); omega) | (have := net_q (x := el 10 _) (by assumption); omega)) (fun _ => ?_)
    | with_reducible refine Fo.oe ?_ (fun _ => ?_)
    | with_reducible refine Fo.se (fun _ => ?_) (fun _ => ?_)
set_option maxHeartbeats 4000000 in
theorem fo_FX12_within {P : Nat → Nat → Prop} {t : St} (a : Int32) (b : Int32) (c : Int32) (hP : ∀ c i, P c i → c ≠ 154 ∧ c ≠ 156 ∧ c ≠ 157 ∧ c ≠ 158 ∧ (c = 149 → i ≠ 17) ∧ (c = 149 → i ≠ 18) ∧ (c = 149 → i ≠ 19)) : Fo P t (FX12_within a b c t) := by
  unfold FX12_within
  repeat' first
    | with_reducible exact Fo.ret
    | with_reducible exact Fo.no
    | with_reducible exact fo_FX12_isNet _
    | with_reducible exact fo_FX12_isMeasure _
    | with_reducible exact fo_FX12_rowsOfBand _ _ _ (fun c i h => by have hh := hP c i h; first | exact hh | (obtain ⟨g0, g1, g2, g3, g4, g5, g6⟩ := hh; and_intros <;> first | assumption | (intro e; exact absurd e (by assumption))) | omega | (have := net_q (by assumption); omega) | (have := net_q (x := el 10 _) (by assumption); omega) | (have := find_q (by assumption); omega) | (have := finds_q (by assumption); omega))
    | with_reducible exact fo_FX12_laysCosts _ _ (fun c i h => by have hh := hP c i h; first | exact hh | (obtain ⟨g0, g1, g2, g3, g4, g5, g6⟩ := hh; and_intros <;> first | assumption | (intro e; exact absurd e (by assumption))) | omega | (have := net_q (by assumption); omega) | (have := net_q (x := el 10 _) (by assumption); omega) | (have := find_q (by assumption); omega) | (have := finds_q (by assumption); omega))
    | with_reducible exact fo_FX12_rowsWithin _ _ (fun c i h => by have hh := hP c i h; first | exact hh | (obtain ⟨g0, g1, g2, g3, g4, g5, g6⟩ := hh; and_intros <;> first | assumption | (intro e; exact absurd e (by assumption))) | omega | (have := net_q (by assumption); omega) | (have := net_q (x := el 10 _) (by assumption); omega) | (have := find_q (by assumption); omega) | (have := finds_q (by assumption); omega))
    | with_reducible exact fo_FX12_isGreatest _
    | with_reducible refine Fo.bd ?_ (fun _ _ => ?_)
    | with_reducible refine Fo.ck (fun _ => ?_)
    | with_reducible refine Fo.ite ?_ ?_
    | with_reducible refine Fo.rd (fun _ => ?_)
    | with_reducible refine Fo.wr (fun c i h => by have hh := hP c i h; first | exact hh | (obtain ⟨g0, g1, g2, g3, g4, g5, g6⟩ := hh; and_intros <;> first | assumption | (intro e; exact absurd e (by assumption))) | omega | (have := net_q (by assumption); omega) | (have := net_q (x := el 10 _) (by assumption); omega) | (have := find_q (by assumption); omega) | (have := finds_q (by assumption); omega)) (fun _ => ?_)
    | with_reducible refine Fo.cp (fun c i h => by have hh := hP c i h; first | exact hh | (obtain ⟨g0, g1, g2, g3, g4, g5, g6⟩ := hh; and_intros <;> first | assumption | (intro e; exact absurd e (by assumption))) | omega | (have := net_q (by assumption); omega) | (have := net_q (x := el 10 _) (by assumption); omega)) (fun _ => ?_)
    | with_reducible refine Fo.oe ?_ (fun _ => ?_)
    | with_reducible refine Fo.se (fun _ => ?_) (fun _ => ?_)
set_option maxHeartbeats 4000000 in
theorem fo_SX12_worst_57 {P : Nat → Nat → Prop} {t : St} (w1 : Int32) (w2 : Int32) (c : Int32 × Int32) : Fo P t (SX12_worst_57 w1 w2 c t) := by
  unfold SX12_worst_57
  repeat' first
    | with_reducible exact Fo.ret
    | with_reducible exact Fo.no
    | with_reducible exact fo_FX12_points _
    | with_reducible exact fo_FX12_priceOf _ _ _
    | with_reducible refine Fo.bd ?_ (fun _ _ => ?_)
    | with_reducible refine Fo.ck (fun _ => ?_)
    | with_reducible refine Fo.ite ?_ ?_
    | with_reducible refine Fo.rd (fun _ => ?_)
    | with_reducible refine Fo.oe ?_ (fun _ => ?_)
    | with_reducible refine Fo.se (fun _ => ?_) (fun _ => ?_)
set_option maxHeartbeats 4000000 in
theorem fo_FX12_worst {P : Nat → Nat → Prop} {t : St} (a : Int32) (b : Int32) : Fo P t (FX12_worst a b t) := by
  unfold FX12_worst
  repeat' first
    | with_reducible exact Fo.ret
    | with_reducible exact Fo.no
    | with_reducible exact fo_FX12_isNet _
    | with_reducible exact fo_FX12_isMeasure _
    | with_reducible exact fo_FX12_points _
    | with_reducible exact fo_FX12_isTakenOut _
    | with_reducible refine Fo.wh (fun cc ss => fo_SX12_worst_57 _ _ cc)
    | with_reducible refine Fo.bd ?_ (fun _ _ => ?_)
    | with_reducible refine Fo.ck (fun _ => ?_)
    | with_reducible refine Fo.ite ?_ ?_
    | with_reducible refine Fo.rd (fun _ => ?_)
    | with_reducible refine Fo.oe ?_ (fun _ => ?_)
    | with_reducible refine Fo.se (fun _ => ?_) (fun _ => ?_)
