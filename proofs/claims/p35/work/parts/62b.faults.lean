section
/-! without a fault what is told of it stays (printed by wip/sim/g63a.py) -/
def Gd {α : Type} (t : St) (m : Option (α × St)) : Prop := ∀ v u, m = some (v, u) → u 149 12 = 0 → t 149 12 = 0 ∧ u 149 6 = t 149 6 ∧ u 149 7 = t 149 7
theorem Gd.ret {α : Type} {t : St} {v : α} : Gd t (some (v, t)) := by
  intro w u h q
  obtain ⟨rfl, rfl⟩ := some_pair h
  exact ⟨q, rfl, rfl⟩
theorem Gd.bd {α β : Type} {t : St} {m : Option (α × St)} {f : α → St → Option (β × St)} (h : Gd t m) (k : ∀ v s, Gd s (f v s)) : Gd t (bnd m f) := by
  intro w u e q
  obtain ⟨v, s, e1, e2⟩ := bnd_some e
  obtain ⟨a1, a2, a3⟩ := k v s w u e2 q
  obtain ⟨b1, b2, b3⟩ := h v s e1 a1
  exact ⟨b1, a2.trans b2, a3.trans b3⟩
theorem Gd.ck {α : Type} {t : St} {b : Bool} {m : Option (α × St)} (k : b = true → Gd t m) : Gd t (chk b m) := by
  intro w u e
  obtain ⟨e1, e2⟩ := chk_some e
  exact k e1 w u e2
theorem Gd.ite {α : Type} {t : St} {q : Prop} [Decidable q] {x y : Option (α × St)} (a : Gd t x) (b : Gd t y) : Gd t (if q then x else y) := by
  by_cases h : q
  · rw [if_pos h]; exact a
  · rw [if_neg h]; exact b
theorem Gd.rd {α : Type} {t s : St} {a i : Nat} {f : Int32 → Option (α × St)} (k : ∀ v, Gd t (f v)) : Gd t (rdb s a i f) := k _
theorem Gd.wr {α : Type} {t : St} {a i : Nat} {v : Int32} {f : St → Option (α × St)} (h : a ≠ 149 ∨ (i ≠ 6 ∧ i ≠ 7 ∧ i ≠ 12)) (k : ∀ s, Gd s (f s)) : Gd t (wrb t a i v f) := by
  intro w u e q
  obtain ⟨a1, a2, a3⟩ := k _ w u e q
  have key : ∀ j, (j = 6 ∨ j = 7 ∨ j = 12) → (fun b => if b = a then upd (t a) i v else t b : St) 149 j = t 149 j := by
    intro j hj
    show (if 149 = a then upd (t a) i v else t 149) j = t 149 j
    by_cases e : 149 = a
    · rw [if_pos e, ← e, pk_un (by omega)]
    · rw [if_neg e]
  have k6 := key 6 (by omega)
  have k7 := key 7 (by omega)
  have k12 := key 12 (by omega)
  exact ⟨k12.symm.trans a1, a2.trans k6, a3.trans k7⟩
theorem Gd.se {α β γ : Type} {t : St} {o : β ⊕ γ} {x : β → Option (α × St)} {f : γ → Option (α × St)} (a : ∀ v, Gd t (x v)) (b : ∀ v, Gd t (f v)) : Gd t (Sum.elim x f o) := by
  cases o
  · exact a _
  · exact b _
theorem Gd.wh {C R : Type} {f : C → St → Option ((C ⊕ R) × St)} (h : ∀ c s, Gd s (f c s)) {c : C} {t : St} : Gd t (wh f c t) := by
  intro w u e
  obtain ⟨k, hk⟩ := wh_itr e
  clear e
  induction k generalizing c t with
  | zero => exact absurd hk (itr_zero _ _ _ _)
  | succ k ih =>
    obtain ⟨x, s, h1, h2⟩ := itr_succ hk
    intro q
    rcases x with d | r
    · obtain ⟨a1, a2, a3⟩ := ih h2 q
      obtain ⟨b1, b2, b3⟩ := h c t _ _ h1 a1
      exact ⟨b1, a2.trans b2, a3.trans b3⟩
    · obtain ⟨rfl, rfl⟩ := some_pair h2
      exact h c t _ _ h1 q
theorem Gd.fo {α : Type} {t : St} {m : Option (α × St)} (h : Fo (fun c i => c = 149 ∧ (i = 6 ∨ i = 7 ∨ i = 12)) t m) : Gd t m := by
  intro v u e q
  have h6 := h v u e 149 6 ⟨rfl, by omega⟩
  have h7 := h v u e 149 7 ⟨rfl, by omega⟩
  have h12 := h v u e 149 12 ⟨rfl, by omega⟩
  exact ⟨h12.symm.trans q, h6, h7⟩
theorem gd_FX12_faults {t : St} (a : Int32) : Gd t (FX12_faults a t) := by
  intro v u e q
  unfold FX12_faults at e
  have e : (if t 149 12 = 0 then some ((), wr (wr (wr t 149 12 1) 149 6 a) 149 7 (wr (wr t 149 12 1) 149 6 a 149 9)) else some ((), t)) = some (v, u) := e
  by_cases c : t 149 12 = 0
  · rw [if_pos c] at e
    obtain ⟨-, rfl⟩ := some_pair e
    have : wr (wr (wr t 149 12 1) 149 6 a) 149 7 (wr (wr t 149 12 1) 149 6 a 149 9) 149 12 = 0 := q
    rw [wrn (by decide), wrn (by decide), wrs] at this
    exact absurd this (by decide)
  · rw [if_neg c] at e
    obtain ⟨-, rfl⟩ := some_pair e
    exact absurd q c
theorem gd_FX12_in {t : St} (q0 : Int64) (q1 : Int64) (q2 : Int64) : Gd t (FX12_in q0 q1 q2 t) := Gd.fo (fo_FX12_in q0 q1 q2)
theorem gd_FX12_points {t : St} (q0 : Int32) : Gd t (FX12_points q0 t) := Gd.fo (fo_FX12_points q0)
theorem gd_FX12_lines {t : St} (q0 : Int32) : Gd t (FX12_lines q0 t) := Gd.fo (fo_FX12_lines q0)
theorem gd_FX12_weight {t : St} (q0 : Int32) (q1 : Int32) (q2 : Int32) : Gd t (FX12_weight q0 q1 q2 t) := Gd.fo (fo_FX12_weight q0 q1 q2)
theorem gd_FX12_weighs {t : St} (q0 : Int32) (q1 : Int32) (q2 : Int32) (q3 : Int32) : Gd t (FX12_weighs q0 q1 q2 q3 t) := Gd.fo (fo_FX12_weighs q0 q1 q2 q3 (fun c i h => by omega))
theorem gd_FX12_has {t : St} (q0 : Int32) (q1 : Int32) : Gd t (FX12_has q0 q1 t) := Gd.fo (fo_FX12_has q0 q1)
theorem gd_FX12_puts {t : St} (q0 : Int32) (q1 : Int32) (q2 : Int32) : Gd t (FX12_puts q0 q1 q2 t) := Gd.fo (fo_FX12_puts q0 q1 q2 (fun c i h => by omega))
theorem gd_FX12_empties {t : St} (q0 : Int32) : Gd t (FX12_empties q0 t) := Gd.fo (fo_FX12_empties q0 (fun c i h => by omega))
theorem gd_FX12_here {t : St} (a : Int32) (b : Int32) : Gd t (FX12_here a b t) := by
  unfold FX12_here
  repeat' first
    | with_reducible exact Gd.ret
    | with_reducible exact gd_FX12_in _ _ _
    | with_reducible exact gd_FX12_faults _
    | with_reducible refine Gd.bd ?_ (fun _ _ => ?_)
    | with_reducible refine Gd.ck (fun _ => ?_)
    | with_reducible refine Gd.ite ?_ ?_
    | with_reducible refine Gd.rd (fun _ => ?_)
    | with_reducible refine Gd.wr (by first | decide | exact Or.inl (by decide)) (fun _ => ?_)
    | with_reducible refine Gd.se (fun _ => ?_) (fun _ => ?_)
theorem gd_FX12_isAt {t : St} (a : Int32) (b : Int32) : Gd t (FX12_isAt a b t) := by
  unfold FX12_isAt
  repeat' first
    | with_reducible exact Gd.ret
    | with_reducible exact gd_FX12_in _ _ _
    | with_reducible refine Gd.bd ?_ (fun _ _ => ?_)
    | with_reducible refine Gd.ck (fun _ => ?_)
    | with_reducible refine Gd.ite ?_ ?_
    | with_reducible refine Gd.rd (fun _ => ?_)
    | with_reducible refine Gd.wr (by first | decide | exact Or.inl (by decide)) (fun _ => ?_)
    | with_reducible refine Gd.se (fun _ => ?_) (fun _ => ?_)
theorem gd_FX12_isSign {t : St} (a : Int32) : Gd t (FX12_isSign a t) := by
  unfold FX12_isSign
  repeat' first
    | with_reducible exact Gd.ret
    | with_reducible refine Gd.bd ?_ (fun _ _ => ?_)
    | with_reducible refine Gd.ck (fun _ => ?_)
    | with_reducible refine Gd.ite ?_ ?_
    | with_reducible refine Gd.rd (fun _ => ?_)
    | with_reducible refine Gd.wr (by first | decide | exact Or.inl (by decide)) (fun _ => ?_)
    | with_reducible refine Gd.se (fun _ => ?_) (fun _ => ?_)
theorem gd_SX12_isWord_s4_39 {t : St} (c : Int32 × Int32) : Gd t (SX12_isWord_s4_39 c t) := by
  unfold SX12_isWord_s4_39
  repeat' first
    | with_reducible exact Gd.ret
    | with_reducible refine Gd.bd ?_ (fun _ _ => ?_)
    | with_reducible refine Gd.ck (fun _ => ?_)
    | with_reducible refine Gd.ite ?_ ?_
    | with_reducible refine Gd.rd (fun _ => ?_)
    | with_reducible refine Gd.wr (by first | decide | exact Or.inl (by decide)) (fun _ => ?_)
    | with_reducible refine Gd.se (fun _ => ?_) (fun _ => ?_)
theorem gd_FX12_isWord_s4 {t : St} : Gd t (FX12_isWord_s4 t) := by
  unfold FX12_isWord_s4
  repeat' first
    | with_reducible exact Gd.ret
    | with_reducible refine Gd.wh (fun cc ss => gd_SX12_isWord_s4_39 cc)
    | with_reducible refine Gd.bd ?_ (fun _ _ => ?_)
    | with_reducible refine Gd.ck (fun _ => ?_)
    | with_reducible refine Gd.ite ?_ ?_
    | with_reducible refine Gd.rd (fun _ => ?_)
    | with_reducible refine Gd.wr (by first | decide | exact Or.inl (by decide)) (fun _ => ?_)
    | with_reducible refine Gd.se (fun _ => ?_) (fun _ => ?_)
theorem gd_SX12_isWord_s5_39 {t : St} (c : Int32 × Int32) : Gd t (SX12_isWord_s5_39 c t) := by
  unfold SX12_isWord_s5_39
  repeat' first
    | with_reducible exact Gd.ret
    | with_reducible refine Gd.bd ?_ (fun _ _ => ?_)
    | with_reducible refine Gd.ck (fun _ => ?_)
    | with_reducible refine Gd.ite ?_ ?_
    | with_reducible refine Gd.rd (fun _ => ?_)
    | with_reducible refine Gd.wr (by first | decide | exact Or.inl (by decide)) (fun _ => ?_)
    | with_reducible refine Gd.se (fun _ => ?_) (fun _ => ?_)
theorem gd_FX12_isWord_s5 {t : St} : Gd t (FX12_isWord_s5 t) := by
  unfold FX12_isWord_s5
  repeat' first
    | with_reducible exact Gd.ret
    | with_reducible refine Gd.wh (fun cc ss => gd_SX12_isWord_s5_39 cc)
    | with_reducible refine Gd.bd ?_ (fun _ _ => ?_)
    | with_reducible refine Gd.ck (fun _ => ?_)
    | with_reducible refine Gd.ite ?_ ?_
    | with_reducible refine Gd.rd (fun _ => ?_)
    | with_reducible refine Gd.wr (by first | decide | exact Or.inl (by decide)) (fun _ => ?_)
    | with_reducible refine Gd.se (fun _ => ?_) (fun _ => ?_)
theorem gd_SX12_next_0 {t : St} (c : Unit) : Gd t (SX12_next_0 c t) := by
  unfold SX12_next_0
  repeat' first
    | with_reducible exact Gd.ret
    | with_reducible exact gd_FX12_isAt _ _
    | with_reducible refine Gd.bd ?_ (fun _ _ => ?_)
    | with_reducible refine Gd.ck (fun _ => ?_)
    | with_reducible refine Gd.ite ?_ ?_
    | with_reducible refine Gd.rd (fun _ => ?_)
    | with_reducible refine Gd.wr (by first | decide | exact Or.inl (by decide)) (fun _ => ?_)
    | with_reducible refine Gd.se (fun _ => ?_) (fun _ => ?_)
theorem gd_SX12_next_123 {t : St} (c : Unit) : Gd t (SX12_next_123 c t) := by
  unfold SX12_next_123
  repeat' first
    | with_reducible exact Gd.ret
    | with_reducible exact gd_FX12_isAt _ _
    | with_reducible refine Gd.bd ?_ (fun _ _ => ?_)
    | with_reducible refine Gd.ck (fun _ => ?_)
    | with_reducible refine Gd.ite ?_ ?_
    | with_reducible refine Gd.rd (fun _ => ?_)
    | with_reducible refine Gd.wr (by first | decide | exact Or.inl (by decide)) (fun _ => ?_)
    | with_reducible refine Gd.se (fun _ => ?_) (fun _ => ?_)
theorem gd_SX12_next_83 {t : St} (c : Unit) : Gd t (SX12_next_83 c t) := by
  unfold SX12_next_83
  repeat' first
    | with_reducible exact Gd.ret
    | with_reducible exact gd_FX12_isAt _ _
    | with_reducible refine Gd.bd ?_ (fun _ _ => ?_)
    | with_reducible refine Gd.ck (fun _ => ?_)
    | with_reducible refine Gd.ite ?_ ?_
    | with_reducible refine Gd.rd (fun _ => ?_)
    | with_reducible refine Gd.wr (by first | decide | exact Or.inl (by decide)) (fun _ => ?_)
    | with_reducible refine Gd.se (fun _ => ?_) (fun _ => ?_)
theorem gd_FX12_next {t : St} : Gd t (FX12_next t) := by
  unfold FX12_next
  repeat' first
    | with_reducible exact Gd.ret
    | with_reducible refine Gd.wh (fun cc ss => gd_SX12_next_0 cc)
    | with_reducible exact gd_FX12_isAt _ _
    | with_reducible refine Gd.wh (fun cc ss => gd_SX12_next_123 cc)
    | with_reducible refine Gd.wh (fun cc ss => gd_SX12_next_83 cc)
    | with_reducible refine Gd.bd ?_ (fun _ _ => ?_)
    | with_reducible refine Gd.ck (fun _ => ?_)
    | with_reducible refine Gd.ite ?_ ?_
    | with_reducible refine Gd.rd (fun _ => ?_)
    | with_reducible refine Gd.wr (by first | decide | exact Or.inl (by decide)) (fun _ => ?_)
    | with_reducible refine Gd.se (fun _ => ?_) (fun _ => ?_)
theorem gd_FX12_passes {t : St} : Gd t (FX12_passes t) := by
  unfold FX12_passes
  repeat' first
    | with_reducible exact Gd.ret
    | with_reducible exact gd_FX12_next
    | with_reducible refine Gd.bd ?_ (fun _ _ => ?_)
    | with_reducible refine Gd.ck (fun _ => ?_)
    | with_reducible refine Gd.ite ?_ ?_
    | with_reducible refine Gd.rd (fun _ => ?_)
    | with_reducible refine Gd.wr (by first | decide | exact Or.inl (by decide)) (fun _ => ?_)
    | with_reducible refine Gd.se (fun _ => ?_) (fun _ => ?_)
theorem gd_FX12_must {t : St} (a : Int32) : Gd t (FX12_must a t) := by
  unfold FX12_must
  repeat' first
    | with_reducible exact Gd.ret
    | with_reducible exact gd_FX12_faults _
    | with_reducible exact gd_FX12_passes
    | with_reducible refine Gd.bd ?_ (fun _ _ => ?_)
    | with_reducible refine Gd.ck (fun _ => ?_)
    | with_reducible refine Gd.ite ?_ ?_
    | with_reducible refine Gd.rd (fun _ => ?_)
    | with_reducible refine Gd.wr (by first | decide | exact Or.inl (by decide)) (fun _ => ?_)
    | with_reducible refine Gd.se (fun _ => ?_) (fun _ => ?_)
theorem gd_FX12_readsLine {t : St} (a : Int32) : Gd t (FX12_readsLine a t) := by
  unfold FX12_readsLine
  repeat' first
    | with_reducible exact Gd.ret
    | with_reducible exact gd_FX12_points _
    | with_reducible exact gd_FX12_here _ _
    | with_reducible exact gd_FX12_lines _
    | with_reducible exact gd_FX12_faults _
    | with_reducible exact gd_FX12_passes
    | with_reducible exact gd_FX12_isSign _
    | with_reducible exact gd_FX12_must _
    | with_reducible exact gd_FX12_weight _ _ _
    | with_reducible exact gd_FX12_next
    | with_reducible exact gd_FX12_weighs _ _ _ _
    | with_reducible refine Gd.bd ?_ (fun _ _ => ?_)
    | with_reducible refine Gd.ck (fun _ => ?_)
    | with_reducible refine Gd.ite ?_ ?_
    | with_reducible refine Gd.rd (fun _ => ?_)
    | with_reducible refine Gd.wr (by first | decide | exact Or.inl (by decide)) (fun _ => ?_)
    | with_reducible refine Gd.se (fun _ => ?_) (fun _ => ?_)
theorem gd_SX12_readsRow_35 {t : St} (w1 : Int32) (c : Int32 × Int32 × Int32) : Gd t (SX12_readsRow_35 w1 c t) := by
  unfold SX12_readsRow_35
  repeat' first
    | with_reducible exact Gd.ret
    | with_reducible exact gd_FX12_points _
    | with_reducible exact gd_FX12_has _ _
    | with_reducible refine Gd.bd ?_ (fun _ _ => ?_)
    | with_reducible refine Gd.ck (fun _ => ?_)
    | with_reducible refine Gd.ite ?_ ?_
    | with_reducible refine Gd.rd (fun _ => ?_)
    | with_reducible refine Gd.wr (by first | decide | exact Or.inl (by decide)) (fun _ => ?_)
    | with_reducible refine Gd.se (fun _ => ?_) (fun _ => ?_)
theorem gd_SX12_readsRow_134 {t : St} (w1 : Int32) (c : Int32) : Gd t (SX12_readsRow_134 w1 c t) := by
  unfold SX12_readsRow_134
  repeat' first
    | with_reducible exact Gd.ret
    | with_reducible exact gd_FX12_points _
    | with_reducible exact gd_FX12_puts _ _ _
    | with_reducible refine Gd.bd ?_ (fun _ _ => ?_)
    | with_reducible refine Gd.ck (fun _ => ?_)
    | with_reducible refine Gd.ite ?_ ?_
    | with_reducible refine Gd.rd (fun _ => ?_)
    | with_reducible refine Gd.wr (by first | decide | exact Or.inl (by decide)) (fun _ => ?_)
    | with_reducible refine Gd.se (fun _ => ?_) (fun _ => ?_)
theorem gd_FX12_readsRow {t : St} (a : Int32) : Gd t (FX12_readsRow a t) := by
  unfold FX12_readsRow
  repeat' first
    | with_reducible exact Gd.ret
    | with_reducible exact gd_FX12_next
    | with_reducible exact gd_FX12_points _
    | with_reducible refine Gd.wh (fun cc ss => gd_SX12_readsRow_35 _ cc)
    | with_reducible exact gd_FX12_faults _
    | with_reducible refine Gd.wh (fun cc ss => gd_SX12_readsRow_134 _ cc)
    | with_reducible exact gd_FX12_passes
    | with_reducible exact gd_FX12_isSign _
    | with_reducible exact gd_FX12_must _
    | with_reducible refine Gd.bd ?_ (fun _ _ => ?_)
    | with_reducible refine Gd.ck (fun _ => ?_)
    | with_reducible refine Gd.ite ?_ ?_
    | with_reducible refine Gd.rd (fun _ => ?_)
    | with_reducible refine Gd.wr (by first | decide | exact Or.inl (by decide)) (fun _ => ?_)
    | with_reducible refine Gd.se (fun _ => ?_) (fun _ => ?_)
theorem gd_SX12_readsNet_39 {t : St} (w1 : Int32) (w2 : Int32) (c : Int32) : Gd t (SX12_readsNet_39 w1 w2 c t) := by
  unfold SX12_readsNet_39
  repeat' first
    | with_reducible exact Gd.ret
    | with_reducible exact gd_FX12_puts _ _ _
    | with_reducible refine Gd.bd ?_ (fun _ _ => ?_)
    | with_reducible refine Gd.ck (fun _ => ?_)
    | with_reducible refine Gd.ite ?_ ?_
    | with_reducible refine Gd.rd (fun _ => ?_)
    | with_reducible refine Gd.wr (by first | decide | exact Or.inl (by decide)) (fun _ => ?_)
    | with_reducible refine Gd.se (fun _ => ?_) (fun _ => ?_)
theorem gd_SX12_readsNet_75 {t : St} (w1 : Int32) (c : Unit) : Gd t (SX12_readsNet_75 w1 c t) := by
  unfold SX12_readsNet_75
  repeat' first
    | with_reducible exact Gd.ret
    | with_reducible exact gd_FX12_isSign _
    | with_reducible exact gd_FX12_next
    | with_reducible exact gd_FX12_readsLine _
    | with_reducible refine Gd.bd ?_ (fun _ _ => ?_)
    | with_reducible refine Gd.ck (fun _ => ?_)
    | with_reducible refine Gd.ite ?_ ?_
    | with_reducible refine Gd.rd (fun _ => ?_)
    | with_reducible refine Gd.wr (by first | decide | exact Or.inl (by decide)) (fun _ => ?_)
    | with_reducible refine Gd.se (fun _ => ?_) (fun _ => ?_)
theorem gd_FX12_readsNet {t : St} (a : Int32) : Gd t (FX12_readsNet a t) := by
  unfold FX12_readsNet
  repeat' first
    | with_reducible exact Gd.ret
    | with_reducible exact gd_FX12_isWord_s4
    | with_reducible exact gd_FX12_must _
    | with_reducible exact gd_FX12_here _ _
    | with_reducible exact gd_FX12_passes
    | with_reducible exact gd_FX12_empties _
    | with_reducible refine Gd.wh (fun cc ss => gd_SX12_readsNet_39 _ _ cc)
    | with_reducible exact gd_FX12_isSign _
    | with_reducible exact gd_FX12_next
    | with_reducible exact gd_FX12_readsLine _
    | with_reducible refine Gd.wh (fun cc ss => gd_SX12_readsNet_75 _ cc)
    | with_reducible exact gd_FX12_isWord_s5
    | with_reducible exact gd_FX12_readsRow _
    | with_reducible exact gd_FX12_faults _
    | with_reducible refine Gd.bd ?_ (fun _ _ => ?_)
    | with_reducible refine Gd.ck (fun _ => ?_)
    | with_reducible refine Gd.ite ?_ ?_
    | with_reducible refine Gd.rd (fun _ => ?_)
    | with_reducible refine Gd.wr (by first | decide | exact Or.inl (by decide)) (fun _ => ?_)
    | with_reducible refine Gd.se (fun _ => ?_) (fun _ => ?_)
end
section
/-! told of both -/
def Pc {α : Type} (m : Option (α × St)) (Q : α → St → Prop) : Prop := ∀ v u, m = some (v, u) → Q v u
theorem Pc.ret {α : Type} {v : α} {t : St} {Q : α → St → Prop} (h : Q v t) : Pc (some (v, t)) Q := by
  intro w u e
  obtain ⟨rfl, rfl⟩ := some_pair e
  exact h
theorem Pc.bd {α β : Type} {m : Option (α × St)} {f : α → St → Option (β × St)} {Q : β → St → Prop} (R : α → St → Prop) (h : Pc m R) (k : ∀ v s, R v s → Pc (f v s) Q) : Pc (bnd m f) Q := by
  intro w u e
  obtain ⟨v, s, e1, e2⟩ := bnd_some e
  exact k v s (h v s e1) w u e2
theorem Pc.ck {α : Type} {b : Bool} {m : Option (α × St)} {Q : α → St → Prop} (k : b = true → Pc m Q) : Pc (chk b m) Q := by
  intro w u e
  obtain ⟨e1, e2⟩ := chk_some e
  exact k e1 w u e2
theorem Pc.ite {α : Type} {c : Prop} [Decidable c] {x y : Option (α × St)} {Q : α → St → Prop} (a : c → Pc x Q) (b : ¬ c → Pc y Q) : Pc (if c then x else y) Q := by
  by_cases h : c
  · rw [if_pos h]; exact a h
  · rw [if_neg h]; exact b h
theorem Pc.ifT {α : Type} {c : Prop} [Decidable c] {x y : Option (α × St)} {Q : α → St → Prop} (h : c) (k : Pc x Q) : Pc (if c then x else y) Q := by rw [if_pos h]; exact k
theorem Pc.ifF {α : Type} {c : Prop} [Decidable c] {x y : Option (α × St)} {Q : α → St → Prop} (h : ¬ c) (k : Pc y Q) : Pc (if c then x else y) Q := by rw [if_neg h]; exact k
theorem Pc.rdE {α : Type} {σ : St} {a i : Nat} {x : Int32} {f : Int32 → Option (α × St)} {Q : α → St → Prop} (e : σ a i = x) (k : Pc (f x) Q) : Pc (rdb σ a i f) Q := by
  show Pc (f (σ a i)) Q
  rw [e]
  exact k
theorem PcwrE {α : Type} {σ : St} {a i : Nat} {v : Int32} {f : St → Option (α × St)} {Q : α → St → Prop} (k : Pc (f (wr σ a i v)) Q) : Pc (wrb σ a i v f) Q := k
theorem Ok.pc {α : Type} {m : Option (α × St)} {Q : α → St → Prop} (h : Ok m Q) : Pc m Q := fun _ _ e => h.out e
theorem Pc.mono {α : Type} {m : Option (α × St)} {Q R : α → St → Prop} (h : Pc m R) (k : ∀ v s, R v s → Q v s) : Pc m Q := fun v s e => k v s (h v s e)
theorem Ok.ap {α : Type} {m : Option (α × St)} {Q R : α → St → Prop} (h : Ok m Q) (k : Pc m R) : Ok m (fun v s => Q v s ∧ R v s) := by
  obtain ⟨v, s, e, q⟩ := h
  exact ⟨v, s, e, q, k v s e⟩
theorem Fo.pc {P : Nat → Nat → Prop} {α : Type} {t : St} {m : Option (α × St)} (h : Fo P t m) : Pc m (fun _ u => ∀ c i, P c i → u c i = t c i) := h
theorem cpyi {σ : St} {a b n i : Nat} (h : i < n) : cpy σ a b n b i = σ a i := by
  unfold cpy
  rw [if_pos rfl, pk_cpy_in (Nat.zero_le _) (by omega), Nat.sub_zero, Nat.zero_add]
theorem e_copyFrom {x y : Nat} {t : St} (gx : netAt x = true) (gy : netAt y = true) (hd : x + 3 < y ∨ y + 3 < x) : Ok (FX5_copyFrom x y t) (fun _ u => (∀ c, (c < x ∨ x + 3 < c) → u c = t c) ∧ u x 0 = t y 0 ∧ u x 1 = t y 1 ∧ (∀ i, i < 9 → u (x + 1) i = t (y + 1) i) ∧ (∀ i, i < 9 → u (x + 2) i = t (y + 2) i) ∧ ∀ i, i < 81 → u (x + 3) i = t (y + 3) i) := by
  unfold FX5_copyFrom
  refine Ok.ckT gx (Ok.ckT gy (Ok.rdE rfl (OkwrE (Ok.rdE rfl (OkwrE (Ok.cp ?_))))))
  rintro t9 e9
  refine Ok.cp ?_
  rintro t11 e11
  refine Ok.cp ?_
  rintro t13 e13
  refine Ok.ret ⟨fun c hc => ?_, ?_, ?_, fun i hi => ?_, fun i hi => ?_, fun i hi => ?_⟩
  · rw [e13, cpy_off (by omega), e11, cpy_off (by omega), e9, cpy_off (by omega), wr_off c (by omega), wr_off c (by omega)]
  · rw [e13, cpy_off (by omega), e11, cpy_off (by omega), e9, cpy_off (by omega), wrn (by decide), wrs]
  · rw [e13, cpy_off (by omega), e11, cpy_off (by omega), e9, cpy_off (by omega), wrs, wrf (by omega)]
  · rw [e13, cpy_off (by omega), e11, cpy_off (by omega), e9, cpyi hi, wrf (by omega), wrf (by omega)]
  · rw [e13, cpy_off (by omega), e11, cpyi hi, e9, cpy_off (by omega), wrf (by omega), wrf (by omega)]
  · rw [e13, cpyi hi, e11, cpy_off (by omega), e9, cpy_off (by omega), wrf (by omega), wrf (by omega)]
theorem el10 {s : Nat} (hs : s < 3) : el 10 (nI s) = 12 + 24 * s := by
  rcases (show s = 0 ∨ s = 1 ∨ s = 2 by omega) with rfl | rfl | rfl <;> decide +kernel
theorem n_sl {s : Nat} (hs : s < 3) : netAt (12 + 24 * s) = true := by
  rcases (show s = 0 ∨ s = 1 ∨ s = 2 by omega) with rfl | rfl | rfl <;> decide +kernel
theorem n_141 : netAt 141 = true := by decide +kernel
theorem n_145 : netAt 145 = true := by decide +kernel
theorem el100_q {v : Int32} (h : inb v 10 = true) : 101 ≤ el 100 v ∧ el 100 v + 3 ≤ 140 := by
  obtain ⟨k, hk, rfl⟩ := IsR.of h
  rcases (show k = 0 ∨ k = 1 ∨ k = 2 ∨ k = 3 ∨ k = 4 ∨ k = 5 ∨ k = 6 ∨ k = 7 ∨ k = 8 ∨ k = 9 by omega) with rfl | rfl | rfl | rfl | rfl | rfl | rfl | rfl | rfl | rfl <;> decide +kernel
theorem fr_remember {P : Nat → Nat → Prop} {t : St} {a : Int32} {x : Nat} (hP : ∀ c i, P c i → c < 98 ∨ 140 < c) : Fo P t (FX4_remember a x t) := by
  unfold FX4_remember
  refine Fo.ck (fun _ => Fo.rd (fun _ => Fo.ck (fun _ => Fo.wr (fun c i h => by have := hP c i h; omega) (fun _ => Fo.rd (fun v6 => Fo.ck (fun g6 => Fo.ck (fun _ => Fo.bd (fo_FX5_copyFrom _ _ (fun c i h => ?_)) (fun _ _ => Fo.rd (fun _ => Fo.wr (fun c i h => by have := hP c i h; omega) (fun _ => Fo.rd (fun _ => Fo.wr (fun c i h => by have := hP c i h; omega) (fun _ => Fo.ret))))))))))))
  have h1 := hP c i h
  have h2 := el100_q g6
  omega
theorem fr_noteAct {P : Nat → Nat → Prop} {t : St} {a : Int32} (hP : ∀ c i, P c i → c < 98 ∨ 140 < c) : Fo P t (FX11_noteAct a t) := by
  unfold FX11_noteAct
  exact Fo.ck (fun _ => Fo.ck (fun _ => Fo.bd (fo_FX5_sameAs _ _) (fun _ _ => Fo.ite (Fo.bd (fr_remember hP) (fun _ _ => Fo.ret)) Fo.ret)))
theorem e_isSlot {t : St} {a : Int32} {Q : Int32 → St → Prop} (q1 : ∀ s, s < 3 → a = nI s → Q 1 t) (q0 : ¬ IsR 3 a → Q 0 t) : Ok (FX11_isSlot a t) Q := by
  unfold FX11_isSlot
  refine Ok.ite (fun c => Ok.ret (q0 ?_)) (fun c => ?_)
  · rintro ⟨k, hk, rfl⟩
    rw [li_0, nI_ltP (by omega) (by omega)] at c
    omega
  obtain ⟨j, hj, rfl⟩ := nI_of c
  refine Ok.ite (fun c2 => Ok.ret (q0 ?_)) (fun c2 => Ok.ret (q1 j ?_ rfl))
  · rintro ⟨k, hk, e⟩
    have := nI_inj e (by omega) (by omega)
    rw [li_3, nI_leP (by omega) (by omega)] at c2
    omega
  · rw [li_3, nI_leP (by omega) (by omega)] at c2
    omega
theorem m_isSlot {t : St} {a : Int32} {Q : Int32 → St → Prop} (q1 : ∀ s, s < 3 → a = nI s → Q 1 t) (q0 : ¬ IsR 3 a → Q 0 t) : Ok (FX12_isSlot a t) Q := by
  unfold FX12_isSlot
  refine Ok.bd (fun r u => t = u ∧ ((r = 1 ∧ IsR 3 a) ∨ (r = 0 ∧ ¬ IsR 3 a))) (e_in (fun h1 h2 => ⟨rfl, Or.inl ⟨rfl, in_R ⟨h1, h2⟩ (by decide) (by decide)⟩⟩) (fun h => ⟨rfl, Or.inr ⟨rfl, fun q => h ?_⟩⟩)) ?_
  · obtain ⟨k, hk, rfl⟩ := q
    rw [Int32.toInt_toInt64, nI_toInt (by omega)]
    have e0 : (0 : Int64).toInt = 0 := by decide
    have e2 : (2 : Int64).toInt = 2 := by decide
    rw [e0, e2]
    omega
  · rintro r _ ⟨rfl, ⟨rfl, s, hs, e⟩ | ⟨rfl, h⟩⟩
    · exact Ok.ckT rfl (Ok.ret (q1 s hs e))
    · exact Ok.ckT rfl (Ok.ret (q0 h))
theorem c_told0 {t : St} {a : Int32} (h : ¬ IsR 3 a) : Pc (FX11_told a t) (fun r u => r = -2 ∧ t = u) := by
  unfold FX11_told
  refine Pc.bd (fun r u => t = u ∧ r = 0) (e_isSlot (fun s hs e => absurd ⟨s, hs, e⟩ h) (fun _ => ⟨rfl, rfl⟩)).pc ?_
  rintro _ _ ⟨rfl, rfl⟩
  exact Pc.ifT rfl (Pc.ret ⟨rfl, rfl⟩)
theorem m_told0 {t : St} {a : Int32} (h : ¬ IsR 3 a) : Pc (FX12_told a t) (fun r u => r = -2 ∧ t = u) := by
  unfold FX12_told
  refine Pc.bd (fun r u => t = u ∧ r = 0) (m_isSlot (fun s hs e => absurd ⟨s, hs, e⟩ h) (fun _ => ⟨rfl, rfl⟩)).pc ?_
  rintro _ _ ⟨rfl, rfl⟩
  exact Pc.ifT rfl (Pc.ret ⟨rfl, rfl⟩)
/-- what told answers, and the fault -/
def TA (x : (Nat × Nat) ⊕ (Nat × Nat × (Nat → Nat → Nat) × (Nat → Nat))) (r f p : Int32) : Prop := Sum.elim (fun e => r = -4 ∧ f = nI e.1 ∧ p = nI e.2) (fun v => r = nI v.2.1 ∧ f = 0 ∧ p = -1) x
theorem TA.uq {x : (Nat × Nat) ⊕ (Nat × Nat × (Nat → Nat → Nat) × (Nat → Nat))} {r f p r2 f2 p2 : Int32} (h : TA x r f p) (g : TA x r2 f2 p2) : r = r2 ∧ f = f2 ∧ p = p2 := by
  cases x with
  | inl e => exact ⟨h.1.trans g.1.symm, h.2.1.trans g.2.1.symm, h.2.2.trans g.2.2.symm⟩
  | inr v => exact ⟨h.1.trans g.1.symm, h.2.1.trans g.2.1.symm, h.2.2.trans g.2.2.symm⟩
theorem c_told {k : Nat} {bt : Nat → Nat} {t : St} {s : Nat} (h : CT k bt t) (hs : s < 3) : Pc (FX11_told (nI s) t) (fun r u => TA (ptext k bt) r (u 5 1) (u 5 2) ∧ u 1 1 = 0) := by
  unfold FX11_told
  refine Pc.bd (fun r u => t = u ∧ r = 1) (e_isSlot (fun _ _ _ => ⟨rfl, rfl⟩) (fun q => absurd ⟨s, hs, rfl⟩ q)).pc ?_
  rintro _ _ ⟨rfl, rfl⟩
  refine Pc.ifF (by decide) (Pc.bd _ (e_readAll h).pc ?_)
  intro r t1 hr
  refine PcwrE ?_
  cases e : ptext k bt with
  | inl f =>
    obtain ⟨rfl, a1, a2, a3⟩ := hr.gl e
    refine Pc.ifT rfl (Pc.ret ⟨⟨rfl, ?_, ?_⟩, wrs⟩)
    · rw [wrf (by decide)]; exact a1
    · rw [wrf (by decide)]; exact a2
  | inr v =>
    obtain ⟨rfl, a1, a2, n1, o1, d1⟩ := hr.gr e
    refine Pc.ifF (by decide) (Pc.ck (fun _ => Pc.ck (fun _ => ?_)))
    rw [el10 hs]
    refine Pc.bd _ (e_copyFrom (t := wr t1 1 1 0) n_141 (n_sl hs) (by omega)).pc ?_
    rintro _ t2 ⟨f2, -⟩
    refine Pc.bd _ (e_copyFrom (t := t2) (n_sl hs) n6 (by omega)).pc ?_
    rintro _ t3 ⟨f3, -, l3, -⟩
    refine Pc.bd _ (fr_noteAct (P := fun c _ => c < 98 ∨ 140 < c) (fun _ _ h => h)).pc ?_
    rintro _ t4 f4
    have e5 : ∀ i, t4 5 i = t1 5 i := fun i => by rw [f4 5 i (by omega), f3 5 (by omega), f2 5 (by omega), wrf (by decide)]
    refine Pc.rdE (x := nI v.2.1) ?_ (Pc.ret ⟨⟨rfl, by rw [e5]; exact a1, by rw [e5]; exact a2⟩, ?_⟩)
    · rw [f4 _ 1 (by omega), l3, f2 6 (by omega), wrf (by decide)]
      exact n1.2.1
    · rw [f4 1 1 (by omega), f3 1 (by omega), f2 1 (by omega), wrs]
theorem ptext_in {k : Nat} {bt : Nat → Nat} {v : Nat × Nat × (Nat → Nat → Nat) × (Nat → Nat)} (h : ptext k bt = .inr v) : 1 ≤ v.1 ∧ v.1 < 10 ∧ WF v.1 v.2.2.1 ∧ 2 * v.2.1 = dcn v.1 v.2.2.1 ∧ v.2.1 ≤ 30 := by
  unfold ptext at h
  by_cases hw : wrd k bt 110 101 116 0 = true
  · rw [if_pos hw] at h
    cases e : num k bt 1 9 (tke k bt 0) with
    | inl f => rw [sbn_l e] at h; cases h
    | inr N =>
      rw [sbn_r e] at h
      have hv := num_in e
      cases e2 : plns k bt N (tke k bt (tke k bt 0)) with
      | inl f => rw [sbn_l e2] at h; cases h
      | inr r =>
        rw [sbn_r e2] at h
        cases e3 : prow k bt N r.1 with
        | inl f => rw [sbn_l e3] at h; cases h
        | inr o =>
          rw [sbn_r e3] at h
          have h := Sum.inr.inj h
          subst h
          exact ⟨hv.1, by show N < 10; omega, plns_in hv.1 (by omega) e2⟩
  · rw [if_neg hw] at h
    cases h
theorem m_readsNetX {k : Nat} {bt : Nat → Nat} {t : St} {s : Nat} (h : RM k bt 0 t) (hb : t 149 12 = 0) (hs : s < 3) : Ok (FX12_readsNet (nI s) t) (fun _ u => FM t u ∧ Sum.elim (fun f => BD f u) (fun v => u 149 12 = 0 ∧ RN s v.1 v.2.2.1 u ∧ (RO s v.1 v.2.2.2 u ∧ ∀ j, (j < 91 * s ∨ 91 * s + 91 ≤ j) → u 150 j = t 150 j) ∧ u 149 6 = t 149 6 ∧ u 149 7 = t 149 7) (ptext k bt)) := by
  obtain ⟨v, u, e, h1, h2⟩ := m_readsNet h hb hs
  refine ⟨v, u, e, h1, ?_⟩
  cases ep : ptext k bt with
  | inl f => rw [ep] at h2; exact h2
  | inr w =>
    rw [ep] at h2
    obtain ⟨a1, a2, a3, a4⟩ := h2
    exact ⟨a1, a2, ⟨a3, a4⟩, (gd_FX12_readsNet _ v u e a1).2⟩
theorem m_told {k : Nat} {bt : Nat → Nat} {t : St} {s m : Nat} (h : MT k bt t) (hs : s < 3) (e3 : t 149 3 = nI m) (hm : m < 11) : Pc (FX12_told (nI s) t) (fun r u => TA (ptext k bt) r (u 149 6) (u 149 7)) := by
  unfold FX12_told
  refine Pc.bd (fun r u => t = u ∧ r = 1) (m_isSlot (fun _ _ _ => ⟨rfl, rfl⟩) (fun q => absurd ⟨s, hs, rfl⟩ q)).pc ?_
  rintro _ _ ⟨rfl, rfl⟩
  refine Pc.ifF (by decide) (PcwrE (PcwrE (PcwrE (PcwrE ?_))))
  have g3 : wr (wr (wr (wr t 149 6 0) 149 7 (-1)) 149 12 0) 149 8 0 149 3 = nI m := by rw [wrn (by decide), wrn (by decide), wrn (by decide), wrn (by decide)]; exact e3
  have g6 : wr (wr (wr (wr t 149 6 0) 149 7 (-1)) 149 12 0) 149 8 0 149 6 = 0 := by rw [wrn (by decide), wrn (by decide), wrn (by decide), wrs]
  have g7 : wr (wr (wr (wr t 149 6 0) 149 7 (-1)) 149 12 0) 149 8 0 149 7 = -1 := by rw [wrn (by decide), wrn (by decide), wrs]
  have g12 : wr (wr (wr (wr t 149 6 0) 149 7 (-1)) 149 12 0) 149 8 0 149 12 = 0 := by rw [wrn (by decide), wrs]
  have g8 : wr (wr (wr (wr t 149 6 0) 149 7 (-1)) 149 12 0) 149 8 0 149 8 = nI 0 := wrs
  have gM : MT k bt (wr (wr (wr (wr t 149 6 0) 149 7 (-1)) 149 12 0) 149 8 0) := by
    refine ⟨h.1, ?_, fun i hi => ?_⟩
    · rw [wrn (by decide), wrn (by decide), wrn (by decide), wrn (by decide)]; exact h.2.1
    · rw [wrf (by decide), wrf (by decide), wrf (by decide), wrf (by decide)]; exact h.2.2 i hi
  generalize wr (wr (wr (wr t 149 6 0) 149 7 (-1)) 149 12 0) 149 8 0 = y at g3 g6 g7 g12 g8 gM ⊢
  refine Pc.bd _ (fo_FX12_remembers (P := fun c _ => c ≠ 151) (fun _ _ h => h)).pc ?_
  rintro _ y1 f1
  have M1 : MT k bt y1 := ⟨gM.1, by rw [f1 149 5 (by decide)]; exact gM.2.1, fun i hi => by rw [f1 153 i (by decide)]; exact gM.2.2 i hi⟩
  refine Pc.bd _ (m_next M1 (Nat.zero_le _) (by rw [f1 149 8 (by decide)]; exact g8)).pc ?_
  rintro _ y2 ⟨R2, K2⟩
  have b2 : y2 149 12 = 0 := by rw [K2.2 12 (by omega), f1 149 12 (by decide)]; exact g12
  refine Pc.bd _ (m_readsNetX R2 b2 hs).pc ?_
  rintro _ y3 ⟨F3, h3⟩
  refine PcwrE ?_
  cases e : ptext k bt with
  | inl f =>
    rw [e] at h3
    refine Pc.rdE (x := 1) (by rw [wrn (by decide)]; exact h3.1) (Pc.ifF (by decide) (Pc.bd (fun _ u => ∀ i, u 149 i = wr y3 149 5 0 149 i) ?_ ?_))
    · refine (Fo.wh (P := fun c _ => c ≠ 150) (fun c s => ?_)).pc.mono (fun _ u hu i => hu 149 i (by decide))
      unfold SX12_told_57
      exact Fo.ite Fo.ret (Fo.ck (fun _ => Fo.rd (fun _ => Fo.ck (fun _ => Fo.wr (fun c i h q => absurd q h) (fun _ => Fo.ret)))))
    · rintro _ u hu
      refine Pc.ret ⟨rfl, ?_, ?_⟩
      · rw [hu, wrn (by decide)]; exact h3.2.1
      · rw [hu, wrn (by decide)]; exact h3.2.2
  | inr v =>
    rw [e] at h3
    obtain ⟨b3, N3, -, g67⟩ := h3
    obtain ⟨v1, v9, vw, vc, -⟩ := ptext_in e
    refine Pc.rdE (x := 0) (by rw [wrn (by decide)]; exact b3) (Pc.ifT rfl (Pc.bd (fun r u => wr y3 149 5 0 = u ∧ r = nI v.2.1) (m_lines (N3.fr (wr_off 150 (by decide))) hs v9 vw ⟨rfl, by rw [← vc, Nat.mul_div_cancel_left _ (by omega)]⟩).pc ?_))
    rintro _ _ ⟨rfl, rfl⟩
    have e3' : wr y3 149 5 0 149 3 = nI m := by rw [wrn (by decide), F3.2 3 (by omega), K2.2 3 (by omega), f1 149 3 (by decide)]; exact g3
    refine Pc.bd (fun r u => r = nI v.2.1 ∧ ∀ c i, (c = 149 ∧ i ≠ 3) → u c i = wr y3 149 5 0 c i) (fun r u hru => ⟨((xX12_done hm e3').out hru).1, (fo_FX12_done (P := fun c i => c = 149 ∧ i ≠ 3) (nI v.2.1) (fun c i h => by omega)) r u hru⟩) ?_
    rintro _ u ⟨rfl, hu⟩
    refine Pc.ret ⟨rfl, ?_, ?_⟩
    · rw [hu 149 6 (by decide), wrn (by decide), g67.1, K2.2 6 (by omega), f1 149 6 (by decide)]; exact g6
    · rw [hu 149 7 (by decide), wrn (by decide), g67.2, K2.2 7 (by omega), f1 149 7 (by decide)]; exact g7
end
section
/-! between two calls: both tapes hold the same bytes, both tell the same fault (printed by wip/sim/g64.py) -/
def P0 (c i : Nat) : Prop := c = 1 ∨ c = 2 ∨ c = 5 ∨ c = 153 ∨ (c = 149 ∧ (i = 5 ∨ i = 6 ∨ i = 7))
def INV2 (t : St) : Prop := INV t ∧ (∃ k bt, CT k bt t ∧ MT k bt t) ∧ t 5 1 = t 149 6 ∧ t 5 2 = t 149 7
theorem INV2.fr {σ w : St} (h : INV2 σ) (hw : INV w) (f : ∀ c i, P0 c i → w c i = σ c i) : INV2 w := by
  obtain ⟨-, ⟨k, bt, hC, hM⟩, e1, e2⟩ := h
  refine ⟨hw, ⟨k, bt, ⟨hC.1, ?_, fun i hi => ?_⟩, hM.1, ?_, fun i hi => ?_⟩, ?_, ?_⟩
  · rw [f 1 1 (by unfold P0; omega)]; exact hC.2.1
  · rw [f 2 i (by unfold P0; omega)]; exact hC.2.2 i hi
  · rw [f 149 5 (by unfold P0; omega)]; exact hM.2.1
  · rw [f 153 i (by unfold P0; omega)]; exact hM.2.2 i hi
  · rw [f 5 1 (by unfold P0; omega), f 149 6 (by unfold P0; omega)]; exact e1
  · rw [f 5 2 (by unfold P0; omega), f 149 7 (by unfold P0; omega)]; exact e2
theorem fo_FX11_end {t : St} (a : Int32) : Fo (fun c i => ¬ (c = 1 ∧ i = 1)) t (FX11_end a t) := by
  unfold FX11_end
  exact Fo.ite Fo.ret (Fo.rd (fun _ => Fo.ite (Fo.wr (fun c j h e q => h ⟨e, q⟩) (fun _ => Fo.ret)) Fo.ret))
theorem fo_FX12_end {t : St} (a : Int32) : Fo (fun c i => ¬ (c = 149 ∧ i = 5)) t (FX12_end a t) := by
  unfold FX12_end
  exact Fo.rd (fun _ => Fo.bd (fo_FX12_in _ _ _) (fun _ _ => Fo.ite Fo.ret (Fo.wr (fun c j h e q => h ⟨e, q⟩) (fun _ => Fo.ret))))
theorem nI_cl2 {x : Int32} (h : IsR 256 x) : nI x.toNatClampNeg = x ∧ x.toNatClampNeg < 256 := by
  obtain ⟨j, hj, rfl⟩ := h
  rw [nI_cl (by omega)]
  exact ⟨rfl, hj⟩
theorem z_feed {σ : St} (hI : INV2 σ) (a b c d e : Int32) : Ok (FX11_feed a b c d e σ) (fun r u => Ok (FX12_feed a b c d e u) (fun r2 w => INV2 w ∧ r = r2)) := by
  obtain ⟨hI1, ⟨k, bt, hC, hM⟩, e1, e2⟩ := id hI
  obtain ⟨r, u, g1, r2, w, g2, hw, hr⟩ := s_feed hI1 a b c d e
  refine ⟨r, u, g1, r2, w, g2, ?_, hr⟩
  by_cases hk : k ≤ 380
  · obtain ⟨-, c1, c2, c3, c4⟩ := (f_feedC hC.2.1 hk).out g1
    obtain ⟨-, m1, m2, m3, m4⟩ := (f_feedM (t := u) (k := k) (by rw [c1 149 (by decide) (by decide)]; exact hM.2.1) hk).out g2
    have bb : ∀ i, nI (by20 (ff5 a b c d e) i).toNatClampNeg = by20 (ff5 a b c d e) i ∧ (by20 (ff5 a b c d e) i).toNatClampNeg < 256 := fun i => nI_cl2 (and255 _)
    refine ⟨hw, ⟨k + 20, fun i => if i < k then bt i else (by20 (ff5 a b c d e) (i - k)).toNatClampNeg, ⟨by omega, ?_, fun i hi => ?_⟩, by omega, ?_, fun i hi => ?_⟩, ?_, ?_⟩
    · rw [m1 1 (by decide) (by decide)]; exact c2
    · rw [m1 2 (by decide) (by decide)]
      dsimp only
      by_cases q : i < k
      · rw [if_pos q, c3 i q]; exact hC.2.2 i q
      · rw [if_neg q]
        have h4 := c4 (i - k) (by omega)
        rw [show k + (i - k) = i by omega] at h4
        exact ⟨(bb _).2, by rw [h4]; exact (bb _).1.symm⟩
    · rw [m2, pk_us]
    · dsimp only
      by_cases q : i < k
      · rw [if_pos q, m3 i q, c1 153 (by decide) (by decide)]; exact hM.2.2 i q
      · rw [if_neg q]
        have h4 := m4 (i - k) (by omega)
        rw [show k + (i - k) = i by omega] at h4
        exact ⟨(bb _).2, by rw [h4]; exact (bb _).1.symm⟩
    · rw [m1 5 (by decide) (by decide), c1 5 (by decide) (by decide), m2, pk_un (by decide), c1 149 (by decide) (by decide)]; exact e1
    · rw [m1 5 (by decide) (by decide), c1 5 (by decide) (by decide), m2, pk_un (by decide), c1 149 (by decide) (by decide)]; exact e2
  · have eu : σ = u := by
      rcases (gX11_feed hI1.1 hC.2.1 hC.1).out g1 with ⟨-, -, h⟩ | ⟨h, -⟩
      · exact h
      · omega
    subst eu
    have ew : σ = w := by
      rcases (nX12_feed hI1.1 hI1.2.1 hM.2.1 hM.1).out g2 with ⟨-, -, h⟩ | ⟨h, -⟩
      · exact h
      · omega
    subst ew
    exact hI
theorem z_end {σ : St} (hI : INV2 σ) (a : Int32) : Ok (FX11_end a σ) (fun r u => Ok (FX12_end a u) (fun r2 w => INV2 w ∧ r = r2)) := by
  obtain ⟨hI1, ⟨k, bt, hC, hM⟩, e1, e2⟩ := id hI
  obtain ⟨r, u, g1, r2, w, g2, hw, hr⟩ := s_end hI1 a
  refine ⟨r, u, g1, r2, w, g2, ?_, hr⟩
  have f1 := fo_FX11_end a r u g1
  have f2 := fo_FX12_end a r2 w g2
  have hj : ∃ j, j ≤ k ∧ u 1 1 = nI j := by
    rcases (gX11_end hI1.1 hC.2.1 hC.1).out g1 with ⟨-, rfl, -⟩ | ⟨-, j, hj, -, h⟩
    · exact ⟨k, Nat.le_refl _, hC.2.1⟩
    · exact ⟨j, hj, h.2.2⟩
  obtain ⟨j, hj, ej⟩ := hj
  obtain ⟨k2, hk2, w1, w2⟩ := hw.2.2
  have ek : k2 = j := by
    rw [f2 1 1 (by decide), ej] at w1
    have := hC.1
    exact (nI_inj w1 (by omega) (by omega)).symm
  subst ek
  refine ⟨hw, ⟨k2, bt, ⟨hk2, w1, fun i hi => ?_⟩, hk2, w2, fun i hi => ?_⟩, ?_, ?_⟩
  · rw [f2 2 i (by omega), f1 2 i (by omega)]; exact hC.2.2 i (by omega)
  · rw [f2 153 i (by omega), f1 153 i (by omega)]; exact hM.2.2 i (by omega)
  · rw [f2 5 1 (by decide), f1 5 1 (by decide), f2 149 6 (by decide), f1 149 6 (by decide)]; exact e1
  · rw [f2 5 2 (by decide), f1 5 2 (by decide), f2 149 7 (by decide), f1 149 7 (by decide)]; exact e2
theorem z_told {σ : St} (hI : INV2 σ) (a : Int32) : Ok (FX11_told a σ) (fun r u => Ok (FX12_told a u) (fun r2 w => INV2 w ∧ r = r2)) := by
  obtain ⟨hI1, ⟨k, bt, hC, hM⟩, e1, e2⟩ := id hI
  obtain ⟨r, u, g1, r2, w, g2, hw⟩ := s_told hI1 a
  refine ⟨r, u, g1, r2, w, g2, ?_⟩
  by_cases hs : IsR 3 a
  · obtain ⟨s, hs, rfl⟩ := hs
    obtain ⟨t1, u1⟩ := c_told hC hs r u g1
    have gc : GC (wr σ 1 1 0) u := by
      rcases (gX11_told (GC.refl hI1.1)).out g1 with ⟨h, -⟩ | ⟨-, h⟩
      · exact absurd ⟨s, hs, rfl⟩ h
      · exact h
    have pu : PI u := hI1.2.1.al (fun b h _ => by rw [gc.2 b (by omega), wr_off b (by omega)])
    have gm : GM (wr u 149 5 0) w := by
      rcases (nX12_told (σ := u) ⟨gc.1, fun _ _ => rfl, rfl, pu⟩).out g2 with ⟨h, -⟩ | ⟨-, h⟩
      · exact absurd ⟨s, hs, rfl⟩ h
      · exact h
    obtain ⟨m, hm, em⟩ := gc.1.rd ty_m3 (by omega)
    have mu : MT k bt u := ⟨hM.1, by rw [gc.2 149 (by omega), wrf (by decide)]; exact hM.2.1, fun i hi => by rw [gc.2 153 (by omega), wrf (by decide)]; exact hM.2.2 i hi⟩
    have t2 := m_told mu hs em hm r2 w g2
    have w5 : ∀ i, w 5 i = u 5 i := fun i => by rw [gm.2.1 5 (by omega), wrf (by decide)]
    obtain ⟨q1, q2, q3⟩ := t1.uq t2
    obtain ⟨k2, hk2, w1, w2⟩ := hw.2.2
    have ek : k2 = 0 := by
      rw [gm.2.1 1 (by omega), wrf (by decide), u1] at w1
      exact (nI_inj (a := 0) w1 (by omega) (by omega)).symm
    subst ek
    exact ⟨⟨hw, ⟨0, bt, ⟨by omega, w1, fun i hi => by omega⟩, by omega, w2, fun i hi => by omega⟩, by rw [w5]; exact q2, by rw [w5]; exact q3⟩, q1⟩
  · obtain ⟨rfl, rfl⟩ := c_told0 hs r u g1
    obtain ⟨rfl, rfl⟩ := m_told0 hs r2 w g2
    exact ⟨hI, rfl⟩
theorem z_fault {σ : St} (hI : INV2 σ) (a : Int32) : Ok (FX11_fault a σ) (fun r u => Ok (FX12_fault a u) (fun r2 w => INV2 w ∧ r = r2)) := by
  unfold FX11_fault FX12_fault
  refine Ok.ite (fun c => Ok.rdE rfl (Ok.ret (Ok.ifT c (Ok.rdE rfl (Ok.ret ⟨hI, hI.2.2.1⟩))))) (fun c => Ok.ite (fun c1 => Ok.rdE rfl (Ok.ret (Ok.ifF c (Ok.ifT c1 (Ok.rdE rfl (Ok.ret ⟨hI, hI.2.2.2⟩)))))) (fun c1 => Ok.ret (Ok.ifF c (Ok.ifF c1 (Ok.ret ⟨hI, rfl⟩)))))
theorem z_count {σ : St} (hI : INV2 σ) (a : Int32) : Ok (FX11_count a σ) (fun r u => Ok (FX12_count a u) (fun r2 w => INV2 w)) := by
  obtain ⟨r, u, e1, r2, w, e2, hw⟩ := s_count hI.1 a
  have f1 := fo_FX11_count (P := P0) a r u e1
  have f2 := fo_FX12_count (P := P0) a r2 w e2
  exact ⟨r, u, e1, r2, w, e2, hI.fr hw (fun c i h => (f2 c i h).trans (f1 c i h))⟩
theorem z_look {σ : St} (hI : INV2 σ) (a b : Int32) : Ok (FX11_look a b σ) (fun r u => Ok (FX12_look a b u) (fun r2 w => INV2 w)) := by
  obtain ⟨r, u, e1, r2, w, e2, hw⟩ := s_look hI.1 a b
  have f1 := fo_FX11_look (P := P0) a b r u e1
  have f2 := fo_FX12_look (P := P0) a b r2 w e2
  exact ⟨r, u, e1, r2, w, e2, hI.fr hw (fun c i h => (f2 c i h).trans (f1 c i h))⟩
theorem z_near {σ : St} (hI : INV2 σ) (a b : Int32) : Ok (FX11_near a b σ) (fun r u => Ok (FX12_near a b u) (fun r2 w => INV2 w)) := by
  obtain ⟨r, u, e1, r2, w, e2, hw⟩ := s_near hI.1 a b
  have f1 := fo_FX11_near (P := P0) a b r u e1
  have f2 := fo_FX12_near (P := P0) a b r2 w e2
  exact ⟨r, u, e1, r2, w, e2, hI.fr hw (fun c i h => (f2 c i h).trans (f1 c i h))⟩
theorem z_line {σ : St} (hI : INV2 σ) (a b c : Int32) : Ok (FX11_line a b c σ) (fun r u => Ok (FX12_line a b c u) (fun r2 w => INV2 w)) := by
  obtain ⟨r, u, e1, r2, w, e2, hw⟩ := s_line hI.1 a b c
  have f1 := fo_FX11_line (P := P0) a b c r u e1
  have f2 := fo_FX12_line (P := P0) a b c r2 w e2
  exact ⟨r, u, e1, r2, w, e2, hI.fr hw (fun c i h => (f2 c i h).trans (f1 c i h))⟩
theorem z_far {σ : St} (hI : INV2 σ) (a b c : Int32) : Ok (FX11_far a b c σ) (fun r u => Ok (FX12_far a b c u) (fun r2 w => INV2 w)) := by
  obtain ⟨r, u, e1, r2, w, e2, hw⟩ := s_far hI.1 a b c
  have f1 := fo_FX11_far (P := P0) a b c r u e1
  have f2 := fo_FX12_far (P := P0) a b c r2 w e2
  exact ⟨r, u, e1, r2, w, e2, hI.fr hw (fun c i h => (f2 c i h).trans (f1 c i h))⟩
theorem z_row {σ : St} (hI : INV2 σ) (a b : Int32) : Ok (FX11_row a b σ) (fun r u => Ok (FX12_row a b u) (fun r2 w => INV2 w)) := by
  obtain ⟨r, u, e1, r2, w, e2, hw⟩ := s_row hI.1 a b
  have f1 := fo_FX11_row (P := P0) a b r u e1
  have f2 := fo_FX12_row (P := P0) a b r2 w e2
  exact ⟨r, u, e1, r2, w, e2, hI.fr hw (fun c i h => (f2 c i h).trans (f1 c i h))⟩
theorem z_place {σ : St} (hI : INV2 σ) (a b : Int32) : Ok (FX11_place a b σ) (fun r u => Ok (FX12_place a b u) (fun r2 w => INV2 w)) := by
  obtain ⟨r, u, e1, r2, w, e2, hw⟩ := s_place hI.1 a b
  have f1 := fo_FX11_place (P := P0) a b r u e1
  have f2 := fo_FX12_place (P := P0) a b r2 w e2
  exact ⟨r, u, e1, r2, w, e2, hI.fr hw (fun c i h => (f2 c i h).trans (f1 c i h))⟩
theorem z_value {σ : St} (hI : INV2 σ) (a b : Int32) : Ok (FX11_value a b σ) (fun r u => Ok (FX12_value a b u) (fun r2 w => INV2 w)) := by
  obtain ⟨r, u, e1, r2, w, e2, hw⟩ := s_value hI.1 a b
  have f1 := fo_FX11_value (P := P0) a b r u e1
  have f2 := fo_FX12_value (P := P0) a b (fun c i h => by unfold P0 at h; omega) r2 w e2
  exact ⟨r, u, e1, r2, w, e2, hI.fr hw (fun c i h => (f2 c i h).trans (f1 c i h))⟩
theorem z_price {σ : St} (hI : INV2 σ) (a b c : Int32) : Ok (FX11_price a b c σ) (fun r u => Ok (FX12_price a b c u) (fun r2 w => INV2 w)) := by
  obtain ⟨r, u, e1, r2, w, e2, hw⟩ := s_price hI.1 a b c
  have f1 := fo_FX11_price (P := P0) a b c r u e1
  have f2 := fo_FX12_price (P := P0) a b c r2 w e2
  exact ⟨r, u, e1, r2, w, e2, hI.fr hw (fun c i h => (f2 c i h).trans (f1 c i h))⟩
theorem z_worst {σ : St} (hI : INV2 σ) (a b : Int32) : Ok (FX11_worst a b σ) (fun r u => Ok (FX12_worst a b u) (fun r2 w => INV2 w)) := by
  obtain ⟨r, u, e1, r2, w, e2, hw⟩ := s_worst hI.1 a b
  have f1 := fo_FX11_worst (P := P0) a b r u e1
  have f2 := fo_FX12_worst (P := P0) a b r2 w e2
  exact ⟨r, u, e1, r2, w, e2, hI.fr hw (fun c i h => (f2 c i h).trans (f1 c i h))⟩
theorem z_longest {σ : St} (hI : INV2 σ) (a : Int32) : Ok (FX11_longest a σ) (fun r u => Ok (FX12_longest a u) (fun r2 w => INV2 w)) := by
  obtain ⟨r, u, e1, r2, w, e2, hw⟩ := s_longest hI.1 a
  have f1 := fo_FX11_longest (P := P0) a r u e1
  have f2 := fo_FX12_longest (P := P0) a r2 w e2
  exact ⟨r, u, e1, r2, w, e2, hI.fr hw (fun c i h => (f2 c i h).trans (f1 c i h))⟩
theorem z_least {σ : St} (hI : INV2 σ) (a b : Int32) : Ok (FX11_least a b σ) (fun r u => Ok (FX12_least a b u) (fun r2 w => INV2 w)) := by
  obtain ⟨r, u, e1, r2, w, e2, hw⟩ := s_least hI.1 a b
  have f1 := fo_FX11_least (P := P0) a b (fun c i h => by unfold P0 at h; omega) r u e1
  have f2 := fo_FX12_least (P := P0) a b (fun c i h => by unfold P0 at h; omega) r2 w e2
  exact ⟨r, u, e1, r2, w, e2, hI.fr hw (fun c i h => (f2 c i h).trans (f1 c i h))⟩
theorem z_best {σ : St} (hI : INV2 σ) (a b c : Int32) : Ok (FX11_best a b c σ) (fun r u => Ok (FX12_best a b c u) (fun r2 w => INV2 w)) := by
  obtain ⟨r, u, e1, r2, w, e2, hw⟩ := s_best hI.1 a b c
  have f1 := fo_FX11_best (P := P0) a b c (fun c i h => by unfold P0 at h; omega) r u e1
  have f2 := fo_FX12_best (P := P0) a b c (fun c i h => by unfold P0 at h; omega) r2 w e2
  exact ⟨r, u, e1, r2, w, e2, hI.fr hw (fun c i h => (f2 c i h).trans (f1 c i h))⟩
theorem z_ways {σ : St} (hI : INV2 σ) (a b : Int32) : Ok (FX11_ways a b σ) (fun r u => Ok (FX12_ways a b u) (fun r2 w => INV2 w)) := by
  obtain ⟨r, u, e1, r2, w, e2, hw⟩ := s_ways hI.1 a b
  have f1 := fo_FX11_ways (P := P0) a b (fun c i h => by unfold P0 at h; omega) r u e1
  have f2 := fo_FX12_ways (P := P0) a b (fun c i h => by unfold P0 at h; omega) r2 w e2
  exact ⟨r, u, e1, r2, w, e2, hI.fr hw (fun c i h => (f2 c i h).trans (f1 c i h))⟩
theorem z_within {σ : St} (hI : INV2 σ) (a b c : Int32) : Ok (FX11_within a b c σ) (fun r u => Ok (FX12_within a b c u) (fun r2 w => INV2 w)) := by
  obtain ⟨r, u, e1, r2, w, e2, hw⟩ := s_within hI.1 a b c
  have f1 := fo_FX11_within (P := P0) a b c (fun c i h => by unfold P0 at h; omega) r u e1
  have f2 := fo_FX12_within (P := P0) a b c (fun c i h => by unfold P0 at h; omega) r2 w e2
  exact ⟨r, u, e1, r2, w, e2, hI.fr hw (fun c i h => (f2 c i h).trans (f1 c i h))⟩
theorem z_firsts {σ : St} (hI : INV2 σ) (a b : Int32) : Ok (FX11_firsts a b σ) (fun r u => Ok (FX12_firsts a b u) (fun r2 w => INV2 w)) := by
  obtain ⟨r, u, e1, r2, w, e2, hw⟩ := s_firsts hI.1 a b
  have f1 := fo_FX11_firsts (P := P0) a b (fun c i h => by unfold P0 at h; omega) r u e1
  have f2 := fo_FX12_firsts (P := P0) a b (fun c i h => by unfold P0 at h; omega) r2 w e2
  exact ⟨r, u, e1, r2, w, e2, hI.fr hw (fun c i h => (f2 c i h).trans (f1 c i h))⟩
theorem z_bound {σ : St} (hI : INV2 σ) (a b c : Int32) : Ok (FX11_bound a b c σ) (fun r u => Ok (FX12_bound a b c u) (fun r2 w => INV2 w)) := by
  obtain ⟨r, u, e1, r2, w, e2, hw⟩ := s_bound hI.1 a b c
  have f1 := fo_FX11_bound (P := P0) a b c r u e1
  have f2 := fo_FX12_bound (P := P0) a b c r2 w e2
  exact ⟨r, u, e1, r2, w, e2, hI.fr hw (fun c i h => (f2 c i h).trans (f1 c i h))⟩
theorem z_minor {σ : St} (hI : INV2 σ) (a : Int32) : Ok (FX11_minor a σ) (fun r u => Ok (FX12_minor a u) (fun r2 w => INV2 w)) := by
  obtain ⟨r, u, e1, r2, w, e2, hw⟩ := s_minor hI.1 a
  have f1 := fo_FX11_minor (P := P0) a (fun c i h => by unfold P0 at h; omega) r u e1
  have f2 := fo_FX12_minor (P := P0) a (fun c i h => by unfold P0 at h; omega) r2 w e2
  exact ⟨r, u, e1, r2, w, e2, hI.fr hw (fun c i h => (f2 c i h).trans (f1 c i h))⟩
theorem z_among {σ : St} (hI : INV2 σ) (a b c : Int32) : Ok (FX11_among a b c σ) (fun r u => Ok (FX12_among a b c u) (fun r2 w => INV2 w)) := by
  obtain ⟨r, u, e1, r2, w, e2, hw⟩ := s_among hI.1 a b c
  have f1 := fo_FX11_among (P := P0) a b c (fun c i h => by unfold P0 at h; omega) r u e1
  have f2 := fo_FX12_among (P := P0) a b c (fun c i h => by unfold P0 at h; omega) r2 w e2
  exact ⟨r, u, e1, r2, w, e2, hI.fr hw (fun c i h => (f2 c i h).trans (f1 c i h))⟩
theorem z_split {σ : St} (hI : INV2 σ) (a b c : Int32) : Ok (FX11_split a b c σ) (fun r u => Ok (FX12_split a b c u) (fun r2 w => INV2 w)) := by
  obtain ⟨r, u, e1, r2, w, e2, hw⟩ := s_split hI.1 a b c
  have f1 := fo_FX11_split (P := P0) a b c r u e1
  have f2 := fo_FX12_split (P := P0) a b c r2 w e2
  exact ⟨r, u, e1, r2, w, e2, hI.fr hw (fun c i h => (f2 c i h).trans (f1 c i h))⟩
theorem z_halve {σ : St} (hI : INV2 σ) (a : Int32) : Ok (FX11_halve a σ) (fun r u => Ok (FX12_halve a u) (fun r2 w => INV2 w)) := by
  obtain ⟨r, u, e1, r2, w, e2, hw⟩ := s_halve hI.1 a
  have f1 := fo_FX11_halve (P := P0) a r u e1
  have f2 := fo_FX12_halve (P := P0) a r2 w e2
  exact ⟨r, u, e1, r2, w, e2, hI.fr hw (fun c i h => (f2 c i h).trans (f1 c i h))⟩
theorem z_bag {σ : St} (hI : INV2 σ) (a b c : Int32) : Ok (FX11_bag a b c σ) (fun r u => Ok (FX12_bag a b c u) (fun r2 w => INV2 w)) := by
  obtain ⟨r, u, e1, r2, w, e2, hw⟩ := s_bag hI.1 a b c
  have f1 := fo_FX11_bag (P := P0) a b c r u e1
  have f2 := fo_FX12_bag (P := P0) a b c r2 w e2
  exact ⟨r, u, e1, r2, w, e2, hI.fr hw (fun c i h => (f2 c i h).trans (f1 c i h))⟩
theorem z_filled {σ : St} (hI : INV2 σ) (a b : Int32) : Ok (FX11_filled a b σ) (fun r u => Ok (FX12_filled a b u) (fun r2 w => INV2 w)) := by
  obtain ⟨r, u, e1, r2, w, e2, hw⟩ := s_filled hI.1 a b
  have f1 := fo_FX11_filled (P := P0) a b r u e1
  have f2 := fo_FX12_filled (P := P0) a b r2 w e2
  exact ⟨r, u, e1, r2, w, e2, hI.fr hw (fun c i h => (f2 c i h).trans (f1 c i h))⟩
theorem z_gain {σ : St} (hI : INV2 σ) (a b c d : Int32) : Ok (FX11_gain a b c d σ) (fun r u => Ok (FX12_gain a b c d u) (fun r2 w => INV2 w)) := by
  obtain ⟨r, u, e1, r2, w, e2, hw⟩ := s_gain hI.1 a b c d
  have f1 := fo_FX11_gain (P := P0) a b c d (fun c i h => by unfold P0 at h; omega) r u e1
  have f2 := fo_FX12_gain (P := P0) a b c d (fun c i h => by unfold P0 at h; omega) r2 w e2
  exact ⟨r, u, e1, r2, w, e2, hI.fr hw (fun c i h => (f2 c i h).trans (f1 c i h))⟩
theorem z_swaps {σ : St} (hI : INV2 σ) (a b c : Int32) : Ok (FX11_swaps a b c σ) (fun r u => Ok (FX12_swaps a b c u) (fun r2 w => INV2 w)) := by
  obtain ⟨r, u, e1, r2, w, e2, hw⟩ := s_swaps hI.1 a b c
  have f1 := fo_FX11_swaps (P := P0) a b c (fun c i h => by unfold P0 at h; omega) r u e1
  have f2 := fo_FX12_swaps (P := P0) a b c (fun c i h => by unfold P0 at h; omega) r2 w e2
  exact ⟨r, u, e1, r2, w, e2, hI.fr hw (fun c i h => (f2 c i h).trans (f1 c i h))⟩
theorem z_moves {σ : St} (hI : INV2 σ) (a b c : Int32) : Ok (FX11_moves a b c σ) (fun r u => Ok (FX12_moves a b c u) (fun r2 w => INV2 w)) := by
  obtain ⟨r, u, e1, r2, w, e2, hw⟩ := s_moves hI.1 a b c
  have f1 := fo_FX11_moves (P := P0) a b c (fun c i h => by unfold P0 at h; omega) r u e1
  have f2 := fo_FX12_moves (P := P0) a b c (fun c i h => by unfold P0 at h; omega) r2 w e2
  exact ⟨r, u, e1, r2, w, e2, hI.fr hw (fun c i h => (f2 c i h).trans (f1 c i h))⟩
theorem z_reverse {σ : St} (hI : INV2 σ) (a : Int32) : Ok (FX11_reverse a σ) (fun r u => Ok (FX12_reverse a u) (fun r2 w => INV2 w)) := by
  obtain ⟨r, u, e1, r2, w, e2, hw⟩ := s_reverse hI.1 a
  have f1 := fo_FX11_reverse (P := P0) a (fun c i h => by unfold P0 at h; omega) r u e1
  have f2 := fo_FX12_reverse (P := P0) a (fun c i h => by unfold P0 at h; omega) r2 w e2
  exact ⟨r, u, e1, r2, w, e2, hI.fr hw (fun c i h => (f2 c i h).trans (f1 c i h))⟩
theorem z_takes {σ : St} (hI : INV2 σ) (a b : Int32) : Ok (FX11_takes a b σ) (fun r u => Ok (FX12_takes a b u) (fun r2 w => INV2 w)) := by
  obtain ⟨r, u, e1, r2, w, e2, hw⟩ := s_takes hI.1 a b
  have f1 := fo_FX11_takes (P := P0) a b (fun c i h => by unfold P0 at h; omega) r u e1
  have f2 := fo_FX12_takes (P := P0) a b (fun c i h => by unfold P0 at h; omega) r2 w e2
  exact ⟨r, u, e1, r2, w, e2, hI.fr hw (fun c i h => (f2 c i h).trans (f1 c i h))⟩
theorem z_polish {σ : St} (hI : INV2 σ) (a b : Int32) : Ok (FX11_polish a b σ) (fun r u => Ok (FX12_polish a b u) (fun r2 w => INV2 w)) := by
  obtain ⟨r, u, e1, r2, w, e2, hw⟩ := s_polish hI.1 a b
  have f1 := fo_FX11_polish (P := P0) a b (fun c i h => by unfold P0 at h; omega) r u e1
  have f2 := fo_FX12_polish (P := P0) a b (fun c i h => by unfold P0 at h; omega) r2 w e2
  exact ⟨r, u, e1, r2, w, e2, hI.fr hw (fun c i h => (f2 c i h).trans (f1 c i h))⟩
theorem z_polished {σ : St} (hI : INV2 σ) (a b : Int32) : Ok (FX11_polished a b σ) (fun r u => Ok (FX12_polished a b u) (fun r2 w => INV2 w)) := by
  obtain ⟨r, u, e1, r2, w, e2, hw⟩ := s_polished hI.1 a b
  have f1 := fo_FX11_polished (P := P0) a b (fun c i h => by unfold P0 at h; omega) r u e1
  have f2 := fo_FX12_polished (P := P0) a b (fun c i h => by unfold P0 at h; omega) r2 w e2
  exact ⟨r, u, e1, r2, w, e2, hI.fr hw (fun c i h => (f2 c i h).trans (f1 c i h))⟩
theorem z_greedy {σ : St} (hI : INV2 σ) (a b : Int32) : Ok (FX11_greedy a b σ) (fun r u => Ok (FX12_greedy a b u) (fun r2 w => INV2 w)) := by
  obtain ⟨r, u, e1, r2, w, e2, hw⟩ := s_greedy hI.1 a b
  have f1 := fo_FX11_greedy (P := P0) a b (fun c i h => by unfold P0 at h; omega) r u e1
  have f2 := fo_FX12_greedy (P := P0) a b (fun c i h => by unfold P0 at h; omega) r2 w e2
  exact ⟨r, u, e1, r2, w, e2, hI.fr hw (fun c i h => (f2 c i h).trans (f1 c i h))⟩
theorem z_layers {σ : St} (hI : INV2 σ) (a b : Int32) : Ok (FX11_layers a b σ) (fun r u => Ok (FX12_layers a b u) (fun r2 w => INV2 w)) := by
  obtain ⟨r, u, e1, r2, w, e2, hw⟩ := s_layers hI.1 a b
  have f1 := fo_FX11_layers (P := P0) a b (fun c i h => by unfold P0 at h; omega) r u e1
  have f2 := fo_FX12_layers (P := P0) a b (fun c i h => by unfold P0 at h; omega) r2 w e2
  exact ⟨r, u, e1, r2, w, e2, hI.fr hw (fun c i h => (f2 c i h).trans (f1 c i h))⟩
theorem z_adds {σ : St} (hI : INV2 σ) (a b c d : Int32) : Ok (FX11_adds a b c d σ) (fun r u => Ok (FX12_adds a b c d u) (fun r2 w => INV2 w)) := by
  obtain ⟨r, u, e1, r2, w, e2, hw⟩ := s_adds hI.1 a b c d
  have f1 := fo_FX11_adds (P := P0) a b c d (fun c i h => by unfold P0 at h; omega) r u e1
  have f2 := fo_FX12_adds (P := P0) a b c d (fun c i h => by unfold P0 at h; omega) r2 w e2
  exact ⟨r, u, e1, r2, w, e2, hI.fr hw (fun c i h => (f2 c i h).trans (f1 c i h))⟩
theorem z_cuts {σ : St} (hI : INV2 σ) (a b c : Int32) : Ok (FX11_cuts a b c σ) (fun r u => Ok (FX12_cuts a b c u) (fun r2 w => INV2 w)) := by
  obtain ⟨r, u, e1, r2, w, e2, hw⟩ := s_cuts hI.1 a b c
  have f1 := fo_FX11_cuts (P := P0) a b c (fun c i h => by unfold P0 at h; omega) r u e1
  have f2 := fo_FX12_cuts (P := P0) a b c (fun c i h => by unfold P0 at h; omega) r2 w e2
  exact ⟨r, u, e1, r2, w, e2, hI.fr hw (fun c i h => (f2 c i h).trans (f1 c i h))⟩
theorem z_merges {σ : St} (hI : INV2 σ) (a b c : Int32) : Ok (FX11_merges a b c σ) (fun r u => Ok (FX12_merges a b c u) (fun r2 w => INV2 w)) := by
  obtain ⟨r, u, e1, r2, w, e2, hw⟩ := s_merges hI.1 a b c
  have f1 := fo_FX11_merges (P := P0) a b c (fun c i h => by unfold P0 at h; omega) r u e1
  have f2 := fo_FX12_merges (P := P0) a b c (fun c i h => by unfold P0 at h; omega) r2 w e2
  exact ⟨r, u, e1, r2, w, e2, hI.fr hw (fun c i h => (f2 c i h).trans (f1 c i h))⟩
theorem z_drops {σ : St} (hI : INV2 σ) (a : Int32) : Ok (FX11_drops a σ) (fun r u => Ok (FX12_drops a u) (fun r2 w => INV2 w)) := by
  obtain ⟨r, u, e1, r2, w, e2, hw⟩ := s_drops hI.1 a
  have f1 := fo_FX11_drops (P := P0) a (fun c i h => by unfold P0 at h; omega) r u e1
  have f2 := fo_FX12_drops (P := P0) a (fun c i h => by unfold P0 at h; omega) r2 w e2
  exact ⟨r, u, e1, r2, w, e2, hI.fr hw (fun c i h => (f2 c i h).trans (f1 c i h))⟩
theorem z_undo {σ : St} (hI : INV2 σ) : Ok (FX11_undo σ) (fun r u => Ok (FX12_undo u) (fun r2 w => INV2 w)) := by
  obtain ⟨r, u, e1, r2, w, e2, hw⟩ := s_undo hI.1
  have f1 := fo_FX11_undo (P := P0) (fun c i h => by unfold P0 at h; omega) r u e1
  have f2 := fo_FX12_undo (P := P0) (fun c i h => by unfold P0 at h; omega) r2 w e2
  exact ⟨r, u, e1, r2, w, e2, hI.fr hw (fun c i h => (f2 c i h).trans (f1 c i h))⟩
theorem z_tell {σ : St} (hI : INV2 σ) (a b : Int32) : Ok (FX11_tell a b σ) (fun r u => Ok (FX12_tell a b u) (fun r2 w => INV2 w)) := by
  obtain ⟨r, u, e1, r2, w, e2, hw⟩ := s_tell hI.1 a b
  have f1 := fo_FX11_tell (P := P0) a b (fun c i h => by unfold P0 at h; omega) r u e1
  have f2 := fo_FX12_tell (P := P0) a b (fun c i h => by unfold P0 at h; omega) r2 w e2
  exact ⟨r, u, e1, r2, w, e2, hI.fr hw (fun c i h => (f2 c i h).trans (f1 c i h))⟩
theorem z_octet {σ : St} (hI : INV2 σ) (a : Int32) : Ok (FX11_octet a σ) (fun r u => Ok (FX12_octet a u) (fun r2 w => INV2 w)) := by
  obtain ⟨r, u, e1, r2, w, e2, hw⟩ := s_octet hI.1 a
  have f1 := fo_FX11_octet (P := P0) a r u e1
  have f2 := fo_FX12_octet (P := P0) a r2 w e2
  exact ⟨r, u, e1, r2, w, e2, hI.fr hw (fun c i h => (f2 c i h).trans (f1 c i h))⟩
end
section
/-! prices: what both say of a set, a step -/
theorem Ok.eq {α : Type} {m : Option (α × St)} {a : α} {t : St} (h : Ok m (fun r u => t = u ∧ r = a)) : m = some (a, t) := by
  obtain ⟨v, s, e, rfl, rfl⟩ := h
  exact e
theorem Ok.bq {α β : Type} {m : Option (α × St)} {a : α} {t : St} {f : α → St → Option (β × St)} {Q : β → St → Prop} (e : m = some (a, t)) (k : Ok (f a t) Q) : Ok (bnd m f) Q := by
  rw [e]
  exact k
theorem wq {C R : Type} {f : C → St → Option ((C ⊕ R) × St)} {t : St} (n : Nat) (c : Nat → C) {r : R} (step : ∀ j, j < n → Ok (f (c j) t) (fun x u => t = u ∧ x = Sum.inl (c (j + 1)))) (last : Ok (f (c n) t) (fun x u => t = u ∧ x = Sum.inr r)) : wh f (c 0) t = some (r, t) := by
  refine Ok.eq (Ok.count n (fun j d s => d = c j ∧ t = s) ?_ ?_ (Nat.zero_le n) ⟨rfl, rfl⟩)
  · rintro j d s hj ⟨rfl, rfl⟩
    refine (step j hj).mono ?_
    rintro x u ⟨rfl, rfl⟩
    exact ⟨rfl, rfl⟩
  · rintro d s ⟨rfl, rfl⟩
    refine last.mono ?_
    rintro x u ⟨rfl, rfl⟩
    exact ⟨rfl, rfl⟩
theorem wq0 {C R : Type} {f : C → St → Option ((C ⊕ R) × St)} {t : St} (n : Nat) (c : Nat → C) {c0 : C} (h0 : c0 = c 0) {r : R} (step : ∀ j, j < n → Ok (f (c j) t) (fun x u => t = u ∧ x = Sum.inl (c (j + 1)))) (last : Ok (f (c n) t) (fun x u => t = u ∧ x = Sum.inr r)) : wh f c0 t = some (r, t) := by
  rw [h0]
  exact wq n c step last
theorem bz {x : Int32} {k : Nat} (hk : k < 32) : (shr x (nI k) &&& 1 = 0) = (x.toBitVec.getLsbD k = false) := by
  have h1 := bit_g (x := x) hk
  obtain ⟨j, hj, e⟩ := pk_andE (shr x (nI k)) (m := 1) 1 (by decide)
  have e : shr x (nI k) &&& 1 = nI j := e
  have hj : j < 2 := hj
  rcases (show j = 0 ∨ j = 1 by omega) with rfl | rfl
  · refine propext ⟨fun _ => ?_, fun _ => e⟩
    cases q : x.toBitVec.getLsbD k
    · rfl
    · have := h1.mpr q
      rw [e] at this
      exact absurd this (by decide)
  · refine propext ⟨fun q => ?_, fun q => ?_⟩
    · rw [e] at q
      exact absurd q (by decide)
    · have := h1.mp e
      rw [q] at this
      cases this
theorem bitN {S k : Nat} (hk : k < 32) : (nI S).toBitVec.getLsbD k = S.testBit k := by
  show (BitVec.ofNat 32 S).getLsbD k = S.testBit k
  rw [BitVec.getLsbD_ofNat]
  simp [hk]
theorem bitC {x : Int32} {k : Nat} (hk : k < 32) : (x ^^^ -1).toBitVec.getLsbD k = !x.toBitVec.getLsbD k := by
  show (x.toBitVec ^^^ 4294967295#32).getLsbD k = _
  rw [BitVec.getLsbD_xor]
  have h1 : (4294967295#32).getLsbD k = true := (by decide : ∀ i, i < 32 → (4294967295#32).getLsbD i = true) k hk
  rw [h1]
  simp
theorem q_bitCount {S : Nat} (hS : S < 512) {t : St} : FJ6_bitCount_0f7a4 (nI S) t = some (nI (cnt S 9), t) := by rw [bcx_e, bcx_all S hS]
theorem q_ones {S : Nat} (hS : S < 512) {t : St} : FX12_ones (nI S) t = some (nI (cnt S 9), t) := Ok.eq (e_ones hS ⟨rfl, rfl⟩)
theorem q_weightOf {x n l : Nat} {w : Nat → Nat → Nat} {t : St} (h : CN x n l w t) (g : netAt x = true) {a b : Nat} (ha : a < 9) (hb : b < 9) : FX5_weightOf x (nI a) (nI b) t = some (nI (w a b), t) := Ok.eq (e_weightOf h g ha hb ⟨rfl, rfl⟩)
theorem q_points {s n : Nat} {w : Nat → Nat → Nat} {t : St} (h : RN s n w t) (hs : s < 3) : FX12_points (nI s) t = some (nI n, t) := Ok.eq (m_points h hs ⟨rfl, rfl⟩)
theorem q_weight {s n : Nat} {w : Nat → Nat → Nat} {t : St} (h : RN s n w t) (hs : s < 3) {a b : Nat} (ha : a < 9) (hb : b < 9) : FX12_weight (nI s) (nI a) (nI b) t = some (nI (w a b), t) := Ok.eq (m_weight h hs ha hb ⟨rfl, rfl⟩)
theorem q_nearOf {s n : Nat} {w : Nat → Nat → Nat} {t : St} (h : RN s n w t) (hs : s < 3) (hn : n < 10) (hw : WF n w) {a : Nat} (ha : a < 9) : FX12_nearOf (nI s) (nI a) t = some (nI (nr w a), t) := Ok.eq (m_nearOf h hs hn hw ha ⟨rfl, rfl⟩)
theorem q_has {S j : Nat} (hS : S < 2147483648) (hj : j < 32) {t : St} : FX12_has (nI S) (nI j) t = some (nI (S.testBit j).toNat, t) := Ok.eq ((xX12_has hS hj).mono (fun _ _ h => h))
theorem b01 {b : Bool} : (nI b.toNat = 0) = (b = false) := by
  cases b
  · exact propext ⟨fun _ => rfl, fun _ => rfl⟩
  · exact propext ⟨fun h => absurd h (by decide), fun h => by cases h⟩
theorem nI_s1 {a : Nat} (h : 1 ≤ a) : nI a - 1 = nI (a - 1) := nI_sub h
/-! pure -/
def cutW (n : Nat) (w : Nat → Nat → Nat) (A : Nat) : Nat := sm n (fun a => if A.testBit a = true then sm n (fun b => if A.testBit b = true then 0 else w a b) else 0)
def gatS (n : Nat) (w : Nat → Nat → Nat) (A : Nat) : Nat := sm n (fun a => if A.testBit a = true ∧ dif (nr w a) A ≠ 0 then 1 else 0)
def frgS (n : Nat) (w : Nat → Nat → Nat) (A : Nat) : Nat := sm n (fun a => if A.testBit a = false ∧ nr w a &&& A ≠ 0 then 1 else 0)
theorem cnt_mkm {P : Nat → Bool} : ∀ {n m : Nat}, n ≤ m → cnt (mkm n P) m = sm n (fun a => if P a = true then 1 else 0) := by
  intro n m h
  induction m with
  | zero =>
    have : n = 0 := by omega
    subst this
    rfl
  | succ m ih =>
    rw [cnt_succ, mkm_bit]
    by_cases e : n ≤ m
    · rw [ih e]
      have : ¬ m < n := by omega
      simp [this]
    · have : n = m + 1 := by omega
      subst this
      have key : ∀ k, k ≤ m → cnt (mkm (m + 1) P) k = sm k (fun a => if P a = true then 1 else 0) := by
        intro k
        induction k with
        | zero => intro _; rfl
        | succ k ihk =>
          intro hk
          rw [cnt_succ, ihk (by omega), mkm_bit]
          have : k < m + 1 := by omega
          simp only [this, decide_true, Bool.true_and]
          rfl
      rw [key m (Nat.le_refl _)]
      simp only [Nat.lt_succ_self, decide_true, Bool.true_and]
      rfl
theorem cutW_le {n : Nat} {w : Nat → Nat → Nat} {A : Nat} (hw : WF n w) (hn : n < 10) : cutW n w A ≤ 729 := by
  have h1 : ∀ a, sm n (fun b => if A.testBit b = true then 0 else w a b) ≤ n * 9 := fun a => sm_le (fun b _ => by
    have := hw.1 a b
    split <;> omega)
  have h2 := sm_le (f := fun a => if A.testBit a = true then sm n (fun b => if A.testBit b = true then 0 else w a b) else 0) (b := 81) (n := n) (fun a _ => by
    have := h1 a
    show (if A.testBit a = true then _ else 0) ≤ 81
    split <;> omega)
  unfold cutW
  omega
theorem sm_le1 {f : Nat → Nat} {n : Nat} (h : ∀ i, f i ≤ 1) : sm n f ≤ n := by
  have := sm_le (f := f) (b := 1) (n := n) (fun i _ => h i)
  omega
theorem gatS_le {n : Nat} {w : Nat → Nat → Nat} {A : Nat} : gatS n w A ≤ n := sm_le1 (fun i => by split <;> omega)
theorem frgS_le {n : Nat} {w : Nat → Nat → Nat} {A : Nat} : frgS n w A ≤ n := sm_le1 (fun i => by split <;> omega)
/-! the class -/
theorem q_cutWeight {x n l : Nat} {w : Nat → Nat → Nat} {t : St} (h : CN x n l w t) (g : netAt x = true) (hw : WF n w) (hn : n < 10) {A : Nat} (hA : A < 512) : FX6_cutWeight x (nI A) t = some (nI (cutW n w A), t) := by
  refine Ok.eq ?_
  unfold FX6_cutWeight
  refine Ok.ckT g (Ok.bq (a := nI (cutW n w A)) (t := t) (wq n (fun j => (nI (sm j (fun a => if A.testBit a = true then sm n (fun b => if A.testBit b = true then 0 else w a b) else 0)), nI j)) (fun j hj => ?_) ?_) (Ok.ret ⟨rfl, rfl⟩))
  · unfold SX6_cutWeight_4
    dsimp only
    refine Ok.rdE h.1 (Ok.ifF (by rw [nI_leP (by omega) (by omega)]; omega) (Ok.ckT (inb_n (by omega) (by omega)) ?_))
    rw [nI_cl (by omega)]
    refine Ok.rdE (h.2.2.1 j (by omega)) ?_
    refine Ok.bq (a := nI (sm (j + 1) (fun a => if A.testBit a = true then sm n (fun b => if A.testBit b = true then 0 else w a b) else 0))) (t := t) (Ok.eq ?_) (Ok.ret ⟨rfl, by rw [nI_1]⟩)
    show Ok _ (fun r u => t = u ∧ r = nI (sm j (fun a => if A.testBit a = true then sm n (fun b => if A.testBit b = true then 0 else w a b) else 0) + (if A.testBit j = true then sm n (fun b => if A.testBit b = true then 0 else w j b) else 0)))
    refine Ok.cv (bitn (by omega) (by omega)) (Ok.ite (fun c => Ok.ret ⟨rfl, ?_⟩) (fun c => ?_))
    · rw [if_neg (by rw [c]; decide), Nat.add_zero]
    · have c : A.testBit j = true := by
        cases q : A.testBit j
        · exact absurd q c
        · rfl
      rw [if_pos c, nI_dif nr_lt hA]
      have hd : dif (nr w j) A < 512 := dif_lt nr_lt
      refine Ok.cv (nI_eqP (b := 0) (by omega) (by omega)) (Ok.ite (fun c0 => Ok.ret ⟨rfl, ?_⟩) (fun c0 => ?_))
      · rw [sm_zero (n := n), Nat.add_zero]
        intro b hb
        by_cases e : A.testBit b = true
        · rw [if_pos e]
        · rw [if_neg e]
          have h1 : (dif (nr w j) A).testBit b = false := by rw [c0, Nat.zero_testBit]
          rw [dif_bit nr_lt, nr_bit (by omega)] at h1
          have e : A.testBit b = false := by
            cases q : A.testBit b
            · rfl
            · exact absurd q e
          rw [e] at h1
          simp at h1
          omega
      · refine Ok.bq (a := nI (sm j (fun a => if A.testBit a = true then sm n (fun b => if A.testBit b = true then 0 else w a b) else 0) + sm n (fun b => if A.testBit b = true then 0 else w j b))) (t := t) (wq n (fun i => (nI (sm j (fun a => if A.testBit a = true then sm n (fun b => if A.testBit b = true then 0 else w a b) else 0) + sm i (fun b => if A.testBit b = true then 0 else w j b)), nI i)) (fun i hi => ?_) ?_) (Ok.ret ⟨rfl, rfl⟩)
        · unfold SX6_cutWeight_43
          dsimp only
          refine Ok.rdE h.1 (Ok.ifF (by rw [nI_leP (by omega) (by omega)]; omega) ?_)
          refine Ok.bq (a := nI (sm j (fun a => if A.testBit a = true then sm n (fun b => if A.testBit b = true then 0 else w a b) else 0) + sm (i + 1) (fun b => if A.testBit b = true then 0 else w j b))) (t := t) (Ok.eq ?_) (Ok.ret ⟨rfl, by rw [nI_1]⟩)
          show Ok _ (fun r u => t = u ∧ r = nI (sm j (fun a => if A.testBit a = true then sm n (fun b => if A.testBit b = true then 0 else w a b) else 0) + (sm i (fun b => if A.testBit b = true then 0 else w j b) + (if A.testBit i = true then 0 else w j i))))
          have hb : (dif (nr w j) A).testBit i = (decide (0 < w j i) && !A.testBit i) := by rw [dif_bit nr_lt, nr_bit (by omega)]
          refine Ok.cv (bitn (by omega) (by omega)) (Ok.ite (fun c1 => Ok.ret ⟨rfl, ?_⟩) (fun c1 => Ok.bq (q_weightOf h g (by omega) (by omega)) (Ok.ret ⟨rfl, ?_⟩)))
          · rw [hb] at c1
            congr 1
            by_cases e : A.testBit i = true
            · rw [if_pos e]; omega
            · rw [if_neg e]
              have e : A.testBit i = false := by
                cases q : A.testBit i
                · rfl
                · exact absurd q e
              rw [e] at c1
              simp at c1
              omega
          · rw [hb] at c1
            rw [nI_add]
            congr 1
            by_cases e : A.testBit i = true
            · rw [e] at c1
              simp at c1
            · rw [if_neg e]; omega
        · unfold SX6_cutWeight_43
          dsimp only
          exact Ok.rdE h.1 (Ok.ifT (by rw [nI_leP (by omega) (by omega)]; omega) (Ok.ret ⟨rfl, rfl⟩))
  · unfold SX6_cutWeight_4
    dsimp only
    exact Ok.rdE h.1 (Ok.ifT (by rw [nI_leP (by omega) (by omega)]; omega) (Ok.ret ⟨rfl, rfl⟩))
/-- those of some that have a line with one of others -/
theorem q_withLine {x n l : Nat} {w : Nat → Nat → Nat} {t : St} (h : CN x n l w t) (g : netAt x = true) (hn : n < 10) {a b : Int32} {P : Nat → Bool} {B : Nat → Nat} (hP : ∀ p, p < 9 → (shr a (nI p) &&& 1 = 0) = (P p = false)) (hB : ∀ p, p < 9 → nI (nr w p) &&& b = nI (B p) ∧ B p < 512) : FX6_withLineInto x a b t = some (nI (mkm n (fun p => P p && decide (B p ≠ 0))), t) := by
  refine Ok.eq ?_
  unfold FX6_withLineInto
  refine Ok.ckT g (Ok.bq (a := nI (mkm n (fun p => P p && decide (B p ≠ 0)))) (t := t) (wq n (fun j => (nI (mkm j (fun p => P p && decide (B p ≠ 0))), nI j)) (fun j hj => ?_) ?_) (Ok.ret ⟨rfl, rfl⟩))
  · unfold SX6_withLineInto_5
    dsimp only
    refine Ok.rdE h.1 (Ok.ifF (by rw [nI_leP (by omega) (by omega)]; omega) ?_)
    refine Ok.bq (a := nI (mkm (j + 1) (fun p => P p && decide (B p ≠ 0)))) (t := t) (Ok.eq ?_) (Ok.ret ⟨rfl, by rw [nI_1]⟩)
    show Ok _ (fun r u => t = u ∧ r = nI (mkm j (fun p => P p && decide (B p ≠ 0)) ||| (if (P j && decide (B j ≠ 0)) = true then 2 ^ j else 0)))
    refine Ok.cv (hP j (by omega)) (Ok.ite (fun c => Ok.ret ⟨rfl, ?_⟩) (fun c => ?_))
    · rw [c, if_neg (by simp), Nat.or_zero]
    · have c : P j = true := by
        cases q : P j
        · exact absurd q c
        · rfl
      refine Ok.ckT (inb_n (by omega) (by omega)) ?_
      rw [nI_cl (by omega)]
      refine Ok.rdE (h.2.2.1 j (by omega)) ?_
      rw [(hB j (by omega)).1]
      have hb := (hB j (by omega)).2
      refine Ok.cv (nI_eqP (b := 0) (by omega) (by omega)) (Ok.ite (fun c0 => Ok.ret ⟨rfl, ?_⟩) (fun c0 => Ok.ret ⟨rfl, ?_⟩))
      · rw [if_neg (by simp [c0]), Nat.or_zero]
      · rw [if_pos (by simp [c, c0]), shl_1 (by omega), nI_or]
  · unfold SX6_withLineInto_5
    dsimp only
    exact Ok.rdE h.1 (Ok.ifT (by rw [nI_leP (by omega) (by omega)]; omega) (Ok.ret ⟨rfl, rfl⟩))
theorem and_lt9 {a b : Nat} (ha : a < 512) : a &&& b < 512 := and9 ha
theorem q_gateSize {x n l : Nat} {w : Nat → Nat → Nat} {t : St} (h : CN x n l w t) (g : netAt x = true) (hn : n < 10) {A : Nat} (hA : A < 512) : FX6_gateSize x (nI A) t = some (nI (gatS n w A), t) := by
  refine Ok.eq ?_
  unfold FX6_gateSize
  refine Ok.ckT g (Ok.bq (q_withLine h g hn (P := fun p => A.testBit p) (B := fun p => dif (nr w p) A) (fun p hp => bitn (by omega) (by omega)) (fun p hp => ⟨nI_dif nr_lt hA, dif_lt nr_lt⟩)) ?_)
  refine Ok.bq (q_bitCount (Nat.lt_of_lt_of_le mkm_lt (pow9 (by omega)))) (Ok.ret ⟨rfl, ?_⟩)
  rw [cnt_mkm (by omega)]
  congr 1
  refine sm_congr (fun i _ => ?_)
  by_cases c : A.testBit i = true ∧ dif (nr w i) A ≠ 0
  · rw [if_pos c, if_pos (by simp [c.1, c.2])]
  · rw [if_neg c, if_neg (fun q => c ?_)]
    simp only [Bool.and_eq_true, decide_eq_true_eq] at q
    exact q
theorem q_fringeSize {x n l : Nat} {w : Nat → Nat → Nat} {t : St} (h : CN x n l w t) (g : netAt x = true) (hn : n < 10) {A : Nat} (hA : A < 512) : FX6_fringeSize x (nI A) t = some (nI (frgS n w A), t) := by
  refine Ok.eq ?_
  unfold FX6_fringeSize
  refine Ok.ckT g (Ok.bq (q_withLine h g hn (P := fun p => !A.testBit p) (B := fun p => nr w p &&& A) (fun p hp => ?_) (fun p hp => ⟨nI_and _ _, and9 nr_lt⟩)) ?_)
  · rw [bz (by omega), bitC (by omega), bitN (by omega)]
  refine Ok.bq (q_bitCount (Nat.lt_of_lt_of_le mkm_lt (pow9 (by omega)))) (Ok.ret ⟨rfl, ?_⟩)
  rw [cnt_mkm (by omega)]
  congr 1
  refine sm_congr (fun i _ => ?_)
  by_cases c : A.testBit i = false ∧ nr w i &&& A ≠ 0
  · rw [if_pos c, if_pos (by simp [c.1, c.2])]
  · rw [if_neg c, if_neg (fun q => c ?_)]
    simp only [Bool.and_eq_true, decide_eq_true_eq, Bool.not_eq_true'] at q
    exact q
/-! the reference -/
/-- what 0: the cut, 1: the gate, 2: the fringe -/
def spl (n : Nat) (w : Nat → Nat → Nat) (A k : Nat) : Nat := if k = 1 then gatS n w A else if k = 2 then frgS n w A else cutW n w A
theorem q_splitOf {s n : Nat} {w : Nat → Nat → Nat} {t : St} (h : RN s n w t) (hs : s < 3) (hw : WF n w) (hn : n < 10) {A k : Nat} (hA : A < 512) (hk : k < 3) : FX12_splitOf (nI s) (nI A) (nI k) t = some (nI (spl n w A k), t) := by
  refine Ok.eq ?_
  unfold FX12_splitOf
  have e : spl n w A k = sm n (fun a => if k = 1 then (if A.testBit a = true ∧ dif (nr w a) A ≠ 0 then 1 else 0) else if k = 2 then (if A.testBit a = false ∧ nr w a &&& A ≠ 0 then 1 else 0) else (if A.testBit a = true then sm n (fun b => if A.testBit b = true then 0 else w a b) else 0)) := by
    unfold spl gatS frgS cutW
    rcases (show k = 0 ∨ k = 1 ∨ k = 2 by omega) with rfl | rfl | rfl <;> rfl
  rw [e]
  generalize hF : (fun a => if k = 1 then (if A.testBit a = true ∧ dif (nr w a) A ≠ 0 then 1 else 0) else if k = 2 then (if A.testBit a = false ∧ nr w a &&& A ≠ 0 then 1 else 0) else (if A.testBit a = true then sm n (fun b => if A.testBit b = true then 0 else w a b) else 0)) = F
  refine Ok.bq (a := nI (sm n F)) (t := t) (wq n (fun j => (nI (sm j F), nI j)) (fun j hj => ?_) ?_) (Ok.ret ⟨rfl, rfl⟩)
  · unfold SX12_splitOf_6
    dsimp only
    refine Ok.bq (q_points h hs) (Ok.ifF (by rw [nI_leP (by omega) (by omega)]; omega) (Ok.bq (q_nearOf h hs hn hw (by omega)) (Ok.bq (q_has (by omega) (by omega)) ?_)))
    refine Ok.bq (a := if A.testBit j = true then nI A ^^^ -1 else nI A) (t := t) (Ok.eq ?_) ?_
    · refine Ok.cv b01 (Ok.ite (fun c => Ok.ret ⟨rfl, ?_⟩) (fun c => Ok.ret ⟨rfl, ?_⟩))
      · rw [if_neg (by rw [c]; decide)]
      · rw [if_pos (by cases q : A.testBit j; exact absurd q c; rfl)]
    refine Ok.bq (a := nI (sm (j + 1) F)) (t := t) (Ok.eq ?_) (Ok.ret ⟨rfl, by rw [nI_1]⟩)
    show Ok _ (fun r u => t = u ∧ r = nI (sm j F + F j))
    have hd : dif (nr w j) A < 512 := dif_lt nr_lt
    have ha : nr w j &&& A < 512 := and9 nr_lt
    have hFj : F j = if k = 1 then (if A.testBit j = true ∧ dif (nr w j) A ≠ 0 then 1 else 0) else if k = 2 then (if A.testBit j = false ∧ nr w j &&& A ≠ 0 then 1 else 0) else (if A.testBit j = true then sm n (fun b => if A.testBit b = true then 0 else w j b) else 0) := by rw [← hF]
    refine Ok.cv (nI_eqP (b := 1) (by omega) (by omega)) (Ok.ite (fun k1 => ?_) (fun k1 => Ok.cv (nI_eqP (b := 2) (by omega) (by omega)) (Ok.ite (fun k2 => ?_) (fun k2 => ?_))))
    · rw [if_pos k1] at hFj
      refine Ok.bq (q_has (by omega) (by omega)) ?_
      refine Ok.bq (a := nI (F j)) (t := t) (Ok.eq (Ok.cv b01 (Ok.ite (fun c => Ok.ret ⟨rfl, ?_⟩) (fun c => ?_)))) (Ok.ret ⟨rfl, by rw [nI_add]⟩)
      · rw [hFj, if_neg (by rw [c]; simp)]
        rfl
      · have c : A.testBit j = true := by cases q : A.testBit j; exact absurd q c; rfl
        rw [if_pos c, nI_dif nr_lt hA]
        refine Ok.cv (nI_eqP (b := 0) (by omega) (by omega)) (Ok.ite (fun c0 => Ok.ret ⟨rfl, ?_⟩) (fun c0 => Ok.ret ⟨rfl, ?_⟩))
        · rw [hFj, if_neg (fun q => q.2 c0)]
          rfl
        · rw [hFj, if_pos ⟨c, c0⟩]
          rfl
    · rw [if_neg k1, if_pos k2] at hFj
      refine Ok.bq (q_has (by omega) (by omega)) ?_
      refine Ok.bq (a := nI (F j)) (t := t) (Ok.eq (Ok.cv b01 (Ok.ite (fun c => ?_) (fun c => Ok.ret ⟨rfl, ?_⟩)))) (Ok.ret ⟨rfl, by rw [nI_add]⟩)
      · rw [if_neg (c := A.testBit j = true) (by rw [c]; decide), nI_and]
        refine Ok.cv (nI_eqP (b := 0) (by omega) (by omega)) (Ok.ite (fun c0 => Ok.ret ⟨rfl, ?_⟩) (fun c0 => Ok.ret ⟨rfl, ?_⟩))
        · rw [hFj, if_neg (fun q => q.2 c0)]
          rfl
        · rw [hFj, if_pos ⟨c, c0⟩]
          rfl
      · rw [hFj, if_neg (fun q => c q.1)]
        rfl
    · rw [if_neg k1, if_neg k2] at hFj
      refine Ok.bq (q_has (by omega) (by omega)) (Ok.cv b01 (Ok.ite (fun c => Ok.ret ⟨rfl, ?_⟩) (fun c => ?_)))
      · rw [hFj, if_neg (by rw [c]; decide), Nat.add_zero]
      · have c : A.testBit j = true := by cases q : A.testBit j; exact absurd q c; rfl
        rw [if_pos c] at hFj
        refine Ok.bq (a := nI (sm j F + sm n (fun b => if A.testBit b = true then 0 else w j b))) (t := t) (wq n (fun i => (nI (sm j F + sm i (fun b => if A.testBit b = true then 0 else w j b)), nI i)) (fun i hi => ?_) ?_) (Ok.ret ⟨rfl, by rw [hFj]⟩)
        · unfold SX12_splitOf_118
          dsimp only
          refine Ok.bq (q_points h hs) (Ok.ifF (by rw [nI_leP (by omega) (by omega)]; omega) (Ok.bq (q_has (by omega) (by omega)) ?_))
          refine Ok.bq (a := nI (if A.testBit i = true then 0 else w j i)) (t := t) (Ok.eq (Ok.cv b01 (Ok.ite (fun c1 => Ok.bq (q_weight h hs (by omega) (by omega)) (Ok.ret ⟨rfl, ?_⟩)) (fun c1 => Ok.ret ⟨rfl, ?_⟩)))) (Ok.ret ⟨rfl, ?_⟩)
          · rw [if_neg (by rw [c1]; decide)]
          · rw [if_pos (by cases q : A.testBit i; exact absurd q c1; rfl)]
            rfl
          · rw [nI_add, nI_1, Nat.add_assoc]
            rfl
        · unfold SX12_splitOf_118
          dsimp only
          exact Ok.bq (q_points h hs) (Ok.ifT (by rw [nI_leP (by omega) (by omega)]; omega) (Ok.ret ⟨rfl, rfl⟩))
  · unfold SX12_splitOf_6
    dsimp only
    exact Ok.bq (q_points h hs) (Ok.ifT (by rw [nI_leP (by omega) (by omega)]; omega) (Ok.ret ⟨rfl, rfl⟩))
end
section
/-! to whom one comes through those ahead -/
def Rch (w : Nat → Nat → Nat) (S p q : Nat) : Prop := ∀ T : Nat → Prop, (∀ r, 0 < w p r → T r) → (∀ r r', T r → S.testBit r = true → 0 < w r r' → T r') → T q
theorem Rch.one {w : Nat → Nat → Nat} {S p q : Nat} (h : 0 < w p q) : Rch w S p q := fun _ a _ => a q h
theorem Rch.on {w : Nat → Nat → Nat} {S p r q : Nat} (h : Rch w S p r) (hr : S.testBit r = true) (h2 : 0 < w r q) : Rch w S p q := fun T a b => b r q (h T a b) hr h2
theorem Rch.tr {w : Nat → Nat → Nat} {S p r q : Nat} (h : Rch w S p r) (hr : S.testBit r = true) (h2 : Rch w S r q) : Rch w S p q := h2 (fun q => Rch w S p q) (fun _ h3 => h.on hr h3) (fun _ _ h3 h4 h5 => h3.on h4 h5)
theorem Rch.up {w : Nat → Nat → Nat} {S U p q : Nat} (h : Rch w S p q) (hs : ∀ k, S.testBit k = true → U.testBit k = true) : Rch w U p q := h (fun q => Rch w U p q) (fun _ h3 => Rch.one h3) (fun _ _ h3 h4 h5 => h3.on (hs _ h4) h5)
/-- one more point is ahead -/
theorem Rch.add {w : Nat → Nat → Nat} {S v p q : Nat} : Rch w (S ||| 2 ^ v) p q ↔ Rch w S p q ∨ (Rch w S p v ∧ Rch w S v q) := by
  have hv : (S ||| 2 ^ v).testBit v = true := by rw [Nat.testBit_or, pow_bit]; simp
  have hs : ∀ k, S.testBit k = true → (S ||| 2 ^ v).testBit k = true := fun k h => by rw [Nat.testBit_or, h]; rfl
  constructor
  · intro h
    refine h (fun q => Rch w S p q ∨ (Rch w S p v ∧ Rch w S v q)) (fun r h1 => Or.inl (Rch.one h1)) (fun r r' h1 h2 h3 => ?_)
    rw [Nat.testBit_or, pow_bit] at h2
    by_cases e : v = r
    · subst e
      rcases h1 with h1 | ⟨h1, -⟩
      · exact Or.inr ⟨h1, Rch.one h3⟩
      · exact Or.inr ⟨h1, Rch.one h3⟩
    · have h2 : S.testBit r = true := by simpa [e] using h2
      rcases h1 with h1 | ⟨h1, h4⟩
      · exact Or.inl (h1.on h2 h3)
      · exact Or.inr ⟨h1, h4.on h2 h3⟩
  · rintro (h | ⟨h1, h2⟩)
    · exact h.up hs
    · exact (h1.up hs).tr hv (h2.up hs)
noncomputable def rcm (w : Nat → Nat → Nat) (S p : Nat) : Nat := mkm 9 (fun q => @decide (Rch w S p q) (Classical.propDecidable _))
theorem rcm_lt {w : Nat → Nat → Nat} {S p : Nat} : rcm w S p < 512 := mkm_lt (n := 9)
theorem rcm_bit {w : Nat → Nat → Nat} {S p q : Nat} (hq : q < 9) : (rcm w S p).testBit q = true ↔ Rch w S p q := by
  unfold rcm
  rw [mkm_bit]
  simp only [hq, decide_true, Bool.true_and]
  exact @decide_eq_true_iff _ (Classical.propDecidable _)
theorem WF.b {n : Nat} {w : Nat → Nat → Nat} (h : WF n w) {a b : Nat} (hp : 0 < w a b) : a < n ∧ b < n := by
  constructor
  · refine Decidable.byContradiction (fun q => ?_)
    have := h.2.2.2 a b (by omega)
    omega
  · refine Decidable.byContradiction (fun q => ?_)
    have := h.r (a := a) (b := b) (by omega)
    omega
theorem nr_b {n : Nat} {w : Nat → Nat → Nat} (h : WF n w) (hn : n < 10) {a b : Nat} : (nr w a).testBit b = true ↔ 0 < w a b := by
  by_cases hb : b < 9
  · rw [nr_bit hb]; exact decide_eq_true_iff
  · constructor
    · intro q
      rw [lt_pow_bit (n := 9) nr_lt (by omega)] at q
      cases q
    · intro q
      have := h.b q
      omega
/-- a closed set that is reached is what is reached -/
theorem rcm_of {n : Nat} {w : Nat → Nat → Nat} (hw : WF n w) (hn : n < 10) {S p M : Nat} (hM : M < 512) (h0 : ∀ q, M.testBit q = true → Rch w S p q) (h1 : ∀ q, 0 < w p q → M.testBit q = true) (h2 : ∀ r q, M.testBit r = true → S.testBit r = true → 0 < w r q → M.testBit q = true) : rcm w S p = M := by
  refine bit_ext (n := 9) rcm_lt hM (fun q hq => ?_)
  cases e : M.testBit q
  · cases e2 : (rcm w S p).testBit q
    · rfl
    · have := (rcm_bit hq).mp e2 (fun q => M.testBit q = true) h1 h2
      rw [e] at this
      cases this
  · exact (rcm_bit hq).mpr (h0 q e)
/-- the neighbours of p as S is taken out -/
noncomputable def nbm (w : Nat → Nat → Nat) (S p : Nat) : Nat := dif (dif (rcm w S p) S) (2 ^ p)
theorem nbm_lt {w : Nat → Nat → Nat} {S p : Nat} : nbm w S p < 512 := dif_lt (dif_lt rcm_lt)
theorem nbm_bit {w : Nat → Nat → Nat} {S p q : Nat} (hq : q < 9) : (nbm w S p).testBit q = true ↔ Rch w S p q ∧ S.testBit q = false ∧ p ≠ q := by
  unfold nbm
  rw [dif_bit (dif_lt rcm_lt), dif_bit rcm_lt, pow_bit]
  simp only [Bool.and_eq_true, rcm_bit hq, Bool.not_eq_true', decide_eq_false_iff_not]
  exact ⟨fun h => ⟨h.1.1, h.1.2, h.2⟩, fun h => ⟨⟨h.1, h.2.1⟩, h.2.2⟩⟩
/-- the union of f i over the i of W -/
def orw (W : Nat) (f : Nat → Nat) : Nat → Nat
  | 0 => 0
  | i + 1 => orw W f i ||| (if W.testBit i = true then f i else 0)
theorem orw_bit {W : Nat} {f : Nat → Nat} {k : Nat} : ∀ {n : Nat}, (orw W f n).testBit k = true ↔ ∃ i, i < n ∧ W.testBit i = true ∧ (f i).testBit k = true
  | 0 => by
    unfold orw
    rw [Nat.zero_testBit]
    exact ⟨fun h => (by cases h), fun ⟨i, h, _⟩ => by omega⟩
  | n + 1 => by
    show (orw W f n ||| (if W.testBit n = true then f n else 0)).testBit k = true ↔ _
    rw [Nat.testBit_or, Bool.or_eq_true, orw_bit]
    constructor
    · rintro (⟨i, h1, h2⟩ | h)
      · exact ⟨i, by omega, h2⟩
      · by_cases c : W.testBit n = true
        · rw [if_pos c] at h
          exact ⟨n, by omega, c, h⟩
        · rw [if_neg c, Nat.zero_testBit] at h
          cases h
    · rintro ⟨i, h1, h2, h3⟩
      by_cases e : i = n
      · subst e
        rw [if_pos h2]
        exact Or.inr h3
      · exact Or.inl ⟨i, by omega, h2, h3⟩
theorem orw_lt {W : Nat} {f : Nat → Nat} (hf : ∀ i, f i < 512) : ∀ {n : Nat}, orw W f n < 512
  | 0 => by show 0 < 512; omega
  | n + 1 => by
    refine or9 (orw_lt hf) ?_
    by_cases c : W.testBit n = true
    · rw [if_pos c]; exact hf n
    · rw [if_neg c]; omega
theorem cnt_mn {S T : Nat} (h : ∀ k, S.testBit k = true → T.testBit k = true) : ∀ {n : Nat}, cnt S n ≤ cnt T n
  | 0 => Nat.le_refl 0
  | n + 1 => by
    rw [cnt_succ, cnt_succ]
    have h1 := cnt_mn h (n := n)
    by_cases c : S.testBit n = true
    · rw [if_pos c, if_pos (h n c)]; omega
    · rw [if_neg c]; omega
theorem cnt_more {S W n : Nat} (hW : W ≠ 0) (hWn : W < 2 ^ n) (hd : ∀ k, W.testBit k = true → S.testBit k = false) : cnt S n + 1 ≤ cnt (S ||| W) n := by
  have : ∃ k, W.testBit k = true := by
    refine Classical.byContradiction (fun q => hW ?_)
    apply Nat.eq_of_testBit_eq
    intro k
    rw [Nat.zero_testBit]
    cases e : W.testBit k
    · rfl
    · exact absurd ⟨k, e⟩ q
  obtain ⟨k, hk⟩ := this
  have hkn : k < n := by
    refine Decidable.byContradiction (fun q => ?_)
    rw [lt_pow_bit hWn (by omega)] at hk
    cases hk
  have h1 := cnt_or (hd k hk) (n := n)
  rw [if_pos hkn] at h1
  have h2 : cnt (S ||| 2 ^ k) n ≤ cnt (S ||| W) n := by
    refine cnt_mn (fun j hj => ?_)
    rw [Nat.testBit_or, pow_bit] at hj
    rw [Nat.testBit_or]
    by_cases e : k = j
    · subst e; rw [hk]; simp
    · have : S.testBit j = true := by simpa [e] using hj
      rw [this]; rfl
  omega
theorem and_bit {a b k : Nat} : (a &&& b).testBit k = true ↔ a.testBit k = true ∧ b.testBit k = true := by rw [Nat.testBit_and, Bool.and_eq_true]
theorem dif_b {a b k : Nat} (ha : a < 512) : (dif a b).testBit k = true ↔ a.testBit k = true ∧ b.testBit k = false := by rw [dif_bit ha, Bool.and_eq_true, Bool.not_eq_true']
theorem or_b {a b k : Nat} : (a ||| b).testBit k = true ↔ a.testBit k = true ∨ b.testBit k = true := by rw [Nat.testBit_or, Bool.or_eq_true]
theorem bF {b : Bool} (h : ¬ b = true) : b = false := by cases b; rfl; exact absurd rfl h
theorem bT {b : Bool} (h : ¬ b = false) : b = true := by cases b; exact absurd rfl h; rfl
theorem nI_q0 {a : Nat} (ha : a < 4294967296) : (nI a = 0) = (a = 0) := nI_eqP (b := 0) ha (by omega)
theorem q_neighbours {x n l : Nat} {w : Nat → Nat → Nat} {t : St} (h : CN x n l w t) (g : netAt x = true) (hw : WF n w) (hn : n < 10) {S p : Nat} (hS : S < 512) (hp : p < 9) : FX6_neighbours x (nI S) (nI p) t = some (nI (nbm w S p), t) := by
  refine Ok.eq ?_
  unfold FX6_neighbours
  refine Ok.ckT g (Ok.ckT (inb_n hp (by omega)) ?_)
  rw [nI_cl (by omega)]
  refine Ok.rdE (h.2.2.1 p hp) (Ok.bq (a := nI (rcm w S p)) (t := t) (Ok.eq ?_) (Ok.ret ⟨rfl, ?_⟩))
  · refine Ok.count n (fun j c s => t = s ∧ ∃ M G, M < 512 ∧ G < 512 ∧ c = (nI M, nI G, nI j) ∧ (∀ q, M.testBit q = true → Rch w S p q) ∧ (∀ q, 0 < w p q → M.testBit q = true) ∧ (∀ r q, G.testBit r = true → 0 < w r q → M.testBit q = true) ∧ j ≤ cnt G n) ?_ ?_ (Nat.zero_le _) ⟨rfl, nr w p, 0, nr_lt, by omega, rfl, fun q hq => Rch.one ((nr_b hw hn).mp hq), fun q hq => (nr_b hw hn).mpr hq, fun r q hr => (by rw [Nat.zero_testBit] at hr; cases hr), Nat.zero_le _⟩
    · rintro j c s hj ⟨rfl, M, G, hM, hG, rfl, h0, h1, h2, hc⟩
      unfold SX6_neighbours_13
      dsimp only
      have hMS : M &&& S < 512 := and9 hM
      have hW : dif (M &&& S) G < 512 := dif_lt hMS
      refine Ok.rdE h.1 (Ok.ifF (by rw [nI_leP (by omega) (by omega)]; omega) ?_)
      rw [nI_and, nI_dif hMS hG]
      refine Ok.cv (nI_q0 (by omega)) (Ok.ite (fun c0 => Ok.ret ⟨rfl, ?_⟩) (fun c0 => ?_))
      · rw [rcm_of hw hn hM h0 h1 (fun r q hr hs hq => ?_)]
        refine h2 r q ?_ hq
        have := (dif_b (b := G) (k := r) hMS)
        rw [c0, Nat.zero_testBit] at this
        cases e : G.testBit r
        · exact absurd (this.mpr ⟨and_bit.mpr ⟨hr, hs⟩, e⟩) (by decide)
        · rfl
      · have hMn : M < 2 ^ n ∨ True := Or.inr trivial
        refine Ok.bq (a := nI (M ||| orw (dif (M &&& S) G) (nr w) n)) (t := t) (wq0 n (fun i => (nI (M ||| orw (dif (M &&& S) G) (nr w) i), nI i)) (by show (nI M, nI 0) = (nI (M ||| 0), nI 0); rw [Nat.or_zero]) (fun i hi => ?_) ?_) (Ok.ret ?_)
        · unfold SX6_neighbours_50
          dsimp only
          refine Ok.rdE h.1 (Ok.ifF (by rw [nI_leP (by omega) (by omega)]; omega) ?_)
          refine Ok.bq (a := nI (M ||| orw (dif (M &&& S) G) (nr w) (i + 1))) (t := t) (Ok.eq (Ok.cv (bitn (by omega) (by omega)) (Ok.ite (fun c1 => Ok.ret ⟨rfl, ?_⟩) (fun c1 => Ok.ckT (inb_n (by omega) (by omega)) ?_)))) (Ok.ret ⟨rfl, by rw [nI_1]⟩)
          · show _ = nI (M ||| (orw (dif (M &&& S) G) (nr w) i ||| _))
            rw [if_neg (by rw [c1]; decide), Nat.or_zero]
          · rw [nI_cl (by omega)]
            refine Ok.rdE (h.2.2.1 i (by omega)) (Ok.ret ⟨rfl, ?_⟩)
            show _ = nI (M ||| (orw (dif (M &&& S) G) (nr w) i ||| _))
            rw [if_pos (bT c1), nI_or, Nat.or_assoc]
        · unfold SX6_neighbours_50
          dsimp only
          exact Ok.rdE h.1 (Ok.ifT (by rw [nI_leP (by omega) (by omega)]; omega) (Ok.ret ⟨rfl, rfl⟩))
        · refine ⟨rfl, M ||| orw (dif (M &&& S) G) (nr w) n, G ||| dif (M &&& S) G, or9 hM (orw_lt (fun _ => nr_lt)), or9 hG hW, by rw [nI_or, nI_1], fun q hq => ?_, fun q hq => or_b.mpr (Or.inl (h1 q hq)), fun r q hr hq => ?_, ?_⟩
          · rcases or_b.mp hq with a | a
            · exact h0 q a
            · obtain ⟨i, -, hi2, hi3⟩ := orw_bit.mp a
              have h3 := and_bit.mp ((dif_b hMS).mp hi2).1
              exact (h0 i h3.1).on h3.2 ((nr_b hw hn).mp hi3)
          · rcases or_b.mp hr with a | a
            · exact or_b.mpr (Or.inl (h2 r q a hq))
            · exact or_b.mpr (Or.inr (orw_bit.mpr ⟨r, (hw.b hq).1, a, (nr_b hw hn).mpr hq⟩))
          · have hWn : dif (M &&& S) G < 2 ^ n := by
              have : dif (M &&& S) G = mkm n (fun i => (dif (M &&& S) G).testBit i) := by
                refine bit_ext (n := 9) hW (Nat.lt_of_lt_of_le mkm_lt (pow9 (by omega))) (fun k hk => ?_)
                rw [mkm_bit]
                by_cases e : k < n
                · simp [e]
                · simp only [e, decide_false, Bool.false_and]
                  refine bF (fun q => e ?_)
                  have h3 := (and_bit.mp ((dif_b hMS).mp q).1).1
                  have h4 := h0 k h3 (fun k => k < n) (fun r hr => (hw.b hr).2) (fun r r' _ _ hr => (hw.b hr).2)
                  exact h4
              rw [this]
              exact mkm_lt
            have := cnt_more (S := G) c0 hWn (fun k hk => ((dif_b hMS).mp hk).2)
            omega
    · rintro c s ⟨rfl, M, G, hM, hG, rfl, h0, h1, h2, hc⟩
      unfold SX6_neighbours_13
      dsimp only
      refine Ok.rdE h.1 (Ok.ifT (by rw [nI_leP (by omega) (by omega)]; omega) (Ok.ret ⟨rfl, ?_⟩))
      have hall : ∀ r, r < n → G.testBit r = true := cnt_full (by have := cnt_le (S := G) (n := n); omega)
      rw [rcm_of hw hn hM h0 h1 (fun r q hr hs hq => h2 r q (hall r (hw.b hq).1) hq)]
  · rw [nI_dif rcm_lt hS, shl_1 (by omega), nI_dif (dif_lt rcm_lt) (pw9 hp)]
    rfl
theorem q_neighboursM {s n : Nat} {w : Nat → Nat → Nat} {t : St} (h : RN s n w t) (hs : s < 3) (hw : WF n w) (hn : n < 10) {S p : Nat} (hS : S < 512) (hp : p < 9) : FX12_neighbours (nI s) (nI S) (nI p) t = some (nI (nbm w S p), t) := by
  refine Ok.eq ?_
  unfold FX12_neighbours
  refine Ok.bq (q_nearOf h hs hn hw hp) (Ok.bq (a := nI (rcm w S p)) (t := t) (Ok.eq ?_) (Ok.ret ⟨rfl, ?_⟩))
  · refine Ok.loop (fun k c s' => t = s' ∧ ∃ M H, M < 512 ∧ H < 512 ∧ c = (nI M, nI H) ∧ (∀ q, M.testBit q = true → Rch w S p q) ∧ (∀ q, 0 < w p q → M.testBit q = true) ∧ (∀ r q, H.testBit r = true → S.testBit r = true → 0 < w r q → M.testBit q = true) ∧ (∀ q, H.testBit q = true → M.testBit q = true) ∧ k = 2 * (9 - cnt M 9) + (if H = M then 0 else 1)) ?_ _ _ _ ⟨rfl, nr w p, 0, nr_lt, by omega, rfl, fun q hq => Rch.one ((nr_b hw hn).mp hq), fun q hq => (nr_b hw hn).mpr hq, fun r q hr => (by rw [Nat.zero_testBit] at hr; cases hr), fun q hq => (by rw [Nat.zero_testBit] at hq; cases hq), rfl⟩
    rintro k c s' ⟨rfl, M, H, hM, hH, rfl, h0, h1, h2, h3, rfl⟩
    unfold SX12_neighbours_11
    dsimp only
    refine Ok.cv (nI_eqP (by omega) (by omega)) (Ok.ite (fun e => Ok.ret ⟨rfl, ?_⟩) (fun e => ?_))
    · subst e
      rw [rcm_of hw hn hM h0 h1 h2]
    · refine Ok.bq (a := nI (M ||| orw (M &&& S) (nr w) n)) (t := t) (wq0 n (fun i => (nI (M ||| orw (M &&& S) (nr w) i), nI i)) (by show (nI M, nI 0) = (nI (M ||| 0), nI 0); rw [Nat.or_zero]) (fun i hi => ?_) ?_) (Ok.ret ?_)
      · unfold SX12_neighbours_25
        dsimp only
        have hMS : M &&& S < 512 := and9 hM
        refine Ok.bq (q_points h hs) (Ok.ifF (by rw [nI_leP (by omega) (by omega)]; omega) ?_)
        rw [nI_and]
        refine Ok.bq (q_has (by omega) (by omega)) ?_
        refine Ok.bq (a := nI (if (M &&& S).testBit i = true then nr w i else 0)) (t := t) (Ok.eq (Ok.cv b01 (Ok.ite (fun c1 => Ok.ret ⟨rfl, ?_⟩) (fun c1 => Ok.bq (q_nearOf h hs hn hw (by omega)) (Ok.ret ⟨rfl, ?_⟩))))) (Ok.ret ⟨rfl, ?_⟩)
        · rw [if_neg (by rw [c1]; decide)]
          rfl
        · rw [if_pos (bT c1)]
        · rw [nI_or, nI_1, Nat.or_assoc]
          rfl
      · unfold SX12_neighbours_25
        dsimp only
        exact Ok.bq (q_points h hs) (Ok.ifT (by rw [nI_leP (by omega) (by omega)]; omega) (Ok.ret ⟨rfl, rfl⟩))
      · have hO : orw (M &&& S) (nr w) n < 512 := orw_lt (fun _ => nr_lt)
        have hsub : cnt M 9 ≤ cnt (M ||| orw (M &&& S) (nr w) n) 9 := cnt_mn (fun k hk => or_b.mpr (Or.inl hk))
        have hc9 : cnt (M ||| orw (M &&& S) (nr w) n) 9 ≤ 9 := cnt_le
        refine ⟨2 * (9 - cnt (M ||| orw (M &&& S) (nr w) n) 9) + (if M = M ||| orw (M &&& S) (nr w) n then 0 else 1), ?_, rfl, M ||| orw (M &&& S) (nr w) n, M, or9 hM hO, hM, rfl, fun q hq => ?_, fun q hq => or_b.mpr (Or.inl (h1 q hq)), fun r q hr hs hq => or_b.mpr (Or.inr (orw_bit.mpr ⟨r, (hw.b hq).1, and_bit.mpr ⟨hr, hs⟩, (nr_b hw hn).mpr hq⟩)), fun q hq => or_b.mpr (Or.inl hq), rfl⟩
        · rw [if_neg e]
          by_cases e2 : M = M ||| orw (M &&& S) (nr w) n
          · rw [if_pos e2, ← e2]
            omega
          · rw [if_neg e2]
            have : cnt M 9 + 1 ≤ cnt (M ||| orw (M &&& S) (nr w) n) 9 := by
              have hd : dif (orw (M &&& S) (nr w) n) M ≠ 0 := by
                intro q
                refine e2 (bit_ext (n := 9) hM (or9 hM hO) (fun k hk => ?_))
                rw [Nat.testBit_or]
                cases a : M.testBit k
                · have := dif_bit (b := M) (k := k) hO
                  rw [q, Nat.zero_testBit, a] at this
                  simpa using this
                · rfl
              have h5 := cnt_more (S := M) (n := 9) hd (dif_lt hO) (fun k hk => ((dif_b hO).mp hk).2)
              have h6 : cnt (M ||| dif (orw (M &&& S) (nr w) n) M) 9 ≤ cnt (M ||| orw (M &&& S) (nr w) n) 9 := cnt_mn (fun k hk => by
                rcases or_b.mp hk with a | a
                · exact or_b.mpr (Or.inl a)
                · exact or_b.mpr (Or.inr ((dif_b hO).mp a).1))
              omega
            omega
        · rcases or_b.mp hq with a | a
          · exact h0 q a
          · obtain ⟨i, -, hi2, hi3⟩ := orw_bit.mp a
            have h4 := and_bit.mp hi2
            exact (h0 i h4.1).on h4.2 ((nr_b hw hn).mp hi3)
  · rw [nI_dif rcm_lt hS, shl_1 (by omega), nI_dif (dif_lt rcm_lt) (pw9 hp)]
    rfl
end
section
/-! what a step costs, what a row has -/
theorem abv_all : ∀ A, A < 512 → ∀ p, p < 9 → nI A &&& (-(shl 2 (nI p))) = nI (dif A (2 ^ (p + 1) - 1)) := by decide +kernel
theorem pw_lt {p : Nat} (hp : p < 9) : 2 ^ (p + 1) - 1 < 512 := by
  have := pow9 (k := p + 1) (by omega)
  have := Nat.two_pow_pos (p + 1)
  omega
theorem dif_sw {a b c : Nat} (ha : a < 512) : dif (dif a b) c = dif (dif a c) b := by
  refine bit_ext (n := 9) (dif_lt (dif_lt ha)) (dif_lt (dif_lt ha)) (fun k _ => ?_)
  rw [dif_bit (dif_lt ha), dif_bit ha, dif_bit (dif_lt ha), dif_bit ha]
  cases a.testBit k <;> cases b.testBit k <;> cases c.testBit k <;> rfl
/-- the new lines as p is taken out behind S -/
noncomputable def fil (n : Nat) (w : Nat → Nat → Nat) (S p : Nat) : Nat := sm n (fun a => if (nbm w S p).testBit a = true then cnt (dif (dif (nbm w S p) (nbm w S a)) (2 ^ (a + 1) - 1)) 9 else 0)
theorem fil_le {n : Nat} {w : Nat → Nat → Nat} {S p : Nat} (hn : n < 10) : fil n w S p ≤ 81 := by
  have h := sm_le (f := fun a => if (nbm w S p).testBit a = true then cnt (dif (dif (nbm w S p) (nbm w S a)) (2 ^ (a + 1) - 1)) 9 else 0) (b := 9) (n := n) (fun i _ => by
    show (if (nbm w S p).testBit i = true then _ else 0) ≤ 9
    split
    · exact cnt_le
    · omega)
  unfold fil
  omega
theorem q_newLines {x n l : Nat} {w : Nat → Nat → Nat} {t : St} (h : CN x n l w t) (g : netAt x = true) (hw : WF n w) (hn : n < 10) {S p : Nat} (hS : S < 512) (hp : p < 9) : FX6_newLines x (nI S) (nI p) t = some (nI (fil n w S p), t) := by
  refine Ok.eq ?_
  unfold FX6_newLines
  refine Ok.ckT g (Ok.bq (q_neighbours h g hw hn hS hp) ?_)
  generalize hF : (fun a => if (nbm w S p).testBit a = true then cnt (dif (dif (nbm w S p) (nbm w S a)) (2 ^ (a + 1) - 1)) 9 else 0) = F
  have eF : fil n w S p = sm n F := by unfold fil; rw [hF]
  rw [eF]
  refine Ok.bq (a := nI (sm n F)) (t := t) (wq n (fun j => (nI (sm j F), nI j)) (fun j hj => ?_) ?_) (Ok.ret ⟨rfl, rfl⟩)
  · unfold SX6_newLines_13
    dsimp only
    have hFj : F j = if (nbm w S p).testBit j = true then cnt (dif (dif (nbm w S p) (nbm w S j)) (2 ^ (j + 1) - 1)) 9 else 0 := by rw [← hF]
    have hnb := nbm_lt (w := w) (S := S) (p := p)
    refine Ok.rdE h.1 (Ok.ifF (by rw [nI_leP (by omega) (by omega)]; omega) ?_)
    refine Ok.bq (a := nI (if (nbm w S p).testBit j = true then dif (nbm w S p) (2 ^ (j + 1) - 1) else 0)) (t := t) (Ok.eq (Ok.cv (bitn (by omega) (by omega)) (Ok.ite (fun c => Ok.ret ⟨rfl, ?_⟩) (fun c => ?_)))) ?_
    · rw [if_neg (by rw [c]; decide)]
      rfl
    · unfold FX6_aboveOf
      refine Ok.bq rfl (Ok.ret ⟨rfl, ?_⟩)
      rw [if_pos (bT c), abv_all _ hnb _ (by omega)]
    refine Ok.bq (a := nI (sm (j + 1) F)) (t := t) (Ok.eq ?_) (Ok.ret ⟨rfl, by rw [nI_1]⟩)
    show Ok _ (fun r u => t = u ∧ r = nI (sm j F + F j))
    have hg : (if (nbm w S p).testBit j = true then dif (nbm w S p) (2 ^ (j + 1) - 1) else 0) < 512 := by
      split
      · exact dif_lt hnb
      · omega
    refine Ok.cv (nI_q0 (by omega)) (Ok.ite (fun c0 => Ok.ret ⟨rfl, ?_⟩) (fun c0 => ?_))
    · have : F j = 0 := by
        rw [hFj]
        by_cases c : (nbm w S p).testBit j = true
        · rw [if_pos c] at c0 ⊢
          rw [dif_sw hnb, c0]
          have : dif 0 (nbm w S j) = 0 := by unfold dif; exact Nat.zero_and _
          rw [this, cnt_0]
        · rw [if_neg c]
      rw [this, Nat.add_zero]
    · have c : (nbm w S p).testBit j = true := by
        refine bT (fun q => c0 ?_)
        rw [if_neg (by rw [q]; decide)]
      rw [if_pos c] at hg ⊢
      rw [if_pos c] at hFj
      refine Ok.bq (q_neighbours h g hw hn hS (by omega)) ?_
      rw [nI_dif hg nbm_lt]
      refine Ok.bq (q_bitCount (dif_lt hg)) (Ok.ret ⟨rfl, ?_⟩)
      rw [hFj, nI_add, dif_sw hnb]
  · unfold SX6_newLines_13
    dsimp only
    exact Ok.rdE h.1 (Ok.ifT (by rw [nI_leP (by omega) (by omega)]; omega) (Ok.ret ⟨rfl, rfl⟩))
theorem q_fillOf {s n : Nat} {w : Nat → Nat → Nat} {t : St} (h : RN s n w t) (hs : s < 3) (hw : WF n w) (hn : n < 10) {S p : Nat} (hS : S < 512) (hp : p < 9) : FX12_fillOf (nI s) (nI S) (nI p) t = some (nI (fil n w S p), t) := by
  refine Ok.eq ?_
  unfold FX12_fillOf
  refine Ok.bq (q_neighboursM h hs hw hn hS hp) ?_
  generalize hF : (fun a => if (nbm w S p).testBit a = true then cnt (dif (dif (nbm w S p) (nbm w S a)) (2 ^ (a + 1) - 1)) 9 else 0) = F
  have eF : fil n w S p = sm n F := by unfold fil; rw [hF]
  rw [eF]
  refine Ok.bq (a := nI (sm n F)) (t := t) (wq n (fun j => (nI (sm j F), nI j)) (fun j hj => ?_) ?_) (Ok.ret ⟨rfl, rfl⟩)
  · unfold SX12_fillOf_15
    dsimp only
    have hFj : F j = if (nbm w S p).testBit j = true then cnt (dif (dif (nbm w S p) (nbm w S j)) (2 ^ (j + 1) - 1)) 9 else 0 := by rw [← hF]
    have hnb := nbm_lt (w := w) (S := S) (p := p)
    refine Ok.bq (q_points h hs) (Ok.ifF (by rw [nI_leP (by omega) (by omega)]; omega) (Ok.bq (q_has (by omega) (by omega)) ?_))
    refine Ok.bq (a := nI (F j)) (t := t) (Ok.eq (Ok.cv b01 (Ok.ite (fun c => Ok.ret ⟨rfl, ?_⟩) (fun c => ?_)))) (Ok.ret ⟨rfl, by rw [nI_add, nI_1]; rfl⟩)
    · rw [hFj, if_neg (by rw [c]; decide)]
      rfl
    · refine Ok.bq (q_neighboursM h hs hw hn hS (by omega)) ?_
      have h2 := Nat.two_pow_pos (j + 1)
      rw [nI_dif hnb nbm_lt, nI_1, shl_1 (by omega), nI_s1 (by omega), nI_dif (dif_lt hnb) (pw_lt (by omega))]
      refine Ok.bq (q_ones (dif_lt (dif_lt hnb))) (Ok.ret ⟨rfl, ?_⟩)
      rw [hFj, if_pos (bT c)]
  · unfold SX12_fillOf_15
    dsimp only
    exact Ok.bq (q_points h hs) (Ok.ifT (by rw [nI_leP (by omega) (by omega)]; omega) (Ok.ret ⟨rfl, rfl⟩))
def wk (m : Nat) : Nat := if m = 1 then 1 else if m = 4 then 2 else 0
theorem wk_lt {m : Nat} : wk m < 3 := by
  unfold wk
  split
  · omega
  · split <;> omega
/-- the price of measure m of a set (of a point behind it) -/
noncomputable def prc (n : Nat) (w : Nat → Nat → Nat) (m A p : Nat) : Nat := if m = 5 then cnt (nbm w A p) 9 else if m = 6 then fil n w A p else spl n w A (wk m)
/-- those ahead at the step -/
def ast (m S p : Nat) : Nat := if m = 5 ∨ m = 6 then S else S ||| 2 ^ p
/-- what it costs to put p behind S -/
noncomputable def cst (n : Nat) (w : Nat → Nat → Nat) (m S p : Nat) : Nat := prc n w m (ast m S p) p
def jn (m a b : Nat) : Nat := if m = 0 ∨ m = 1 ∨ m = 5 then Nat.max a b else a + b
theorem spl_le {n : Nat} {w : Nat → Nat → Nat} {A k : Nat} (hw : WF n w) (hn : n < 10) : spl n w A k ≤ 729 := by
  unfold spl
  split
  · have := gatS_le (n := n) (w := w) (A := A); omega
  · split
    · have := frgS_le (n := n) (w := w) (A := A); omega
    · exact cutW_le hw hn
theorem prc_le {n : Nat} {w : Nat → Nat → Nat} {m A p : Nat} (hw : WF n w) (hn : n < 10) : prc n w m A p ≤ 729 := by
  unfold prc
  split
  · have := cnt_le (S := nbm w A p) (n := 9); omega
  · split
    · have := fil_le (n := n) (w := w) (S := A) (p := p) hn; omega
    · exact spl_le hw hn
theorem spl_full {n : Nat} {w : Nat → Nat → Nat} {k : Nat} (hw : WF n w) (hn : n < 10) : spl n w (2 ^ n - 1) k = 0 := by
  have hb : ∀ a, a < n → (2 ^ n - 1).testBit a = true := fun a ha => by rw [Nat.testBit_two_pow_sub_one]; simp [ha]
  unfold spl
  split
  · refine sm_zero (fun a ha => ?_)
    refine if_neg (fun q => q.2 ?_)
    refine bit_ext (n := 9) (dif_lt nr_lt) (by decide) (fun k _ => ?_)
    rw [Nat.zero_testBit]
    refine bF (fun q2 => ?_)
    obtain ⟨q3, q4⟩ := (dif_b nr_lt).mp q2
    rw [hb k (hw.b ((nr_b hw hn).mp q3)).2] at q4
    cases q4
  · split
    · refine sm_zero (fun a ha => ?_)
      refine if_neg (fun q => ?_)
      rw [hb a ha] at q
      cases q.1
    · refine sm_zero (fun a ha => ?_)
      rw [if_pos (hb a ha)]
      refine sm_zero (fun b hb2 => ?_)
      rw [if_pos (hb b hb2)]
theorem nI_lit {m k : Nat} (hm : m < 7) (hk : k < 7) : (nI m = nI k) = (m = k) := nI_eqP (by omega) (by omega)
theorem q_of {x n l : Nat} {w : Nat → Nat → Nat} {t : St} (h : CN x n l w t) (g : netAt x = true) (hw : WF n w) (hn : n < 10) {m A p : Nat} (hm : m < 7) (hA : A < 512) {c : Int32} (hp : (m = 5 ∨ m = 6) → c = nI p ∧ p < 9) : FX6_of x (nI m) (nI A) c t = some (nI (prc n w m A p), t) := by
  refine Ok.eq ?_
  unfold FX6_of prc
  rw [li_1, li_4, li_5, li_6]
  refine Ok.ckT g (Ok.cv (nI_lit hm (by omega)) (Ok.ite (fun c1 => ?_) (fun c1 => Ok.cv (nI_lit hm (by omega)) (Ok.ite (fun c4 => ?_) (fun c4 => Ok.cv (nI_lit hm (by omega)) (Ok.ite (fun c5 => ?_) (fun c5 => Ok.cv (nI_lit hm (by omega)) (Ok.ite (fun c6 => ?_) (fun c6 => ?_)))))))))
  · refine Ok.bq (q_gateSize h g hn hA) (Ok.ret ⟨rfl, ?_⟩)
    rw [if_neg (by omega), if_neg (by omega)]
    unfold spl wk
    rw [if_pos c1, if_pos rfl]
  · refine Ok.bq (q_fringeSize h g hn hA) (Ok.ret ⟨rfl, ?_⟩)
    rw [if_neg (by omega), if_neg (by omega)]
    unfold spl wk
    rw [if_neg c1, if_pos c4, if_neg (by decide), if_pos rfl]
  · obtain ⟨rfl, hp2⟩ := hp (Or.inl c5)
    refine Ok.bq (q_neighbours h g hw hn hA hp2) (Ok.bq (q_bitCount nbm_lt) (Ok.ret ⟨rfl, ?_⟩))
    rw [if_pos c5]
  · obtain ⟨rfl, hp2⟩ := hp (Or.inr c6)
    refine Ok.bq (q_newLines h g hw hn hA hp2) (Ok.ret ⟨rfl, ?_⟩)
    rw [if_neg c5, if_pos c6]
  · refine Ok.bq (q_cutWeight h g hw hn hA) (Ok.ret ⟨rfl, ?_⟩)
    rw [if_neg c5, if_neg c6]
    unfold spl wk
    rw [if_neg c1, if_neg c4, if_neg (by decide), if_neg (by decide)]
theorem q_cost {s n : Nat} {w : Nat → Nat → Nat} {t : St} (h : RN s n w t) (hs : s < 3) (hw : WF n w) (hn : n < 10) {m S p : Nat} (hm : m < 7) (hS : S < 512) (hp : p < 9) : FX12_cost (nI s) (nI m) (nI S) (nI p) t = some (nI (cst n w m S p), t) := by
  refine Ok.eq ?_
  unfold FX12_cost cst prc ast
  rw [li_5, li_6]
  refine Ok.cv (nI_lit hm (by omega)) (Ok.ite (fun c5 => ?_) (fun c5 => Ok.cv (nI_lit hm (by omega)) (Ok.ite (fun c6 => ?_) (fun c6 => ?_))))
  · refine Ok.bq (q_neighboursM h hs hw hn hS hp) (Ok.bq (q_ones nbm_lt) (Ok.ret ⟨rfl, ?_⟩))
    rw [if_pos c5, if_pos (Or.inl c5)]
  · refine Ok.bq (q_fillOf h hs hw hn hS hp) (Ok.ret ⟨rfl, ?_⟩)
    rw [if_neg c5, if_pos c6, if_pos (Or.inr c6)]
  · have h2 := Nat.two_pow_pos n
    have h3 := pow9 (k := n) (by omega)
    have hA : S ||| 2 ^ p < 512 := or9 hS (pw9 hp)
    rw [if_neg c5, if_neg c6, if_neg (by omega)]
    refine Ok.bq (q_points h hs) ?_
    rw [shl_1 (by omega), nI_or, shl_1 (by omega), li_1, nI_sub (by omega)]
    refine Ok.cv (nI_eqP (by omega) (by omega)) (Ok.ite (fun c => Ok.ret ⟨rfl, ?_⟩) (fun c => ?_))
    · rw [c, spl_full hw hn]
      rfl
    · refine Ok.bq (a := nI (wk m)) (t := t) (Ok.eq ?_) ?_
      · rw [li_4]
        unfold wk
        refine Ok.cv (nI_lit hm (by omega)) (Ok.ite (fun c1 => Ok.ret ⟨rfl, ?_⟩) (fun c1 => Ok.cv (nI_lit hm (by omega)) (Ok.ite (fun c4 => Ok.ret ⟨rfl, ?_⟩) (fun c4 => Ok.ret ⟨rfl, ?_⟩))))
        · rw [if_pos c1]
        · rw [if_neg c1, if_pos c4]; rfl
        · rw [if_neg c1, if_neg c4]; rfl
      · exact Ok.bq (q_splitOf h hs hw hn hA wk_lt) (Ok.ret ⟨rfl, rfl⟩)
theorem mxI_n {a b : Nat} (ha : a < 2147483648) (hb : b < 2147483648) : mxI (nI a) (nI b) = nI (Nat.max a b) := by
  show (if nI a < nI b then nI b else nI a) = nI (Nat.max a b)
  by_cases c : a < b
  · rw [if_pos (by rw [nI_ltP ha hb]; exact c)]
    congr 1
    exact (Nat.max_eq_right (by omega)).symm
  · rw [if_neg (by rw [nI_ltP ha hb]; exact c)]
    congr 1
    exact (Nat.max_eq_left (by omega)).symm
theorem q_joined {m a b : Nat} {t : St} (hm : m < 7) (h2 : m ≠ 2) (ha : a < 2147483648) (hb : b < 2147483648) : FX6_joined (nI m) (nI a) (nI b) t = some (nI (jn m a b), t) := by
  refine Ok.eq ?_
  unfold FX6_joined jn
  refine Ok.bq (a := if m = 0 ∨ m = 1 ∨ m = 5 then 0 else 1) (t := t) (Ok.eq ?_) ?_
  · rw [li_3, li_4, li_6]
    refine Ok.cv (nI_lit hm (by omega)) (Ok.ite (fun c => Ok.ret ⟨rfl, ?_⟩) (fun c => Ok.cv (nI_lit hm (by omega)) (Ok.ite (fun c4 => Ok.ret ⟨rfl, ?_⟩) (fun c4 => Ok.cv (nI_lit hm (by omega)) (Ok.ite (fun c6 => Ok.ret ⟨rfl, ?_⟩) (fun c6 => Ok.ret ⟨rfl, ?_⟩))))))
    · rw [if_neg (by omega)]
    · rw [if_neg (by omega)]
    · rw [if_neg (by omega)]
    · rw [if_pos (by omega)]
  · by_cases c : m = 0 ∨ m = 1 ∨ m = 5
    · rw [if_pos c, if_pos c]
      exact Ok.ifT rfl (Ok.ret ⟨rfl, mxI_n ha hb⟩)
    · rw [if_neg c, if_neg c]
      exact Ok.ifF (by decide) (Ok.ret ⟨rfl, nI_add _ _⟩)
theorem q_isGreatest {m : Nat} {t : St} (hm : m < 7) : FX12_isGreatest (nI m) t = some (if m = 0 ∨ m = 1 ∨ m = 5 then 1 else 0, t) := by
  refine Ok.eq ?_
  unfold FX12_isGreatest
  rw [li_0, li_1, li_5]
  refine Ok.cv (nI_lit hm (by omega)) (Ok.ite (fun c => Ok.ret ⟨rfl, ?_⟩) (fun c => Ok.cv (nI_lit hm (by omega)) (Ok.ite (fun c4 => Ok.ret ⟨rfl, ?_⟩) (fun c4 => Ok.cv (nI_lit hm (by omega)) (Ok.ite (fun c6 => Ok.ret ⟨rfl, ?_⟩) (fun c6 => Ok.ret ⟨rfl, ?_⟩))))))
  · rw [if_pos (by omega)]
  · rw [if_pos (by omega)]
  · rw [if_pos (by omega)]
  · rw [if_neg (by omega)]
theorem q_both {m a b : Nat} {t : St} (hm : m < 7) (ha : a < 2147483648) (hb : b < 2147483648) : FX12_both (nI m) (nI a) (nI b) t = some (nI (jn m a b), t) := by
  refine Ok.eq ?_
  unfold FX12_both jn
  refine Ok.bq (q_isGreatest hm) ?_
  by_cases c : m = 0 ∨ m = 1 ∨ m = 5
  · rw [if_pos c, if_pos c]
    exact Ok.ifF (by decide) (Ok.ret ⟨rfl, mxI_n ha hb⟩)
  · rw [if_neg c, if_neg c]
    exact Ok.ifT rfl (Ok.ret ⟨rfl, nI_add _ _⟩)
theorem q_taken {m : Nat} {t : St} (hm : m < 7) : FX6_isTakenOut (nI m) t = some (if m = 5 ∨ m = 6 then 1 else 0, t) := by
  refine Ok.eq ?_
  unfold FX6_isTakenOut
  rw [li_5, li_6]
  refine Ok.cv (nI_lit hm (by omega)) (Ok.ite (fun c => Ok.ret ⟨rfl, ?_⟩) (fun c => Ok.cv (nI_lit hm (by omega)) (Ok.ite (fun c4 => Ok.ret ⟨rfl, ?_⟩) (fun c4 => Ok.ret ⟨rfl, ?_⟩))))
  · rw [if_pos (by omega)]
  · rw [if_pos (by omega)]
  · rw [if_neg (by omega)]
theorem q_takenM {m : Nat} {t : St} (hm : m < 7) : FX12_isTakenOut (nI m) t = some (if m = 5 ∨ m = 6 then 1 else 0, t) := by
  refine Ok.eq ?_
  unfold FX12_isTakenOut
  rw [li_5, li_6]
  refine Ok.cv (nI_lit hm (by omega)) (Ok.ite (fun c => Ok.ret ⟨rfl, ?_⟩) (fun c => Ok.cv (nI_lit hm (by omega)) (Ok.ite (fun c4 => Ok.ret ⟨rfl, ?_⟩) (fun c4 => Ok.ret ⟨rfl, ?_⟩))))
  · rw [if_pos (by omega)]
  · rw [if_pos (by omega)]
  · rw [if_neg (by omega)]
theorem q_ast {m S p : Nat} {t : St} (hm : m < 7) (hp : p < 9) : FX6_aheadAtStep (nI m) (nI S) (nI p) t = some (nI (ast m S p), t) := by
  refine Ok.eq ?_
  unfold FX6_aheadAtStep ast
  refine Ok.bq (q_taken hm) ?_
  by_cases c : m = 5 ∨ m = 6
  · rw [if_pos c, if_pos c]
    exact Ok.ifF (by decide) (Ok.ret ⟨rfl, rfl⟩)
  · rw [if_neg c, if_neg c, shl_1 (by omega), nI_or]
    exact Ok.ifT rfl (Ok.ret ⟨rfl, rfl⟩)
theorem ast_lt {m S p : Nat} (hS : S < 512) (hp : p < 9) : ast m S p < 512 := by
  unfold ast
  split
  · exact hS
  · exact or9 hS (pw9 hp)
theorem cst_le {n : Nat} {w : Nat → Nat → Nat} {m S p : Nat} (hw : WF n w) (hn : n < 10) : cst n w m S p ≤ 729 := prc_le hw hn
/-! a row -/
/-- the points ahead of place i -/
def amk (o : Nat → Nat) : Nat → Nat
  | 0 => 0
  | i + 1 => amk o i ||| 2 ^ o i
theorem amk_lt {o : Nat → Nat} : ∀ {i : Nat}, (∀ j, j < i → o j < 9) → amk o i < 512
  | 0, _ => by show 0 < 512; omega
  | i + 1, h => or9 (amk_lt (fun j hj => h j (by omega))) (pw9 (h i (by omega)))
/-- what a row has of measure m, place by place -/
noncomputable def vfd (n : Nat) (w : Nat → Nat → Nat) (m : Nat) (o : Nat → Nat) : Nat → Nat
  | 0 => 0
  | i + 1 => jn m (vfd n w m o i) (cst n w m (amk o i) (o i))
theorem vfd_le {n : Nat} {w : Nat → Nat → Nat} {m : Nat} {o : Nat → Nat} (hw : WF n w) (hn : n < 10) : ∀ i, vfd n w m o i ≤ 729 * i
  | 0 => Nat.zero_le _
  | i + 1 => by
    have h1 := vfd_le (m := m) (o := o) hw hn i
    have h2 := cst_le (m := m) (S := amk o i) (p := o i) hw hn
    show jn m (vfd n w m o i) (cst n w m (amk o i) (o i)) ≤ 729 * (i + 1)
    unfold jn
    split
    · rcases Nat.le_total (vfd n w m o i) (cst n w m (amk o i) (o i)) with q | q
      · rw [show Nat.max _ _ = _ from Nat.max_eq_right q]; omega
      · rw [show Nat.max _ _ = _ from Nat.max_eq_left q]; omega
    · omega
end
section
/-! what a row has -/
/-- how far ends lie apart, at place i and those ahead of it -/
def bin (w : Nat → Nat → Nat) (o : Nat → Nat) (i a : Nat) : Nat → Nat
  | 0 => a
  | j + 1 => if 0 < w (o i) (o j) then Nat.max (bin w o i a j) (i - j) else bin w o i a j
def bwd (w : Nat → Nat → Nat) (o : Nat → Nat) : Nat → Nat
  | 0 => 0
  | i + 1 => bin w o i (bwd w o i) i
/-- r is the most that is true of a two -/
def IsMx (n : Nat) (P : Nat → Nat → Prop) (r : Nat) : Prop := (∀ i j, i < j → j < n → P i j → j - i ≤ r) ∧ (r = 0 ∨ ∃ i j, i < j ∧ j < n ∧ P i j ∧ r = j - i)
theorem IsMx.uq {n : Nat} {P : Nat → Nat → Prop} {r q : Nat} (h : IsMx n P r) (g : IsMx n P q) : r = q := by
  have h1 : r ≤ q := by
    rcases h.2 with e | ⟨i, j, a, b, c, e⟩
    · omega
    · have := g.1 i j a b c; omega
  have h2 : q ≤ r := by
    rcases g.2 with e | ⟨i, j, a, b, c, e⟩
    · omega
    · have := h.1 i j a b c; omega
  omega
theorem bin_in {w : Nat → Nat → Nat} {o : Nat → Nat} {i a : Nat} : ∀ k, k ≤ i → a ≤ bin w o i a k ∧ (∀ j, j < k → 0 < w (o i) (o j) → i - j ≤ bin w o i a k) ∧ (bin w o i a k = a ∨ ∃ j, j < k ∧ 0 < w (o i) (o j) ∧ bin w o i a k = i - j)
  | 0, _ => ⟨Nat.le_refl _, fun j hj => by omega, Or.inl rfl⟩
  | k + 1, hk => by
    obtain ⟨h1, h2, h3⟩ := bin_in (w := w) (o := o) (i := i) (a := a) k (by omega)
    by_cases c : 0 < w (o i) (o k)
    · have e : bin w o i a (k + 1) = Nat.max (bin w o i a k) (i - k) := if_pos c
      have m1 : bin w o i a k ≤ Nat.max (bin w o i a k) (i - k) := Nat.le_max_left _ _
      have m2 : i - k ≤ Nat.max (bin w o i a k) (i - k) := Nat.le_max_right _ _
      rw [e]
      refine ⟨by omega, fun j hj hp => ?_, ?_⟩
      · by_cases q : j = k
        · rw [q]; exact m2
        · have := h2 j (by omega) hp; omega
      · rcases Nat.le_total (bin w o i a k) (i - k) with q | q
        · rw [show Nat.max (bin w o i a k) (i - k) = i - k from Nat.max_eq_right q]
          exact Or.inr ⟨k, by omega, c, rfl⟩
        · rw [show Nat.max (bin w o i a k) (i - k) = bin w o i a k from Nat.max_eq_left q]
          rcases h3 with h3 | ⟨j, a1, a2, a3⟩
          · exact Or.inl h3
          · exact Or.inr ⟨j, by omega, a2, a3⟩
    · have e : bin w o i a (k + 1) = bin w o i a k := if_neg c
      rw [e]
      refine ⟨h1, fun j hj hp => ?_, ?_⟩
      · by_cases q : j = k
        · rw [q] at hp; exact absurd hp c
        · exact h2 j (by omega) hp
      · rcases h3 with h3 | ⟨j, a1, a2, a3⟩
        · exact Or.inl h3
        · exact Or.inr ⟨j, by omega, a2, a3⟩
theorem bwd_in {w : Nat → Nat → Nat} {o : Nat → Nat} : ∀ n, IsMx n (fun i j => 0 < w (o j) (o i)) (bwd w o n)
  | 0 => ⟨fun i j _ h => by omega, Or.inl rfl⟩
  | n + 1 => by
    obtain ⟨g1, g2⟩ := bwd_in (w := w) (o := o) n
    obtain ⟨h1, h2, h3⟩ := bin_in (w := w) (o := o) (i := n) (a := bwd w o n) n (Nat.le_refl _)
    refine ⟨fun i j a b c => ?_, ?_⟩
    · show j - i ≤ bin w o n (bwd w o n) n
      by_cases e : j = n
      · subst e
        exact h2 i a c
      · have := g1 i j a (by omega) c
        omega
    · show bin w o n (bwd w o n) n = 0 ∨ ∃ i j, i < j ∧ j < n + 1 ∧ 0 < w (o j) (o i) ∧ bin w o n (bwd w o n) n = j - i
      rcases h3 with h3 | ⟨j, a1, a2, a3⟩
      · rw [h3]
        rcases g2 with g2 | ⟨i, j, a, b, c, e⟩
        · exact Or.inl g2
        · exact Or.inr ⟨i, j, a, by omega, c, e⟩
      · exact Or.inr ⟨j, n, a1, by omega, a2, a3⟩
theorem bwd_le {w : Nat → Nat → Nat} {o : Nat → Nat} {n : Nat} : bwd w o n ≤ n := by
  rcases (bwd_in (w := w) (o := o) n).2 with h | ⟨i, j, a, b, -, e⟩ <;> omega
/-- what a row has of measure m -/
noncomputable def val (n : Nat) (w : Nat → Nat → Nat) (m : Nat) (o : Nat → Nat) : Nat := if m = 2 then bwd w o n else vfd n w m o n
theorem val_le {n : Nat} {w : Nat → Nat → Nat} {m : Nat} {o : Nat → Nat} (hw : WF n w) (hn : n < 10) : val n w m o ≤ 6561 := by
  unfold val
  split
  · have := bwd_le (w := w) (o := o) (n := n); omega
  · have := vfd_le (m := m) (o := o) hw hn n; omega
/-! the class -/
def CO (x n : Nat) (o : Nat → Nat) (t : St) : Prop := ∀ i, i < n → t (x + 2) i = nI (o i)
theorem q_widestBand {x n l : Nat} {w : Nat → Nat → Nat} {o : Nat → Nat} {t : St} (h : CN x n l w t) (g : netAt x = true) (hw : WF n w) (hn : n < 10) (ho : CO x n o t) (h9 : ∀ i, i < n → o i < 9) : FX8_widestBand x t = some (nI (bwd w o n), t) := by
  refine Ok.eq ?_
  unfold FX8_widestBand
  refine Ok.ckT g (Ok.bd (fun r u => t = u ∧ ∃ q, r = nI q ∧ IsMx n (fun i j => 0 < w (o j) (o i)) q) ?_ ?_)
  · refine Ok.count n (fun k c s => t = s ∧ ∃ q, q ≤ n ∧ c = (nI q, nI k) ∧ (∀ i j, i < j → j < n → i < k → 0 < w (o j) (o i) → j - i ≤ q) ∧ (q = 0 ∨ ∃ i j, i < j ∧ j < n ∧ 0 < w (o j) (o i) ∧ q = j - i)) ?_ ?_ (Nat.zero_le _) ⟨rfl, 0, Nat.zero_le _, rfl, fun i j _ _ h => by omega, Or.inl rfl⟩
    · rintro k c s hk ⟨rfl, q, hq, rfl, h1, h2⟩
      unfold SX8_widestBand_4
      dsimp only
      refine Ok.rdE h.1 (Ok.ifF (by rw [nI_leP (by omega) (by omega)]; omega) ?_)
      rw [nI_1]
      refine Ok.bd (fun r u => t = u ∧ ∃ q, q ≤ n ∧ r = nI q ∧ (∀ i j, i < j → j < n → i < k + 1 → 0 < w (o j) (o i) → j - i ≤ q) ∧ (q = 0 ∨ ∃ i j, i < j ∧ j < n ∧ 0 < w (o j) (o i) ∧ q = j - i)) ?_ ?_
      · refine Ok.count n (fun b c s => t = s ∧ ∃ q, q ≤ n ∧ c = (nI q, nI b) ∧ k + 1 ≤ b ∧ (∀ i j, i < j → j < n → (i < k ∨ (i = k ∧ j < b)) → 0 < w (o j) (o i) → j - i ≤ q) ∧ (q = 0 ∨ ∃ i j, i < j ∧ j < n ∧ 0 < w (o j) (o i) ∧ q = j - i)) ?_ ?_ (j := k + 1) (by omega) ⟨rfl, q, hq, rfl, Nat.le_refl _, fun i j a b c => h1 i j a b (by omega), h2⟩
        · rintro b c s hb ⟨rfl, q, hq, rfl, hkb, h1, h2⟩
          unfold SX8_widestBand_16
          dsimp only
          refine Ok.rdE h.1 (Ok.ifF (by rw [nI_leP (by omega) (by omega)]; omega) (Ok.ckT (inb_n (by omega) (by omega)) ?_))
          rw [nI_cl (by omega)]
          refine Ok.rdE (ho k hk) (Ok.ckT (inb_n (by omega) (by omega)) ?_)
          rw [nI_cl (by omega)]
          refine Ok.rdE (ho b hb) (Ok.bq (q_weightOf h g (h9 k hk) (h9 b hb)) ?_)
          have hw9 := hw.1 (o k) (o b)
          have hsy := hw.2.1 (o k) (o b)
          refine Ok.bd (fun r u => t = u ∧ ∃ q', q' ≤ n ∧ r = nI q' ∧ q ≤ q' ∧ (0 < w (o b) (o k) → b - k ≤ q') ∧ (q' = q ∨ (0 < w (o b) (o k) ∧ q' = b - k))) ?_ ?_
          · rw [li_0]
            refine Ok.cv (nI_leP (by omega) (by omega)) (Ok.ite (fun c => Ok.ret ⟨rfl, q, hq, rfl, Nat.le_refl _, fun a => by omega, Or.inl rfl⟩) (fun c => ?_))
            rw [nI_sub (by omega), mxI_n (by omega) (by omega)]
            refine Ok.ret ⟨rfl, Nat.max q (b - k), Nat.max_le.mpr ⟨hq, by omega⟩, rfl, Nat.le_max_left _ _, fun _ => Nat.le_max_right _ _, ?_⟩
            rcases Nat.le_total q (b - k) with e | e
            · exact Or.inr ⟨by omega, Nat.max_eq_right e⟩
            · exact Or.inl (Nat.max_eq_left e)
          · rintro _ _ ⟨rfl, q', hq', rfl, a1, a2, a3⟩
            refine Ok.ret ⟨rfl, q', hq', by rw [nI_1], by omega, fun i j b1 b2 b3 b4 => ?_, ?_⟩
            · by_cases e : i = k ∧ j = b
              · obtain ⟨rfl, rfl⟩ := e
                exact a2 b4
              · have := h1 i j b1 b2 (by omega) b4
                omega
            · rcases a3 with rfl | ⟨a3, rfl⟩
              · exact h2
              · exact Or.inr ⟨k, b, by omega, hb, a3, rfl⟩
        · rintro c s ⟨rfl, q, hq, rfl, hkb, h1, h2⟩
          unfold SX8_widestBand_16
          dsimp only
          exact Ok.rdE h.1 (Ok.ifT (by rw [nI_leP (by omega) (by omega)]; omega) (Ok.ret ⟨rfl, q, hq, rfl, fun i j a b c => h1 i j a b (by omega), h2⟩))
      · rintro _ _ ⟨rfl, q', hq', rfl, a1, a2⟩
        exact Ok.ret ⟨rfl, q', hq', rfl, a1, a2⟩
    · rintro c s ⟨rfl, q, hq, rfl, h1, h2⟩
      unfold SX8_widestBand_4
      dsimp only
      exact Ok.rdE h.1 (Ok.ifT (by rw [nI_leP (by omega) (by omega)]; omega) (Ok.ret ⟨rfl, q, rfl, fun i j a b => h1 i j a b (by omega), h2⟩))
  · rintro _ _ ⟨rfl, q, rfl, hq⟩
    exact Ok.ret ⟨rfl, by rw [hq.uq (bwd_in n)]⟩
theorem q_measured {x n l : Nat} {w : Nat → Nat → Nat} {o : Nat → Nat} {t : St} (h : CN x n l w t) (g : netAt x = true) (hw : WF n w) (hn : n < 10) (ho : CO x n o t) (h9 : ∀ i, i < n → o i < 9) {m : Nat} (hm : m < 7) : FX8_measured x (nI m) t = some (nI (val n w m o), t) := by
  refine Ok.eq ?_
  unfold FX8_measured val
  rw [li_2]
  refine Ok.ckT g (Ok.cv (nI_lit hm (by omega)) (Ok.ite (fun c => ?_) (fun c => ?_)))
  · rw [if_pos c]
    exact Ok.bq (q_widestBand h g hw hn ho h9) (Ok.ret ⟨rfl, rfl⟩)
  · rw [if_neg c]
    refine Ok.bq (a := nI (vfd n w m o n)) (t := t) (wq n (fun j => (nI (vfd n w m o j), nI (amk o j), nI j)) (fun j hj => ?_) ?_) (Ok.ret ⟨rfl, rfl⟩)
    · unfold SX8_measured_17
      dsimp only
      have ha := amk_lt (o := o) (i := j) (fun i hi => h9 i (by omega))
      have hv := vfd_le (m := m) (o := o) hw hn j
      have hc := cst_le (m := m) (S := amk o j) (p := o j) hw hn
      refine Ok.rdE h.1 (Ok.ifF (by rw [nI_leP (by omega) (by omega)]; omega) (Ok.ckT (inb_n (by omega) (by omega)) ?_))
      rw [nI_cl (by omega)]
      refine Ok.rdE (ho j hj) (Ok.bq (q_ast hm (h9 j hj)) (Ok.bq (q_of h g hw hn (p := o j) hm (ast_lt ha (h9 j hj)) (fun _ => ⟨rfl, h9 j hj⟩)) (Ok.bq (q_joined hm c (by omega) (Nat.lt_of_le_of_lt hc (by omega))) (Ok.ret ⟨rfl, ?_⟩))))
      rw [shl_1 (by have := h9 j hj; omega), nI_or, nI_1]
      rfl
    · unfold SX8_measured_17
      dsimp only
      exact Ok.rdE h.1 (Ok.ifT (by rw [nI_leP (by omega) (by omega)]; omega) (Ok.ret ⟨rfl, rfl⟩))
/-! the reference -/
def MO (n : Nat) (o : Nat → Nat) (t : St) : Prop := ∀ i, i < n → t 154 i = nI (o i)
theorem q_bandOf {s n : Nat} {w : Nat → Nat → Nat} {o : Nat → Nat} {t : St} (h : RN s n w t) (hs : s < 3) (hw : WF n w) (hn : n < 10) (ho : MO n o t) (h9 : ∀ i, i < n → o i < 9) : FX12_bandOf (nI s) t = some (nI (bwd w o n), t) := by
  refine Ok.eq ?_
  unfold FX12_bandOf
  refine Ok.bq (a := nI (bwd w o n)) (t := t) (wq n (fun j => (nI (bwd w o j), nI j)) (fun i hi => ?_) ?_) (Ok.ret ⟨rfl, rfl⟩)
  · unfold SX12_bandOf_4
    dsimp only
    refine Ok.bq (q_points h hs) (Ok.ifF (by rw [nI_leP (by omega) (by omega)]; omega) ?_)
    refine Ok.bq (a := nI (bin w o i (bwd w o i) i)) (t := t) (wq i (fun j => (nI (bin w o i (bwd w o i) j), nI j)) (fun j hj => ?_) ?_) (Ok.ret ⟨rfl, by rw [nI_1]; rfl⟩)
    · unfold SX12_bandOf_16
      dsimp only
      have hb1 := bwd_le (w := w) (o := o) (n := i)
      have hb2 : bin w o i (bwd w o i) j ≤ 9 := by
        rcases (bin_in (w := w) (o := o) (i := i) (a := bwd w o i) j (by omega)).2.2 with e | ⟨q, -, -, e⟩ <;> omega
      refine Ok.ifF (by rw [nI_leP (by omega) (by omega)]; omega) (Ok.ckT (inb_n (by omega) (by omega)) ?_)
      rw [nI_cl (by omega)]
      refine Ok.rdE (ho i hi) (Ok.ckT (inb_n (by omega) (by omega)) ?_)
      rw [nI_cl (by omega)]
      refine Ok.rdE (ho j (by omega)) (Ok.bq (q_weight h hs (h9 i hi) (h9 j (by omega))) ?_)
      have hw9 := hw.1 (o i) (o j)
      refine Ok.bq (a := nI (bin w o i (bwd w o i) (j + 1))) (t := t) (Ok.eq ?_) (Ok.ret ⟨rfl, by rw [nI_1]⟩)
      rw [li_0]
      refine Ok.cv (nI_leP (by omega) (by omega)) (Ok.ite (fun c => Ok.ret ⟨rfl, ?_⟩) (fun c => ?_))
      · show _ = nI (if 0 < w (o i) (o j) then _ else _)
        rw [if_neg (by omega)]
      · rw [nI_sub (by omega), mxI_n (by omega) (by omega)]
        refine Ok.ret ⟨rfl, ?_⟩
        show _ = nI (if 0 < w (o i) (o j) then _ else _)
        rw [if_pos (by omega)]
    · unfold SX12_bandOf_16
      dsimp only
      exact Ok.ifT (by rw [nI_leP (by omega) (by omega)]; omega) (Ok.ret ⟨rfl, rfl⟩)
  · unfold SX12_bandOf_4
    dsimp only
    exact Ok.bq (q_points h hs) (Ok.ifT (by rw [nI_leP (by omega) (by omega)]; omega) (Ok.ret ⟨rfl, rfl⟩))
theorem q_valueOf {s n : Nat} {w : Nat → Nat → Nat} {o : Nat → Nat} {t : St} (h : RN s n w t) (hs : s < 3) (hw : WF n w) (hn : n < 10) (ho : MO n o t) (h9 : ∀ i, i < n → o i < 9) {m : Nat} (hm : m < 7) : FX12_valueOf (nI s) (nI m) t = some (nI (val n w m o), t) := by
  refine Ok.eq ?_
  unfold FX12_valueOf val
  rw [li_2]
  refine Ok.cv (nI_lit hm (by omega)) (Ok.ite (fun c => ?_) (fun c => ?_))
  · rw [if_pos c]
    exact Ok.bq (q_bandOf h hs hw hn ho h9) (Ok.ret ⟨rfl, rfl⟩)
  · rw [if_neg c]
    refine Ok.bq (a := nI (vfd n w m o n)) (t := t) (wq n (fun j => (nI (vfd n w m o j), nI (amk o j), nI j)) (fun j hj => ?_) ?_) (Ok.ret ⟨rfl, rfl⟩)
    · unfold SX12_valueOf_19
      dsimp only
      have ha := amk_lt (o := o) (i := j) (fun i hi => h9 i (by omega))
      have hv := vfd_le (m := m) (o := o) hw hn j
      have hc := cst_le (m := m) (S := amk o j) (p := o j) hw hn
      refine Ok.bq (q_points h hs) (Ok.ifF (by rw [nI_leP (by omega) (by omega)]; omega) (Ok.ckT (inb_n (by omega) (by omega)) ?_))
      rw [nI_cl (by omega)]
      refine Ok.rdE (ho j hj) (Ok.bq (q_cost h hs hw hn hm ha (h9 j hj)) (Ok.bq (q_both hm (by omega) (by omega)) (Ok.ckT (inb_n (by omega) (by omega)) ?_)))
      refine Ok.rdE (ho j hj) (Ok.ret ⟨rfl, ?_⟩)
      rw [shl_1 (by have := h9 j hj; omega), nI_or, nI_1]
      rfl
    · unfold SX12_valueOf_19
      dsimp only
      exact Ok.bq (q_points h hs) (Ok.ifT (by rw [nI_leP (by omega) (by omega)]; omega) (Ok.ret ⟨rfl, rfl⟩))
/-! ahead, at, place -/
theorem q_aheadOf {x n l : Nat} {w : Nat → Nat → Nat} {o : Nat → Nat} {t : St} (h : CN x n l w t) (g : netAt x = true) (hn : n < 10) (ho : CO x n o t) (h9 : ∀ i, i < n → o i < 9) {k : Nat} (hk : k ≤ n) : FX5_aheadOf x (nI k) t = some (nI (amk o k), t) := by
  refine Ok.eq ?_
  unfold FX5_aheadOf
  refine Ok.ckT g (Ok.bq (a := nI (amk o k)) (t := t) (wq k (fun j => (nI (amk o j), nI j)) (fun j hj => ?_) ?_) (Ok.ret ⟨rfl, rfl⟩))
  · unfold SX5_aheadOf_4
    dsimp only
    refine Ok.ifF (by rw [nI_leP (by omega) (by omega)]; omega) (Ok.ckT (inb_n (by omega) (by omega)) ?_)
    rw [nI_cl (by omega)]
    refine Ok.rdE (ho j (by omega)) (Ok.ret ⟨rfl, ?_⟩)
    rw [shl_1 (by have := h9 j (by omega); omega), nI_or, nI_1]
    rfl
  · unfold SX5_aheadOf_4
    dsimp only
    exact Ok.ifT (by rw [nI_leP (by omega) (by omega)]; omega) (Ok.ret ⟨rfl, rfl⟩)
theorem q_at {s n : Nat} {o : Nat → Nat} {t : St} (ho : RO s n o t) (hs : s < 3) (hn : n < 10) {i : Nat} (hi : i < n) : FX12_at (nI s) (nI i) t = some (nI (o i), t) := by
  refine Ok.eq ?_
  unfold FX12_at
  rw [li_91, li_82, nI_mul, nI_add, nI_add]
  refine Ok.ckT (inb_n (by omega) (by omega)) ?_
  rw [nI_cl (by omega)]
  refine Ok.rdE (x := nI (o i)) ?_ (Ok.ret ⟨rfl, rfl⟩)
  rw [ho i (by omega), if_pos hi]
theorem q_aheadOfM {s n : Nat} {o : Nat → Nat} {t : St} (hs : s < 3) (hn : n < 10) (ho : RO s n o t) (h9 : ∀ i, i < n → o i < 9) {k : Nat} (hk : k ≤ n) : FX12_aheadOf (nI s) (nI k) t = some (nI (amk o k), t) := by
  refine Ok.eq ?_
  unfold FX12_aheadOf
  refine Ok.bq (a := nI (amk o k)) (t := t) (wq k (fun j => (nI (amk o j), nI j)) (fun j hj => ?_) ?_) (Ok.ret ⟨rfl, rfl⟩)
  · unfold SX12_aheadOf_5
    dsimp only
    refine Ok.ifF (by rw [nI_leP (by omega) (by omega)]; omega) (Ok.bq (q_at ho hs hn (by omega)) (Ok.ret ⟨rfl, ?_⟩))
    rw [shl_1 (by have := h9 j (by omega); omega), nI_or, nI_1]
    rfl
  · unfold SX12_aheadOf_5
    dsimp only
    exact Ok.ifT (by rw [nI_leP (by omega) (by omega)]; omega) (Ok.ret ⟨rfl, rfl⟩)
/-- the price of the step at place i -/
noncomputable def pri (n : Nat) (w : Nat → Nat → Nat) (m : Nat) (o : Nat → Nat) (i : Nat) : Nat := prc n w m (amk o i) (o i)
theorem q_atPlace {x n l : Nat} {w : Nat → Nat → Nat} {o : Nat → Nat} {t : St} (h : CN x n l w t) (g : netAt x = true) (hw : WF n w) (hn : n < 10) (ho : CO x n o t) (h9 : ∀ i, i < n → o i < 9) {m i : Nat} (hm : m < 7) (hi : i < n) : FX6_atPlace x (nI m) (nI i) t = some (nI (pri n w m o i), t) := by
  refine Ok.eq ?_
  unfold FX6_atPlace
  refine Ok.ckT g (Ok.bq (q_aheadOf h g hn ho h9 (by omega)) (Ok.ckT (inb_n (by omega) (by omega)) ?_))
  rw [nI_cl (by omega)]
  exact Ok.rdE (ho i hi) (Ok.bq (q_of h g hw hn (p := o i) hm (amk_lt (fun j hj => h9 j (by omega))) (fun _ => ⟨rfl, h9 i hi⟩)) (Ok.ret ⟨rfl, rfl⟩))
theorem q_priceOf {s n : Nat} {w : Nat → Nat → Nat} {o : Nat → Nat} {t : St} (h : RN s n w t) (hs : s < 3) (hw : WF n w) (hn : n < 10) (ho : RO s n o t) (h9 : ∀ i, i < n → o i < 9) {m i : Nat} (hm : m < 7) (hi : i < n) (h1 : (m = 5 ∨ m = 6) ∨ 1 ≤ i) : FX12_priceOf (nI s) (nI m) (nI i) t = some (nI (pri n w m o i), t) := by
  refine Ok.eq ?_
  unfold FX12_priceOf
  refine Ok.bq (q_takenM hm) ?_
  by_cases c : m = 5 ∨ m = 6
  · rw [if_pos c]
    refine Ok.ifF (by decide) (Ok.bq (q_aheadOfM hs hn ho h9 (by omega)) (Ok.bq (q_at ho hs hn hi) (Ok.bq (q_cost h hs hw hn hm (amk_lt (fun j hj => h9 j (by omega))) (h9 i hi)) (Ok.ret ⟨rfl, ?_⟩))))
    unfold pri cst ast
    rw [if_pos c]
  · rw [if_neg c, li_1, nI_sub (by omega)]
    refine Ok.ifT rfl (Ok.bq (q_aheadOfM hs hn ho h9 (k := i - 1) (by omega)) (Ok.bq (q_at ho hs hn (i := i - 1) (by omega)) (Ok.bq (q_cost h hs hw hn hm (amk_lt (fun j hj => h9 j (by omega))) (h9 (i - 1) (by omega))) (Ok.ret ⟨rfl, ?_⟩))))
    have e : amk o i = amk o (i - 1) ||| 2 ^ o (i - 1) := by
      have : i = (i - 1) + 1 := by omega
      rw [this]
      rfl
    unfold pri cst ast prc
    rw [if_neg c, if_neg (by omega), if_neg (by omega), if_neg (by omega), if_neg (by omega), e]
end
section
/-! over all rows, by sets: pure -/
/-- the least of f p over the p below n with P p, T without -/
def mns (P : Nat → Bool) (f : Nat → Nat) (T : Nat) : Nat → Nat
  | 0 => T
  | p + 1 => if P p = true then Nat.min (mns P f T p) (f p) else mns P f T p
theorem mns_congr {P Q : Nat → Bool} {f g : Nat → Nat} {T : Nat} : ∀ {n : Nat}, (∀ p, p < n → P p = Q p) → (∀ p, p < n → P p = true → f p = g p) → mns P f T n = mns Q g T n
  | 0, _, _ => rfl
  | n + 1, h1, h2 => by
    show (if P n = true then _ else _) = (if Q n = true then _ else _)
    rw [mns_congr (fun p hp => h1 p (by omega)) (fun p hp => h2 p (by omega)), ← h1 n (by omega)]
    by_cases c : P n = true
    · rw [if_pos c, if_pos c, h2 n (by omega) c]
    · rw [if_neg c, if_neg c]
theorem mns_le {P : Nat → Bool} {f : Nat → Nat} {T : Nat} : ∀ {n : Nat}, mns P f T n ≤ T
  | 0 => Nat.le_refl _
  | n + 1 => by
    have h := mns_le (P := P) (f := f) (T := T) (n := n)
    show (if P n = true then _ else _) ≤ T
    by_cases c : P n = true
    · rw [if_pos c]; exact Nat.le_trans (Nat.min_le_left _ _) h
    · rw [if_neg c]; exact h
theorem mns_lb {P : Nat → Bool} {f : Nat → Nat} {T p : Nat} : ∀ {n : Nat}, p < n → P p = true → mns P f T n ≤ f p
  | 0, h, _ => by omega
  | n + 1, h, hp => by
    show (if P n = true then _ else _) ≤ f p
    by_cases e : p = n
    · subst e
      rw [if_pos hp]
      exact Nat.min_le_right _ _
    · have h1 := mns_lb (P := P) (f := f) (T := T) (p := p) (n := n) (by omega) hp
      by_cases c : P n = true
      · rw [if_pos c]; exact Nat.le_trans (Nat.min_le_left _ _) h1
      · rw [if_neg c]; exact h1
theorem mns_at {P : Nat → Bool} {f : Nat → Nat} {T : Nat} : ∀ {n : Nat}, mns P f T n = T ∨ ∃ p, p < n ∧ P p = true ∧ mns P f T n = f p
  | 0 => Or.inl rfl
  | n + 1 => by
    have h := mns_at (P := P) (f := f) (T := T) (n := n)
    show (if P n = true then Nat.min (mns P f T n) (f n) else mns P f T n) = T ∨ ∃ p, p < n + 1 ∧ P p = true ∧ (if P n = true then Nat.min (mns P f T n) (f n) else mns P f T n) = f p
    by_cases c : P n = true
    · rw [if_pos c]
      rcases Nat.le_total (mns P f T n) (f n) with q | q
      · rw [show Nat.min (mns P f T n) (f n) = mns P f T n from Nat.min_eq_left q]
        rcases h with h | ⟨p, a, b, e⟩
        · exact Or.inl h
        · exact Or.inr ⟨p, by omega, b, e⟩
      · rw [show Nat.min (mns P f T n) (f n) = f n from Nat.min_eq_right q]
        exact Or.inr ⟨n, by omega, c, rfl⟩
    · rw [if_neg c]
      rcases h with h | ⟨p, a, b, e⟩
      · exact Or.inl h
      · exact Or.inr ⟨p, by omega, b, e⟩
/-- the least from S on, k steps, over steps that al lets through -/
def rst (n m T : Nat) (al : Nat → Nat → Bool) (c : Nat → Nat → Nat) : Nat → Nat → Nat
  | 0, _ => 0
  | k + 1, S => mns (fun p => !S.testBit p && al S p) (fun p => jn m (c S p) (rst n m T al c k (S ||| 2 ^ p))) T n
theorem jn_le {m a b x y : Nat} (ha : a ≤ x) (hb : b ≤ y) : jn m a b ≤ x + y := by
  unfold jn
  split
  · exact Nat.max_le.mpr ⟨by omega, by omega⟩
  · omega
theorem jn_T {m a T : Nat} (ha : a ≤ T) : T ≤ jn m a T := by
  unfold jn
  split
  · exact Nat.le_max_right _ _
  · omega
theorem mns_TU {P : Nat → Bool} {f g : Nat → Nat} {T U B : Nat} (h : ∀ p, P p = true → (f p = g p ∧ f p ≤ B) ∨ (T ≤ f p ∧ U ≤ g p)) (hT : B < T) (hU : B < U) : ∀ n, (mns P f T n = mns P g U n ∧ mns P f T n ≤ B) ∨ (mns P f T n = T ∧ mns P g U n = U)
  | 0 => Or.inr ⟨rfl, rfl⟩
  | n + 1 => by
    have ih := mns_TU h hT hU n
    have e1 : mns P f T (n + 1) = if P n = true then Nat.min (mns P f T n) (f n) else mns P f T n := rfl
    have e2 : mns P g U (n + 1) = if P n = true then Nat.min (mns P g U n) (g n) else mns P g U n := rfl
    rw [e1, e2]
    by_cases q : P n = true
    · rw [if_pos q, if_pos q]
      rcases h n q with ⟨f1, f2⟩ | ⟨f1, f2⟩
      · rcases ih with ⟨g1, g2⟩ | ⟨g1, g2⟩
        · rw [← g1, ← f1]
          exact Or.inl ⟨rfl, Nat.le_trans (Nat.min_le_left _ _) g2⟩
        · rw [g1, g2, ← f1]
          refine Or.inl ⟨?_, Nat.le_trans (Nat.min_le_right _ _) f2⟩
          rw [show Nat.min T (f n) = f n from Nat.min_eq_right (by omega), show Nat.min U (f n) = f n from Nat.min_eq_right (by omega)]
      · rcases ih with ⟨g1, g2⟩ | ⟨g1, g2⟩
        · rw [← g1]
          refine Or.inl ⟨?_, Nat.le_trans (Nat.min_le_left _ _) g2⟩
          rw [show Nat.min (mns P f T n) (f n) = mns P f T n from Nat.min_eq_left (by omega), show Nat.min (mns P f T n) (g n) = mns P f T n from Nat.min_eq_left (by omega)]
        · rw [g1, g2]
          exact Or.inr ⟨Nat.min_eq_left f1, Nat.min_eq_left f2⟩
    · rw [if_neg q, if_neg q]
      exact ih
/-- with another top the same, but for the top -/
theorem rst_T {n m T U : Nat} {al : Nat → Nat → Bool} {c : Nat → Nat → Nat} (hc : ∀ S p, c S p ≤ 729) (hT : 7000 < T) (hU : 7000 < U) : ∀ {k S : Nat}, k ≤ 9 → (rst n m T al c k S = rst n m U al c k S ∧ rst n m T al c k S ≤ 729 * k) ∨ (rst n m T al c k S = T ∧ rst n m U al c k S = U)
  | 0, S, _ => Or.inl ⟨rfl, Nat.zero_le _⟩
  | k + 1, S, hk => by
    refine mns_TU (B := 729 * (k + 1)) (fun p _ => ?_) (by omega) (by omega) n
    have hcp := hc S p
    rcases rst_T (n := n) (m := m) (al := al) hc hT hU (k := k) (S := S ||| 2 ^ p) (by omega) with ⟨e1, e2⟩ | ⟨e1, e2⟩
    · refine Or.inl ⟨by rw [e1], ?_⟩
      have := jn_le (m := m) hcp e2
      omega
    · refine Or.inr ⟨?_, ?_⟩
      · rw [e1]; exact jn_T (by omega)
      · rw [e2]; exact jn_T (by omega)
/-- how many rows go on from S, k steps, over steps that ok lets through -/
def crw (n : Nat) (ok : Nat → Nat → Bool) : Nat → Nat → Nat
  | 0, _ => 1
  | k + 1, S => sm n (fun p => if (!S.testBit p && ok S p) = true then crw n ok k (S ||| 2 ^ p) else 0)
theorem crw_le {n : Nat} {ok : Nat → Nat → Bool} (hn : n < 10) : ∀ {k S : Nat}, crw n ok k S ≤ 9 ^ k
  | 0, S => Nat.le_refl _
  | k + 1, S => by
    have h := sm_le (f := fun p => if (!S.testBit p && ok S p) = true then crw n ok k (S ||| 2 ^ p) else 0) (b := 9 ^ k) (n := n) (fun p _ => by
      show (if (!S.testBit p && ok S p) = true then _ else 0) ≤ 9 ^ k
      split
      · exact crw_le hn
      · exact Nat.zero_le _)
    have h2 : n * 9 ^ k ≤ 9 * 9 ^ k := Nat.mul_le_mul_right _ (by omega)
    have h3 : 9 ^ (k + 1) = 9 ^ k * 9 := Nat.pow_succ 9 k
    show sm n _ ≤ 9 ^ (k + 1)
    omega
theorem crw_b {n : Nat} {ok : Nat → Nat → Bool} (hn : n < 10) {k S : Nat} (hk : k ≤ 9) : crw n ok k S < 400000000 := by
  have h1 := crw_le (ok := ok) hn (k := k) (S := S)
  have h2 : 9 ^ k ≤ 9 ^ 9 := Nat.pow_le_pow_right (by decide) hk
  have h3 : 9 ^ 9 = 387420489 := by decide
  omega
/-- the row of k-th least numbers: pure facts of sets -/
theorem set_up {S p n : Nat} (hS : S < 2 ^ n) (hp : p < n) (hb : S.testBit p = false) : S < S ||| 2 ^ p ∧ S ||| 2 ^ p < 2 ^ n ∧ cnt (S ||| 2 ^ p) n = cnt S n + 1 := by
  have h1 : S ||| 2 ^ p < 2 ^ n := Nat.or_lt_two_pow hS (Nat.pow_lt_pow_right (by decide) hp)
  have h2 := cnt_or hb (n := n)
  rw [if_pos hp] at h2
  refine ⟨?_, h1, h2⟩
  have h3 : S ≤ S ||| 2 ^ p := Nat.left_le_or
  have h4 : S ≠ S ||| 2 ^ p := by
    intro e
    have : (S ||| 2 ^ p).testBit p = true := by rw [Nat.testBit_or, pow_bit]; simp
    rw [← e, hb] at this
    cases this
  omega
theorem cnt_ltf {S n : Nat} (hS : S < 2 ^ n - 1) : cnt S n < n := by
  have h1 := cnt_le (S := S) (n := n)
  have h2 : cnt S n ≠ n := by
    intro e
    have := (full_cnt (S := S) (N := n) (by omega)).mp e
    omega
  omega
theorem cnt_fl {n : Nat} : cnt (2 ^ n - 1) n = n := cnt_all (fun p hp => by rw [Nat.testBit_two_pow_sub_one]; simp [hp])
theorem no_bit {S n : Nat} (h : cnt S n < n) : ∃ p, p < n ∧ S.testBit p = false := by
  refine Classical.byContradiction (fun q => ?_)
  have : cnt S n = n := cnt_all (fun p hp => bT (fun e => q ⟨p, hp, e⟩))
  omega
end
