/-! without a fault what is told of it stays (printed by wip/sim/g63a.py) -/
def Gd {α : Type} (t : St) (m : Option (α × St)) : Prop := ∀ v u, m = some (v, u) → u 149 12 = 0 → t 149 12 = 0 ∧ u 149 6 = t 149 6 ∧ u 149 7 = t 149 7
theorem Gd.ret {α : Type} {t : St} {v : α} : Gd t (some (v, t)) := by
  intro w u h q
  obtain ⟨rfl, rfl⟩ := some_pair h
  exact ⟨q, rfl, rfl⟩
theorem Gd.bd {α β : Type} {t : St} {m : Option (α × St)} {f : α → St → Option (β × St)} (h : Gd t m) (k : ∀ v s, Gd s (f v s)) : Gd t (bnd m f) := by
  intro w u e q
  obtain ⟨v, s, e1, e2⟩ := bnd_some e
  obtain ⟨a1, a2, a3⟩ := k v s w u e2 q
  obtain ⟨b1, b2, b3⟩ := h v s e1 a1
  exact ⟨b1, a2.trans b2, a3.trans b3⟩
theorem Gd.ck {α : Type} {t : St} {b : Bool} {m : Option (α × St)} (k : b = true → Gd t m) : Gd t (chk b m) := by
  intro w u e
  obtain ⟨e1, e2⟩ := chk_some e
  exact k e1 w u e2
theorem Gd.ite {α : Type} {t : St} {q : Prop} [Decidable q] {x y : Option (α × St)} (a : Gd t x) (b : Gd t y) : Gd t (if q then x else y) := by
  by_cases h : q
  · rw [if_pos h]; exact a
  · rw [if_neg h]; exact b
theorem Gd.rd {α : Type} {t s : St} {a i : Nat} {f : Int32 → Option (α × St)} (k : ∀ v, Gd t (f v)) : Gd t (rdb s a i f) := k _
theorem Gd.wr {α : Type} {t : St} {a i : Nat} {v : Int32} {f : St → Option (α × St)} (h : a ≠ 149 ∨ (i ≠ 6 ∧ i ≠ 7 ∧ i ≠ 12)) (k : ∀ s, Gd s (f s)) : Gd t (wrb t a i v f) := by
  intro w u e q
  obtain ⟨a1, a2, a3⟩ := k _ w u e q
  have key : ∀ j, (j = 6 ∨ j = 7 ∨ j = 12) → (fun b => if b = a then upd (t a) i v else t b : St) 149 j = t 149 j := by
    intro j hj
    show (if 149 = a then upd (t a) i v else t 149) j = t 149 j
    by_cases e : 149 = a
    · rw [if_pos e, ← e, pk_un (by omega)]
    · rw [if_neg e]
  have k6 := key 6 (by omega)
  have k7 := key 7 (by omega)
  have k12 := key 12 (by omega)
  exact ⟨k12.symm.trans a1, a2.trans k6, a3.trans k7⟩
theorem Gd.se {α β γ : Type} {t : St} {o : β ⊕ γ} {x : β → Option (α × St)} {f : γ → Option (α × St)} (a : ∀ v, Gd t (x v)) (b : ∀ v, Gd t (f v)) : Gd t (Sum.elim x f o) := by
  cases o
  · exact a _
  · exact b _
theorem Gd.wh {C R : Type} {f : C → St → Option ((C ⊕ R) × St)} (h : ∀ c s, Gd s (f c s)) {c : C} {t : St} : Gd t (wh f c t) := by
  intro w u e
  obtain ⟨k, hk⟩ := wh_itr e
  clear e
  induction k generalizing c t with
  | zero => exact absurd hk (itr_zero _ _ _ _)
  | succ k ih =>
    obtain ⟨x, s, h1, h2⟩ := itr_succ hk
    intro q
    rcases x with d | r
    · obtain ⟨a1, a2, a3⟩ := ih h2 q
      obtain ⟨b1, b2, b3⟩ := h c t _ _ h1 a1
      exact ⟨b1, a2.trans b2, a3.trans b3⟩
    · obtain ⟨rfl, rfl⟩ := some_pair h2
      exact h c t _ _ h1 q
theorem Gd.fo {α : Type} {t : St} {m : Option (α × St)} (h : Fo (fun c i => c = 149 ∧ (i = 6 ∨ i = 7 ∨ i = 12)) t m) : Gd t m := by
  intro v u e q
  have h6 := h v u e 149 6 ⟨rfl, by omega⟩
  have h7 := h v u e 149 7 ⟨rfl, by omega⟩
  have h12 := h v u e 149 12 ⟨rfl, by omega⟩
  exact ⟨h12.symm.trans q, h6, h7⟩
theorem gd_FX12_faults {t : St} (a : Int32) : Gd t (FX12_faults a t) := by
  intro v u e q
  unfold FX12_faults at e
  have e : (if t 149 12 = 0 then some ((), wr (wr (wr t 149 12 1) 149 6 a) 149 7 (wr (wr t 149 12 1) 149 6 a 149 9)) else some ((), t)) = some (v, u) := e
  by_cases c : t 149 12 = 0
  · rw [if_pos c] at e
    obtain ⟨-, rfl⟩ := some_pair e
    have : wr (wr (wr t 149 12 1) 149 6 a) 149 7 (wr (wr t 149 12 1) 149 6 a 149 9) 149 12 = 0 := q
    rw [wrn (by decide), wrn (by decide), wrs] at this
    exact absurd this (by decide)
  · rw [if_neg c] at e
    obtain ⟨-, rfl⟩ := some_pair e
    exact absurd q c
theorem gd_FX12_in {t : St} (q0 : Int64) (q1 : Int64) (q2 : Int64) : Gd t (FX12_in q0 q1 q2 t) := Gd.fo (fo_FX12_in q0 q1 q2)
theorem gd_FX12_points {t : St} (q0 : Int32) : Gd t (FX12_points q0 t) := Gd.fo (fo_FX12_points q0)
theorem gd_FX12_lines {t : St} (q0 : Int32) : Gd t (FX12_lines q0 t) := Gd.fo (fo_FX12_lines q0)
theorem gd_FX12_weight {t : St} (q0 : Int32) (q1 : Int32) (q2 : Int32) : Gd t (FX12_weight q0 q1 q2 t) := Gd.fo (fo_FX12_weight q0 q1 q2)
theorem gd_FX12_weighs {t : St} (q0 : Int32) (q1 : Int32) (q2 : Int32) (q3 : Int32) : Gd t (FX12_weighs q0 q1 q2 q3 t) := Gd.fo (fo_FX12_weighs q0 q1 q2 q3 (fun c i h => by omega))
theorem gd_FX12_has {t : St} (q0 : Int32) (q1 : Int32) : Gd t (FX12_has q0 q1 t) := Gd.fo (fo_FX12_has q0 q1)
theorem gd_FX12_puts {t : St} (q0 : Int32) (q1 : Int32) (q2 : Int32) : Gd t (FX12_puts q0 q1 q2 t) := Gd.fo (fo_FX12_puts q0 q1 q2 (fun c i h => by omega))
theorem gd_FX12_empties {t : St} (q0 : Int32) : Gd t (FX12_empties q0 t) := Gd.fo (fo_FX12_empties q0 (fun c i h => by omega))
theorem gd_FX12_here {t : St} (a : Int32) (b : Int32) : Gd t (FX12_here a b t) := by
  unfold FX12_here
  repeat' first
    | with_reducible exact Gd.ret
    | with_reducible exact gd_FX12_in _ _ _
    | with_reducible exact gd_FX12_faults _
    | with_reducible refine Gd.bd ?_ (fun _ _ => ?_)
    | with_reducible refine Gd.ck (fun _ => ?_)
    | with_reducible refine Gd.ite ?_ ?_
    | with_reducible refine Gd.rd (fun _ => ?_)
    | with_reducible refine Gd.wr (by first | decide | exact Or.inl (by decide)) (fun _ => ?_)
    | with_reducible refine Gd.se (fun _ => ?_) (fun _ => ?_)
theorem gd_FX12_isAt {t : St} (a : Int32) (b : Int32) : Gd t (FX12_isAt a b t) := by
  unfold FX12_isAt
  repeat' first
    | with_reducible exact Gd.ret
    | with_reducible exact gd_FX12_in _ _ _
    | with_reducible refine Gd.bd ?_ (fun _ _ => ?_)
    | with_reducible refine Gd.ck (fun _ => ?_)
    | with_reducible refine Gd.ite ?_ ?_
    | with_reducible refine Gd.rd (fun _ => ?_)
    | with_reducible refine Gd.wr (by first | decide | exact Or.inl (by decide)) (fun _ => ?_)
    | with_reducible refine Gd.se (fun _ => ?_) (fun _ => ?_)
theorem gd_FX12_isSign {t : St} (a : Int32) : Gd t (FX12_isSign a t) := by
  unfold FX12_isSign
  repeat' first
    | with_reducible exact Gd.ret
    | with_reducible refine Gd.bd ?_ (fun _ _ => ?_)
    | with_reducible refine Gd.ck (fun _ => ?_)
    | with_reducible refine Gd.ite ?_ ?_
    | with_reducible refine Gd.rd (fun _ => ?_)
    | with_reducible refine Gd.wr (by first | decide | exact Or.inl (by decide)) (fun _ => ?_)
    | with_reducible refine Gd.se (fun _ => ?_) (fun _ => ?_)
theorem gd_SX12_isWord_s4_39 {t : St} (c : Int32 × Int32) : Gd t (SX12_isWord_s4_39 c t) := by
  unfold SX12_isWord_s4_39
  repeat' first
    | with_reducible exact Gd.ret
    | with_reducible refine Gd.bd ?_ (fun _ _ => ?_)
    | with_reducible refine Gd.ck (fun _ => ?_)
    | with_reducible refine Gd.ite ?_ ?_
    | with_reducible refine Gd.rd (fun _ => ?_)
    | with_reducible refine Gd.wr (by first | decide | exact Or.inl (by decide)) (fun _ => ?_)
    | with_reducible refine Gd.se (fun _ => ?_) (fun _ => ?_)
theorem gd_FX12_isWord_s4 {t : St} : Gd t (FX12_isWord_s4 t) := by
  unfold FX12_isWord_s4
  repeat' first
    | with_reducible exact Gd.ret
    | with_reducible refine Gd.wh (fun cc ss => gd_SX12_isWord_s4_39 cc)
    | with_reducible refine Gd.bd ?_ (fun _ _ => ?_)
    | with_reducible refine Gd.ck (fun _ => ?_)
    | with_reducible refine Gd.ite ?_ ?_
    | with_reducible refine Gd.rd (fun _ => ?_)
    | with_reducible refine Gd.wr (by first | decide | exact Or.inl (by decide)) (fun _ => ?_)
    | with_reducible refine Gd.se (fun _ => ?_) (fun _ => ?_)
theorem gd_SX12_isWord_s5_39 {t : St} (c : Int32 × Int32) : Gd t (SX12_isWord_s5_39 c t) := by
  unfold SX12_isWord_s5_39
  repeat' first
    | with_reducible exact Gd.ret
    | with_reducible refine Gd.bd ?_ (fun _ _ => ?_)
    | with_reducible refine Gd.ck (fun _ => ?_)
    | with_reducible refine Gd.ite ?_ ?_
    | with_reducible refine Gd.rd (fun _ => ?_)
    | with_reducible refine Gd.wr (by first | decide | exact Or.inl (by decide)) (fun _ => ?_)
    | with_reducible refine Gd.se (fun _ => ?_) (fun _ => ?_)
theorem gd_FX12_isWord_s5 {t : St} : Gd t (FX12_isWord_s5 t) := by
  unfold FX12_isWord_s5
  repeat' first
    | with_reducible exact Gd.ret
    | with_reducible refine Gd.wh (fun cc ss => gd_SX12_isWord_s5_39 cc)
    | with_reducible refine Gd.bd ?_ (fun _ _ => ?_)
    | with_reducible refine Gd.ck (fun _ => ?_)
    | with_reducible refine Gd.ite ?_ ?_
    | with_reducible refine Gd.rd (fun _ => ?_)
    | with_reducible refine Gd.wr (by first | decide | exact Or.inl (by decide)) (fun _ => ?_)
    | with_reducible refine Gd.se (fun _ => ?_) (fun _ => ?_)
theorem gd_SX12_next_0 {t : St} (c : Unit) : Gd t (SX12_next_0 c t) := by
  unfold SX12_next_0
  repeat' first
    | with_reducible exact Gd.ret
    | with_reducible exact gd_FX12_isAt _ _
    | with_reducible refine Gd.bd ?_ (fun _ _ => ?_)
    | with_reducible refine Gd.ck (fun _ => ?_)
    | with_reducible refine Gd.ite ?_ ?_
    | with_reducible refine Gd.rd (fun _ => ?_)
    | with_reducible refine Gd.wr (by first | decide | exact Or.inl (by decide)) (fun _ => ?_)
    | with_reducible refine Gd.se (fun _ => ?_) (fun _ => ?_)
theorem gd_SX12_next_123 {t : St} (c : Unit) : Gd t (SX12_next_123 c t) := by
  unfold SX12_next_123
  repeat' first
    | with_reducible exact Gd.ret
    | with_reducible exact gd_FX12_isAt _ _
    | with_reducible refine Gd.bd ?_ (fun _ _ => ?_)
    | with_reducible refine Gd.ck (fun _ => ?_)
    | with_reducible refine Gd.ite ?_ ?_
    | with_reducible refine Gd.rd (fun _ => ?_)
    | with_reducible refine Gd.wr (by first | decide | exact Or.inl (by decide)) (fun _ => ?_)
    | with_reducible refine Gd.se (fun _ => ?_) (fun _ => ?_)
theorem gd_SX12_next_83 {t : St} (c : Unit) : Gd t (SX12_next_83 c t) := by
  unfold SX12_next_83
  repeat' first
    | with_reducible exact Gd.ret
    | with_reducible exact gd_FX12_isAt _ _
    | with_reducible refine Gd.bd ?_ (fun _ _ => ?_)
    | with_reducible refine Gd.ck (fun _ => ?_)
    | with_reducible refine Gd.ite ?_ ?_
    | with_reducible refine Gd.rd (fun _ => ?_)
    | with_reducible refine Gd.wr (by first | decide | exact Or.inl (by decide)) (fun _ => ?_)
    | with_reducible refine Gd.se (fun _ => ?_) (fun _ => ?_)
theorem gd_FX12_next {t : St} : Gd t (FX12_next t) := by
  unfold FX12_next
  repeat' first
    | with_reducible exact Gd.ret
    | with_reducible refine Gd.wh (fun cc ss => gd_SX12_next_0 cc)
    | with_reducible exact gd_FX12_isAt _ _
    | with_reducible refine Gd.wh (fun cc ss => gd_SX12_next_123 cc)
    | with_reducible refine Gd.wh (fun cc ss => gd_SX12_next_83 cc)
    | with_reducible refine Gd.bd ?_ (fun _ _ => ?_)
    | with_reducible refine Gd.ck (fun _ => ?_)
    | with_reducible refine Gd.ite ?_ ?_
    | with_reducible refine Gd.rd (fun _ => ?_)
    | with_reducible refine Gd.wr (by first | decide | exact Or.inl (by decide)) (fun _ => ?_)
    | with_reducible refine Gd.se (fun _ => ?_) (fun _ => ?_)
theorem gd_FX12_passes {t : St} : Gd t (FX12_passes t) := by
  unfold FX12_passes
  repeat' first
    | with_reducible exact Gd.ret
    | with_reducible exact gd_FX12_next
    | with_reducible refine Gd.bd ?_ (fun _ _ => ?_)
    | with_reducible refine Gd.ck (fun _ => ?_)
    | with_reducible refine Gd.ite ?_ ?_
    | with_reducible refine Gd.rd (fun _ => ?_)
    | with_reducible refine Gd.wr (by first | decide | exact Or.inl (by decide)) (fun _ => ?_)
    | with_reducible refine Gd.se (fun _ => ?_) (fun _ => ?_)
theorem gd_FX12_must {t : St} (a : Int32) : Gd t (FX12_must a t) := by
  unfold FX12_must
  repeat' first
    | with_reducible exact Gd.ret
    | with_reducible exact gd_FX12_faults _
    | with_reducible exact gd_FX12_passes
    | with_reducible refine Gd.bd ?_ (fun _ _ => ?_)
    | with_reducible refine Gd.ck (fun _ => ?_)
    | with_reducible refine Gd.ite ?_ ?_
    | with_reducible refine Gd.rd (fun _ => ?_)
    | with_reducible refine Gd.wr (by first | decide | exact Or.inl (by decide)) (fun _ => ?_)
    | with_reducible refine Gd.se (fun _ => ?_) (fun _ => ?_)
theorem gd_FX12_readsLine {t : St} (a : Int32) : Gd t (FX12_readsLine a t) := by
  unfold FX12_readsLine
  repeat' first
    | with_reducible exact Gd.ret
    | with_reducible exact gd_FX12_points _
    | with_reducible exact gd_FX12_here _ _
    | with_reducible exact gd_FX12_lines _
    | with_reducible exact gd_FX12_faults _
    | with_reducible exact gd_FX12_passes
    | with_reducible exact gd_FX12_isSign _
    | with_reducible exact gd_FX12_must _
    | with_reducible exact gd_FX12_weight _ _ _
    | with_reducible exact gd_FX12_next
    | with_reducible exact gd_FX12_weighs _ _ _ _
    | with_reducible refine Gd.bd ?_ (fun _ _ => ?_)
    | with_reducible refine Gd.ck (fun _ => ?_)
    | with_reducible refine Gd.ite ?_ ?_
    | with_reducible refine Gd.rd (fun _ => ?_)
    | with_reducible refine Gd.wr (by first | decide | exact Or.inl (by decide)) (fun _ => ?_)
    | with_reducible refine Gd.se (fun _ => ?_) (fun _ => ?_)
theorem gd_SX12_readsRow_35 {t : St} (w1 : Int32) (c : Int32 × Int32 × Int32) : Gd t (SX12_readsRow_35 w1 c t) := by
  unfold SX12_readsRow_35
  repeat' first
    | with_reducible exact Gd.ret
    | with_reducible exact gd_FX12_points _
    | with_reducible exact gd_FX12_has _ _
    | with_reducible refine Gd.bd ?_ (fun _ _ => ?_)
    | with_reducible refine Gd.ck (fun _ => ?_)
    | with_reducible refine Gd.ite ?_ ?_
    | with_reducible refine Gd.rd (fun _ => ?_)
    | with_reducible refine Gd.wr (by first | decide | exact Or.inl (by decide)) (fun _ => ?_)
    | with_reducible refine Gd.se (fun _ => ?_) (fun _ => ?_)
theorem gd_SX12_readsRow_134 {t : St} (w1 : Int32) (c : Int32) : Gd t (SX12_readsRow_134 w1 c t) := by
  unfold SX12_readsRow_134
  repeat' first
    | with_reducible exact Gd.ret
    | with_reducible exact gd_FX12_points _
    | with_reducible exact gd_FX12_puts _ _ _
    | with_reducible refine Gd.bd ?_ (fun _ _ => ?_)
    | with_reducible refine Gd.ck (fun _ => ?_)
    | with_reducible refine Gd.ite ?_ ?_
    | with_reducible refine Gd.rd (fun _ => ?_)
    | with_reducible refine Gd.wr (by first | decide | exact Or.inl (by decide)) (fun _ => ?_)
    | with_reducible refine Gd.se (fun _ => ?_) (fun _ => ?_)
theorem gd_FX12_readsRow {t : St} (a : Int32) : Gd t (FX12_readsRow a t) := by
  unfold FX12_readsRow
  repeat' first
    | with_reducible exact Gd.ret
    | with_reducible exact gd_FX12_next
    | with_reducible exact gd_FX12_points _
    | with_reducible refine Gd.wh (fun cc ss => gd_SX12_readsRow_35 _ cc)
    | with_reducible exact gd_FX12_faults _
    | with_reducible refine Gd.wh (fun cc ss => gd_SX12_readsRow_134 _ cc)
    | with_reducible exact gd_FX12_passes
    | with_reducible exact gd_FX12_isSign _
    | with_reducible exact gd_FX12_must _
    | with_reducible refine Gd.bd ?_ (fun _ _ => ?_)
    | with_reducible refine Gd.ck (fun _ => ?_)
    | with_reducible refine Gd.ite ?_ ?_
    | with_reducible refine Gd.rd (fun _ => ?_)
    | with_reducible refine Gd.wr (by first | decide | exact Or.inl (by decide)) (fun _ => ?_)
    | with_reducible refine Gd.se (fun _ => ?_) (fun _ => ?_)
theorem gd_SX12_readsNet_39 {t : St} (w1 : Int32) (w2 : Int32) (c : Int32) : Gd t (SX12_readsNet_39 w1 w2 c t) := by
  unfold SX12_readsNet_39
  repeat' first
    | with_reducible exact Gd.ret
    | with_reducible exact gd_FX12_puts _ _ _
    | with_reducible refine Gd.bd ?_ (fun _ _ => ?_)
    | with_reducible refine Gd.ck (fun _ => ?_)
    | with_reducible refine Gd.ite ?_ ?_
    | with_reducible refine Gd.rd (fun _ => ?_)
    | with_reducible refine Gd.wr (by first | decide | exact Or.inl (by decide)) (fun _ => ?_)
    | with_reducible refine Gd.se (fun _ => ?_) (fun _ => ?_)
theorem gd_SX12_readsNet_75 {t : St} (w1 : Int32) (c : Unit) : Gd t (SX12_readsNet_75 w1 c t) := by
  unfold SX12_readsNet_75
  repeat' first
    | with_reducible exact Gd.ret
    | with_reducible exact gd_FX12_isSign _
    | with_reducible exact gd_FX12_next
    | with_reducible exact gd_FX12_readsLine _
    | with_reducible refine Gd.bd ?_ (fun _ _ => ?_)
    | with_reducible refine Gd.ck (fun _ => ?_)
    | with_reducible refine Gd.ite ?_ ?_
    | with_reducible refine Gd.rd (fun _ => ?_)
    | with_reducible refine Gd.wr (by first | decide | exact Or.inl (by decide)) (fun _ => ?_)
    | with_reducible refine Gd.se (fun _ => ?_) (fun _ => ?_)
theorem gd_FX12_readsNet {t : St} (a : Int32) : Gd t (FX12_readsNet a t) := by
  unfold FX12_readsNet
  repeat' first
    | with_reducible exact Gd.ret
    | with_reducible exact gd_FX12_isWord_s4
    | with_reducible exact gd_FX12_must _
    | with_reducible exact gd_FX12_here _ _
    | with_reducible exact gd_FX12_passes
    | with_reducible exact gd_FX12_empties _
    | with_reducible refine Gd.wh (fun cc ss => gd_SX12_readsNet_39 _ _ cc)
    | with_reducible exact gd_FX12_isSign _
    | with_reducible exact gd_FX12_next
    | with_reducible exact gd_FX12_readsLine _
    | with_reducible refine Gd.wh (fun cc ss => gd_SX12_readsNet_75 _ cc)
    | with_reducible exact gd_FX12_isWord_s5
    | with_reducible exact gd_FX12_readsRow _
    | with_reducible exact gd_FX12_faults _
    | with_reducible refine Gd.bd ?_ (fun _ _ => ?_)
    | with_reducible refine Gd.ck (fun _ => ?_)
    | with_reducible refine Gd.ite ?_ ?_
    | with_reducible refine Gd.rd (fun _ => ?_)
    | with_reducible refine Gd.wr (by first | decide | exact Or.inl (by decide)) (fun _ => ?_)
    | with_reducible refine Gd.se (fun _ => ?_) (fun _ => ?_)
