/-! more rows -/
section XN2
variable {G : xG} {mt : xM} {R : Room} {Z : xZ} {pc : Nat} {lv : List (Nat × Value)} {st : List Value} {M : xMem} {k n : Nat}
/-- Math.min -/
theorem xi_min {idx : Nat} {x y v : Int32} (hd : decode mt.2.1 pc = .ok (.invokestatic idx, 3)) (hw : Cond.methodLink mt.1.cls idx Lib.Math.min.name ∈ xWall) (hs : Cond.static Lib.Math.min.name ∈ xWall) (hin : Cond.initialized "java/lang/Math" ∈ xWall) (hc : Cond.code Lib.Math.min.name Lib.Math.min.code 2 (some .int) ∈ xWall) (hrest : (st.map fun v => v.category).sum ≤ 8) (hfr : 1 ≤ R.frames) (hlo : 21 ≤ R.locals) (hce : k ≤ R.cells) (hsl : n ≤ R.slots) (hv : (if y < x then y else x) = v)
    (K : xW G mt R Z (pc + 3) lv (.int v :: st) M k n) : xW G mt R Z pc lv (.int y :: .int x :: st) M k n := by
  subst hv
  intro p e s m args below meth c H locs ls F hR hL hl
  have hts := F.2.2.2.2.2.1
  refine va_mmin F.1 F.2.1 (by rw [hl.1]; exact F.2.2.1) F.2.2.2.2.1 (hts _ hw) (hts _ hs) (hts _ hin) (hts _ hc) hfr ?_ hce hsl hd (K p e s m args below meth c H locs ls F hR hL hl)
  have e := xroom G (pc := pc) (m := m) (ls := ls) hrest []
  have e2 : ((xcs G st).map fun v => v.category).sum ≤ 8 := by
    have : 2 * 0 + ((xcs G st).map fun v => v.category).sum ≤ 8 := e
    omega
  exact Nat.le_trans (Nat.add_le_add_right e2 13) hlo
/-- Math.abs -/
theorem xi_abs {idx : Nat} {x v : Int32} (hd : decode mt.2.1 pc = .ok (.invokestatic idx, 3)) (hw : Cond.methodLink mt.1.cls idx Lib.Math.abs.name ∈ xWall) (hs : Cond.static Lib.Math.abs.name ∈ xWall) (hin : Cond.initialized "java/lang/Math" ∈ xWall) (hc : Cond.code Lib.Math.abs.name Lib.Math.abs.code 1 (some .int) ∈ xWall) (hrest : (st.map fun v => v.category).sum ≤ 8) (hfr : 1 ≤ R.frames) (hlo : 21 ≤ R.locals) (hce : k ≤ R.cells) (hsl : n ≤ R.slots) (hv : (if 0 ≤ x then x else 0 - x) = v)
    (K : xW G mt R Z (pc + 3) lv (.int v :: st) M k n) : xW G mt R Z pc lv (.int x :: st) M k n := by
  subst hv
  intro p e s m args below meth c H locs ls F hR hL hl
  have hts := F.2.2.2.2.2.1
  refine va_mabs F.1 F.2.1 (by rw [hl.1]; exact F.2.2.1) F.2.2.2.2.1 (hts _ hw) (hts _ hs) (hts _ hin) (hts _ hc) hfr ?_ hce hsl hd (K p e s m args below meth c H locs ls F hR hL hl)
  have e := xroom G (pc := pc) (m := m) (ls := ls) hrest []
  have e2 : ((xcs G st).map fun v => v.category).sum ≤ 8 := by
    have : 2 * 0 + ((xcs G st).map fun v => v.category).sum ≤ 8 := e
    omega
  exact Nat.le_trans (Nat.add_le_add_right e2 13) hlo
end XN2
/-- a switch that goes to its default: outside, or at a place whose offset is the default's -/
theorem xi_tableAny {G : xG} {mt : xM} {R : Room} {Z : xZ} {pc : Nat} {lv : List (Nat × Value)} {st : List Value} {M : xMem} {k n : Nat} {df lo hi : Int} {offs : Array Int} {len : Nat} {x : Int32} {tgt : Nat} (hd : decode mt.2.1 pc = .ok (.tableswitch df lo hi offs, len)) (ht : (pc : Int) + df = (tgt : Int)) (hin : ¬ x.toInt < lo → ¬ hi < x.toInt → offs[(x.toInt - lo).toNat]? = some df)
    (K : xW G mt R Z tgt lv st M k n) : xW G mt R Z pc lv (.int x :: st) M k n := by
  by_cases h1 : x.toInt < lo
  · exact xi_tableOut hd (Or.inl h1) ht K
  · by_cases h2 : hi < x.toInt
    · exact xi_tableOut hd (Or.inr h2) ht K
    · exact xi_tableIn hd h1 h2 (hin h1 h2) ht K
