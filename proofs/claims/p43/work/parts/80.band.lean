/-! the class: who may come next, the least limit -/
/-- those who may stand at place i behind P -/
def bld (n : Nat) (w : Nat → Nat → Nat) (L i : Nat) (P : Nat → Nat) : Nat := mkm n (fun p => !(amk P i).testBit p && decide (0 < bct n w L (n - (i + 1)) (i + 1) (upP P i p)))
theorem r_leaders {n l : Nat} {w : Nat → Nat → Nat} (hw : WF n w) (hn : n < 10) {i L : Nat} {P : Nat → Nat} {t : St} (hi : i < n) (hP : PFX n i P) (hmis : ∀ k, k < i → k + L < i → mis w P i k = 0) (hL : L < 10) (h : CN 91 n l w t) (hM : MI n w t) (hpl : ∀ j, j < i → t 95 j = nI (P j)) : Pc (FX0_leadersFrom (nI i) (nI (amk P i)) (nI L) t) (fun r u => r = nI (bld n w L i P) ∧ MI n w u ∧ (∀ c, c ≠ 95 → c ≠ 96 → c ≠ 97 → u c = t c) ∧ ∀ j, j < i → u 95 j = t 95 j) := by
  have h3 := pow9 (k := n) (by omega)
  have a1 := hP.2.1
  unfold FX0_leadersFrom bld
  generalize hB : (fun p => !(amk P i).testBit p && decide (0 < bct n w L (n - (i + 1)) (i + 1) (upP P i p))) = B
  refine Pc.bd (fun r u => r = nI (mkm n B) ∧ MI n w u ∧ (∀ c, c ≠ 95 → c ≠ 96 → c ≠ 97 → u c = t c) ∧ ∀ j, j < i → u 95 j = t 95 j) ?_ (fun r u hu => Pc.ret hu)
  refine Pc.loop (fun d s => ∃ j, j ≤ n ∧ d = (nI (mkm j B), nI j) ∧ MI n w s ∧ (∀ c, c ≠ 95 → c ≠ 96 → c ≠ 97 → s c = t c) ∧ ∀ q, q < i → s 95 q = t 95 q) ?_ ⟨0, Nat.zero_le _, rfl, hM, fun _ _ _ _ => rfl, fun _ _ => rfl⟩
  rintro d s ⟨j, hj, rfl, sM, sf, sp⟩
  have hs : CN 91 n l w s := h.fr (sf _ (by decide) (by decide) (by decide)) (sf _ (by decide) (by decide) (by decide)) (sf _ (by decide) (by decide) (by decide))
  unfold SX0_leadersFrom_6
  dsimp only
  refine Pc.rdE hs.1 (Pc.cv (nI_leP (by omega) (by omega)) (Pc.ite (fun c1 => Pc.ret ?_) (fun c1 => ?_)))
  · have : j = n := by omega
    subst this
    exact ⟨rfl, sM, sf, sp⟩
  · have hBj : B j = (!(amk P i).testBit j && decide (0 < bct n w L (n - (i + 1)) (i + 1) (upP P i j))) := by rw [← hB]
    refine Pc.bd (fun r u => r = nI (mkm (j + 1) B) ∧ MI n w u ∧ (∀ c, c ≠ 95 → c ≠ 96 → c ≠ 97 → u c = t c) ∧ ∀ q, q < i → u 95 q = t 95 q) ?_ (fun r u hu => Pc.ret ⟨j + 1, by omega, by rw [hu.1, nI_1], hu.2⟩)
    have em : mkm (j + 1) B = mkm j B ||| (if B j = true then 2 ^ j else 0) := rfl
    rw [em]
    refine Pc.cv (bitn (by omega) (by omega)) (Pc.ite (fun c2 => Pc.ck (fun _ => PcwrE ?_)) (fun c2 => Pc.ret ⟨?_, sM, sf, sp⟩))
    · rw [nI_cl (by omega), nI_1, shl_1 (by omega), nI_or, ← amk_up]
      have hP2 := hP.on (p := j) (by omega) c2
      have hpre2 : PRE w (upP P i j) (i + 1) L := fun k hk => by
        rw [mis_up (by omega), hmis k (by omega) (by omega)]
        unfold dif
        exact Nat.zero_and _
      have hs2 : CN 91 n l w (wr s 95 i (nI j)) := hs.fr (wr_off _ (by decide)) (wr_off _ (by decide)) (wr_off _ (by decide))
      refine Pc.bd _ (r_rowsFrom hw hn 11 (i + 1) L (upP P i j) (wr s 95 i (nI j)) (by omega) hP2 hpre2 hL hs2 (sM.fr (wr_off _ (by decide)) (wr_off _ (by decide))) (fun q hq => ?_) (by omega)) ?_
      · by_cases e : q = i
        · subst e; rw [wrs, upP_i]
        · rw [wrn e, upP_n e, sp q (by omega)]; exact hpl q (by omega)
      · rintro r u ⟨rfl, uM, uf, up⟩
        have hb := bct_b (w := w) (L := L) hn (k := n - (i + 1)) (i := i + 1) (P := upP P i j) (by omega)
        have fr : (∀ c, c ≠ 95 → c ≠ 96 → c ≠ 97 → u c = t c) ∧ ∀ q, q < i → u 95 q = t 95 q := ⟨fun c c3 c4 c5 => by rw [uf c c3 c4 c5, wr_off c c3]; exact sf c c3 c4 c5, fun q hq => by rw [up q (by omega), wrn (by omega)]; exact sp q hq⟩
        refine Pc.cv (nI_leP (b := 0) (by omega) (by omega)) (Pc.ite (fun c3 => Pc.ret ⟨?_, uM, fr⟩) (fun c3 => Pc.ret ⟨?_, uM, fr⟩))
        · rw [hBj, if_neg (by simp; omega), Nat.or_zero]
        · rw [hBj, if_pos (by simp [c2]; omega), nI_or]
    · rw [hBj, if_neg (by simp [bT c2]), Nat.or_zero]
theorem pfx_0 {n : Nat} {P : Nat → Nat} : PFX n 0 P := ⟨fun j hj => by omega, Nat.two_pow_pos n, cnt_0 n⟩
theorem pre_0 {w : Nat → Nat → Nat} {P : Nat → Nat} {L : Nat} : PRE w P 0 L := fun k hk => by omega
/-- v is the least limit below e that some row keeps, or e -/
def LLM (n : Nat) (w : Nat → Nat → Nat) (e v : Nat) : Prop := v ≤ e ∧ (∀ L, L < v → bct n w L n 0 (fun _ => 0) = 0) ∧ (v < e → 0 < bct n w v n 0 (fun _ => 0))
theorem r_leastLimit {n l : Nat} {w : Nat → Nat → Nat} (hw : WF n w) (hn : n < 10) (h1 : 1 ≤ n) {t : St} (h : CN 91 n l w t) (hM : MI n w t) : Pc (FX0_leastLimit t) (fun r u => (∃ v, r = nI v ∧ LLM n w (n - 1) v) ∧ MI n w u ∧ ∀ c, c ≠ 95 → c ≠ 96 → c ≠ 97 → u c = t c) := by
  unfold FX0_leastLimit
  refine Pc.bd (fun x u => MI n w u ∧ (∀ c, c ≠ 95 → c ≠ 96 → c ≠ 97 → u c = t c) ∧ Sum.elim (fun r => ∃ v, r = nI v ∧ LLM n w (n - 1) v) (fun _ => ∀ L, L < n - 1 → bct n w L n 0 (fun _ => 0) = 0) x) ?_ ?_
  · refine Pc.loop (fun d s => ∃ j, j ≤ n - 1 ∧ d = nI j ∧ MI n w s ∧ (∀ c, c ≠ 95 → c ≠ 96 → c ≠ 97 → s c = t c) ∧ ∀ L, L < j → bct n w L n 0 (fun _ => 0) = 0) ?_ ⟨0, Nat.zero_le _, rfl, hM, fun _ _ _ _ => rfl, fun L hL => by omega⟩
    rintro d s ⟨j, hj, rfl, sM, sf, sI⟩
    have hs : CN 91 n l w s := h.fr (sf _ (by decide) (by decide) (by decide)) (sf _ (by decide) (by decide) (by decide)) (sf _ (by decide) (by decide) (by decide))
    unfold SX0_leastLimit_2
    refine Pc.rdE hs.1 ?_
    rw [nI_s1 h1]
    refine Pc.cv (nI_leP (by omega) (by omega)) (Pc.ite (fun c1 => Pc.ret ⟨sM, sf, fun L hL => sI L (by omega)⟩) (fun c1 => ?_))
    refine Pc.bd _ (r_rowsFrom hw hn 11 0 j (fun _ => 0) s (Nat.zero_le _) pfx_0 pre_0 (by omega) hs sM (fun q hq => by omega) (by omega)) ?_
    rintro r u ⟨rfl, uM, uf, -⟩
    have hb := bct_b (w := w) (L := j) hn (k := n - 0) (i := 0) (P := fun _ => 0) (by omega)
    have fr : ∀ c, c ≠ 95 → c ≠ 96 → c ≠ 97 → u c = t c := fun c c3 c4 c5 => (uf c c3 c4 c5).trans (sf c c3 c4 c5)
    refine Pc.cv (nI_leP (b := 0) (by omega) (by omega)) (Pc.ite (fun c2 => Pc.ret ⟨j + 1, by omega, nI_1 j, uM, fr, fun L hL => ?_⟩) (fun c2 => Pc.ret ⟨uM, fr, j, rfl, by omega, sI, fun _ => ?_⟩))
    · by_cases e : L = j
      · subst e
        rw [Nat.sub_zero] at c2
        omega
      · exact sI L (by omega)
    · rw [Nat.sub_zero] at c2
      omega
  · rintro (x | x) u ⟨uM, uf, hx⟩
    · exact Pc.el (Pc.ret ⟨hx, uM, uf⟩)
    · refine Pc.er (Pc.rdE (x := nI n) (by rw [uf 91 (by decide) (by decide) (by decide)]; exact h.1) ?_)
      rw [nI_s1 h1]
      exact Pc.ret ⟨⟨n - 1, rfl, Nat.le_refl _, hx, fun q => by omega⟩, uM, uf⟩
