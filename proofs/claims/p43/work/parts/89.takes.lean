/-! takes, greedy: of both -/
theorem PccpE {α : Type} {σ : St} {a b n : Nat} {f : St → Option (α × St)} {Q : α → St → Prop} (k : Pc (f (cpy σ a b n)) Q) : Pc (cpb σ a b n f) Q := k
theorem cpy_n {σ : St} {a b n c : Nat} (h : c ≠ b) : cpy σ a b n c = σ c := by unfold cpy; rw [if_neg h]
theorem Pc.an {α : Type} {m : Option (α × St)} {Q R : α → St → Prop} (h : Pc m Q) (g : Pc m R) : Pc m (fun v u => Q v u ∧ R v u) := fun v u e => ⟨h v u e, g v u e⟩
def trm (n : Nat) (o : Nat → Nat) : Nat → Nat := fun i => if i < n then o i else 0
theorem trm_in {n i : Nat} {o : Nat → Nat} (h : i < n) : trm n o i = o i := if_pos h
theorem trm_go {n : Nat} {o : Nat → Nat} (h : PFX n n o) : GO n (trm n o) := ⟨pfx_perm h (fun k hk => by rw [trm_in hk]; exact h.1 k hk) (fun k hk => ⟨k, hk, trm_in hk⟩), fun i hi => if_neg (by omega)⟩
section
variable {K K' : Nat → Nat → V4} {m m' s : Nat} {t : St}
/-- the places that an act of the class with its searches may change -/
def AG (s : Nat) (t u : St) : Prop := ∀ c, (c < 12 + 24 * s ∨ 36 + 24 * s ≤ c) → (c < 84 ∨ 144 < c) → u c = t c
theorem c_takes {q : Nat} (hG : GK K m) (hs : s < 3) (hC : CST K m t) (hq : q < 7) (h1 : 1 ≤ (K m s).1) (hF : FI (16 + 24 * s) t) (hB : BI t) : Pc (FX11_takes (nI s) (nI q) t) (fun r u => r = nI (dfo (K m s).1 (K m s).2.2.2 (trm (K m s).1 (frw (K m s).1 (K m s).2.2.1 q))) ∧ CNX K m s (vwo (K m s) (trm (K m s).1 (frw (K m s).1 (K m s).2.2.1 q))) u ∧ FI (16 + 24 * s) u ∧ BI u ∧ AG s t u) := by
  have hv := hG.2 m (Nat.le_refl _) s hs
  have hn : (K m s).1 < 10 := hv.1.1
  have g := n_sl hs
  have hgo : GO (K m s).1 (trm (K m s).1 (frw (K m s).1 (K m s).2.2.1 q)) := trm_go (frw_pfx hv.1.2.1 hn h1)
  have hw : GV (vwo (K m s) (trm (K m s).1 (frw (K m s).1 (K m s).2.2.1 q))) := hv.vwo hgo
  unfold FX11_takes
  refine Pc.bd _ (r_findingOf hs hq (hC.1 s hs).1 hv.1 h1 hF hB) ?_
  rintro _ t1 ⟨rfl, z1, F1, B1, f1⟩
  show Pc (chk _ _) _
  refine Pc.ck (fun _ => Pc.ck (fun _ => Pc.ck (fun _ => ?_)))
  rw [el10 hs]
  have hC1 : CST K m t1 := hC.fr hG.1 (fun r hr c c1 c2 => f1 c (by omega) (by omega)) (fun c c1 c2 => f1 c (by omega) (by omega))
  refine Pc.bd _ (e_kept hG hs hC1).pc ?_
  rintro _ t2 ⟨k1, x1, f2⟩
  refine PccpE ?_
  have o3 : CO (12 + 24 * s) (K m s).1 (trm (K m s).1 (frw (K m s).1 (K m s).2.2.1 q)) (cpy t2 (22 + 24 * s + 2 * q + 1) (12 + 24 * s + 2) 9) := fun i hi => by
    rw [cpyi (by omega), trm_in hi, f2 _ (by omega)]
    exact z1.2.2.2 i hi
  have f3 : ∀ c, c ≠ 12 + 24 * s + 2 → cpy t2 (22 + 24 * s + 2 * q + 1) (12 + 24 * s + 2) 9 c = t2 c := fun c hc => cpy_n hc
  generalize cpy t2 (22 + 24 * s + 2 * q + 1) (12 + 24 * s + 2) 9 = t3 at o3 f3 ⊢
  have k3 : CS 141 (K m s) t3 := k1.fr4 (fun c c1 c2 => f3 c (by omega))
  refine Pc.bd _ (c_note (v := vwo (K m s) (trm (K m s).1 (frw (K m s).1 (K m s).2.2.1 q))) hG hs hw hC1 (fun c c1 c2 => by rw [f3 c (by omega)]; exact f2 c c2) k3 (x1.vwo f3 o3)).pc ?_
  rintro _ u ⟨u1, u2, u3⟩
  have x0 : u (12 + 24 * s) 0 = nI (K m s).1 := by
    rw [u2 _ (by omega), f3 _ (by omega)]
    exact x1.1.1
  have xo : CO (12 + 24 * s) (K m s).1 (trm (K m s).1 (frw (K m s).1 (K m s).2.2.1 q)) u := fun i hi => by
    rw [u2 _ (by omega)]
    exact o3 i hi
  have ko : CO 141 (K m s).1 (K m s).2.2.2 u := fun i hi => by
    rw [u2 _ (by omega)]
    exact k3.2 i hi
  refine Pc.bq (q_placesUnlike g n_141 hn x0 xo ko (fun i _ => hgo.lt hn i) (fun i _ => hv.o9 i)) (Pc.ret ⟨by rw [dfo_sy], u1, F1.fr (fun c c1 c2 => u3 c (by omega) (by omega)), B1.fr (fun c c1 c2 => u3 c (by omega) (by omega)), fun c c1 c2 => ?_⟩)
  rw [u3 c (by omega) (by omega)]
  exact f1 c (by omega) (by omega)
theorem m_takes {q : Nat} (hG : GK K m) (hs : s < 3) (hM : MST K m t) (hq : q < 7) (h1 : 1 ≤ (K m s).1) (hN : NXT K m s (vwo (K m s) (trm (K m s).1 (frw (K m s).1 (K m s).2.2.1 q))) K' m') : Pc (FX12_takes (nI s) (nI q) t) (fun r u => r = nI (dfo (K m s).1 (K m s).2.2.2 (trm (K m s).1 (frw (K m s).1 (K m s).2.2.1 q))) ∧ MST K' m' u) := by
  have hv := hG.2 m (Nat.le_refl _) s hs
  have hn : (K m s).1 < 10 := hv.1.1
  have hr := hM.2.1.rn hs
  have hgo : GO (K m s).1 (trm (K m s).1 (frw (K m s).1 (K m s).2.2.1 q)) := trm_go (frw_pfx hv.1.2.1 hn h1)
  unfold FX12_takes
  refine Pc.bq (g_isNet hs hn hr) ?_
  rw [if_neg (c := (K m s).1 = 0) (by omega)]
  refine Pc.ifF (by decide) (Pc.bq (g_msM hq) (Pc.ifF (by decide) (Pc.bd _ ((a_laysBest hr hs hv.1.2.1 hn h1 hq).an (Fo.pc (fo_FX12_laysBest (P := fun c i => c = 150 ∨ c = 152 ∨ (c = 149 ∧ i = 3)) (nI s) (nI q) (fun c i h => by omega)))) ?_)))
  rintro _ t1 ⟨b1, f1⟩
  have M1 : MST K m t1 := hM.fr (f1 149 3 (Or.inr (Or.inr ⟨rfl, rfl⟩))) (funext (fun i => f1 150 i (Or.inl rfl))) (funext (fun i => f1 152 i (Or.inr (Or.inl rfl))))
  have hr1 := M1.2.1.rn hs
  refine Pc.bd (fun _ u => (∀ c, c ≠ 154 → u c = t1 c) ∧ MO (K m s).1 (trm (K m s).1 (frw (K m s).1 (K m s).2.2.1 q)) u) (Ok.pc ?_) ?_
  · refine Ok.count (K m s).1 (fun j c s' => c = nI j ∧ (∀ c, c ≠ 154 → s' c = t1 c) ∧ ∀ i, i < j → s' 154 i = nI (trm (K m s).1 (frw (K m s).1 (K m s).2.2.1 q) i)) ?_ ?_ (Nat.zero_le _) ⟨rfl, fun _ _ => rfl, fun i hi => by omega⟩
    · rintro j c s' hj ⟨rfl, sf, s1⟩
      unfold SX12_takes_26
      refine Ok.bq (q_points (hr1.fr (sf 150 (by decide))) hs) (Ok.ifF (by rw [nI_leP (by omega) (by omega)]; omega) (Ok.ckT (inb_n (by omega) (by omega)) ?_))
      rw [nI_cl (by omega)]
      refine Ok.rdE (x := nI (frw (K m s).1 (K m s).2.2.1 q j)) (by rw [sf 159 (by decide)]; exact b1 j hj) (Ok.ckT (inb_n (by omega) (by omega)) (OkwrE (Ok.ret ⟨nI_1 j, fun c hc => by rw [wr_off c hc]; exact sf c hc, fun i hi => ?_⟩)))
      by_cases e : i = j
      · subst e; rw [wrs, trm_in hj]
      · rw [wrn e]; exact s1 i (by omega)
    · rintro c s' ⟨rfl, sf, s1⟩
      unfold SX12_takes_26
      exact Ok.bq (q_points (hr1.fr (sf 150 (by decide))) hs) (Ok.ifT (by rw [nI_leP (by omega) (by omega)]; omega) (Ok.ret ⟨sf, s1⟩))
  · rintro _ t2 ⟨f2, o2⟩
    have M2 : MST K m t2 := M1.fr (by rw [f2 149 (by decide)]) (f2 150 (by decide)) (f2 152 (by decide))
    refine Pc.bd _ (m_takesRow hG hs M2 (hv.vwo hgo) hN o2).pc ?_
    rintro _ u ⟨rfl, u1, -⟩
    exact Pc.ret ⟨rfl, u1⟩
end
/-! greedy: pure -/
def gch (c : Nat → Nat) (S : Nat) : Nat → Option Nat
  | 0 => none
  | p + 1 => if S.testBit p = true then gch c S p else Option.elim (gch c S p) (some p) (fun b => if c p < c b then some p else some b)
theorem gch_in {c : Nat → Nat} {S b : Nat} : ∀ {n : Nat}, gch c S n = some b → b < n ∧ S.testBit b = false
  | 0, h => by cases h
  | p + 1, h => by
    have ih : ∀ {b}, gch c S p = some b → b < p ∧ S.testBit b = false := fun h => gch_in h
    rw [gch] at h
    by_cases e : S.testBit p = true
    · rw [if_pos e] at h
      have := ih h
      exact ⟨by omega, this.2⟩
    · rw [if_neg e] at h
      cases g : gch c S p with
      | none =>
        rw [g] at h
        have h : some p = some b := h
        obtain rfl := Option.some.inj h
        exact ⟨by omega, bF e⟩
      | some d =>
        rw [g] at h
        have h : (if c p < c d then some p else some d) = some b := h
        have := ih g
        by_cases q : c p < c d
        · rw [if_pos q] at h
          obtain rfl := Option.some.inj h
          exact ⟨by omega, bF e⟩
        · rw [if_neg q] at h
          obtain rfl := Option.some.inj h
          exact ⟨by omega, this.2⟩
theorem gch_ex {c : Nat → Nat} {S : Nat} : ∀ {n : Nat}, (∃ p, p < n ∧ S.testBit p = false) → ∃ b, gch c S n = some b
  | 0, ⟨p, h, _⟩ => by omega
  | n + 1, ⟨p, h, hb⟩ => by
    rw [gch]
    by_cases e : S.testBit n = true
    · rw [if_pos e]
      have : p ≠ n := fun q => by rw [q, e] at hb; cases hb
      exact gch_ex ⟨p, by omega, hb⟩
    · rw [if_neg e]
      cases g : gch c S n with
      | none => exact ⟨n, rfl⟩
      | some d =>
        show ∃ b, (if c n < c d then some n else some d) = some b
        by_cases q : c n < c d
        · exact ⟨n, if_pos q⟩
        · exact ⟨d, if_neg q⟩
noncomputable def gsl (n : Nat) (w : Nat → Nat → Nat) (q S : Nat) : Nat := (gch (cst n w q S) S n).getD 0
noncomputable def gmk (n : Nat) (w : Nat → Nat → Nat) (q : Nat) : Nat → Nat
  | 0 => 0
  | i + 1 => gmk n w q i ||| 2 ^ gsl n w q (gmk n w q i)
noncomputable def gro (n : Nat) (w : Nat → Nat → Nat) (q i : Nat) : Nat := gsl n w q (gmk n w q i)
theorem amk_gro {n q : Nat} {w : Nat → Nat → Nat} : ∀ i, amk (gro n w q) i = gmk n w q i
  | 0 => rfl
  | i + 1 => by
    show amk (gro n w q) i ||| 2 ^ gro n w q i = _
    rw [amk_gro i]
    rfl
theorem pfx_s {n i : Nat} {P : Nat → Nat} (h : PFX n i P) (h1 : P i < n) (h2 : (amk P i).testBit (P i) = false) : PFX n (i + 1) P := by
  obtain ⟨-, a2, a3⟩ := set_up h.2.1 h1 h2
  refine ⟨fun j hj => ?_, a2, by show cnt (amk P i ||| 2 ^ P i) n = i + 1; rw [a3, h.2.2]⟩
  by_cases e : j = i
  · rw [e]; exact h1
  · exact h.1 j (by omega)
theorem gro_s {n q i : Nat} {w : Nat → Nat → Nat} (h : PFX n i (gro n w q)) (hi : i < n) : gch (cst n w q (amk (gro n w q) i)) (amk (gro n w q) i) n = some (gro n w q i) ∧ gro n w q i < n ∧ (amk (gro n w q) i).testBit (gro n w q i) = false := by
  obtain ⟨b, hb⟩ := gch_ex (c := cst n w q (amk (gro n w q) i)) (no_bit (S := amk (gro n w q) i) (n := n) (by rw [h.2.2]; exact hi))
  have e : gro n w q i = b := by
    show (gch (cst n w q (gmk n w q i)) (gmk n w q i) n).getD 0 = b
    rw [← amk_gro, hb]
    rfl
  have := gch_in hb
  rw [e]
  exact ⟨hb, this⟩
theorem gro_pfx {n q : Nat} {w : Nat → Nat → Nat} : ∀ {i : Nat}, i ≤ n → PFX n i (gro n w q)
  | 0, _ => pfx_0
  | i + 1, hi => by
    have h := gro_pfx (n := n) (q := q) (w := w) (i := i) (by omega)
    obtain ⟨-, a, b⟩ := gro_s h (by omega)
    exact pfx_s h a b
theorem n1n {a : Nat} (h : a < 2147483648) : ¬ nI a = -1 := by rw [li_m1, nI_eqP (by omega) (by omega)]; omega
def oI (o : Option Nat) : Int32 := Option.elim o (-1) nI
def oV (c : Nat → Nat) (o : Option Nat) : Int32 := Option.elim o (nI 1048576) (fun b => nI (c b))
theorem e_greedyIn {x n l q S : Nat} {w : Nat → Nat → Nat} {t : St} {w3 : Int32} (h : CN x n l w t) (g : netAt x = true) (hw : WF n w) (hn : n < 10) (hq : q < 7) (hS : S < 512) : wh (SX8_makeGreedy_22 x (nI q) (nI S) w3) ((-1 : Int32), (1048576 : Int32), (0 : Int32)) t = some (oI (gch (cst n w q S) S n), t) := by
  refine wq0 n (fun j => (oI (gch (cst n w q S) S j), oV (cst n w q S) (gch (cst n w q S) S j), nI j)) rfl (fun j hj => ?_) ?_
  · unfold SX8_makeGreedy_22
    dsimp only
    refine Ok.rdE h.1 (Ok.ifF (by rw [nI_leP (by omega) (by omega)]; omega) ?_)
    refine Ok.bq (a := (oI (gch (cst n w q S) S (j + 1)), oV (cst n w q S) (gch (cst n w q S) S (j + 1)))) (t := t) (Ok.eq ?_) (Ok.ret ⟨rfl, by rw [nI_1]⟩)
    rw [gch]
    refine Ok.cv (bitn (by omega) (by omega)) (Ok.ite (fun c => ?_) (fun c => Ok.ret ⟨rfl, ?_⟩))
    · rw [if_neg (by rw [c]; decide)]
      refine Ok.bq (q_ast hq (by omega)) (Ok.bq (q_of h g hw hn hq (ast_lt hS (by omega)) (fun _ => ⟨rfl, by omega⟩)) ?_)
      have hc : prc n w q (ast q S j) j ≤ 729 := prc_le hw hn
      show Ok (if oV (cst n w q S) (gch (cst n w q S) S j) ≤ nI (cst n w q S j) then _ else _) _
      have hc : cst n w q S j ≤ 729 := hc
      cases e : gch (cst n w q S) S j with
      | none =>
        refine Ok.ifF ?_ (Ok.ret ⟨rfl, rfl⟩)
        show ¬ nI 1048576 ≤ _
        rw [nI_leP (by omega) (by omega)]
        omega
      | some b =>
        have hb : cst n w q S b ≤ 729 := cst_le hw hn
        show Ok (if nI (cst n w q S b) ≤ nI (cst n w q S j) then _ else _) (fun r u => t = u ∧ r = (oI (if cst n w q S j < cst n w q S b then some j else some b), oV (cst n w q S) (if cst n w q S j < cst n w q S b then some j else some b)))
        refine Ok.cv (nI_leP (by omega) (by omega)) (Ok.ite (fun c => Ok.ret ⟨rfl, ?_⟩) (fun c => Ok.ret ⟨rfl, ?_⟩))
        · rw [if_neg (by omega)]
        · rw [if_pos (by omega)]; rfl
    · rw [if_pos (bT c)]
  · unfold SX8_makeGreedy_22
    dsimp only
    exact Ok.rdE h.1 (Ok.ifT (by rw [nI_leP (by omega) (by omega)]; omega) (Ok.ret ⟨rfl, rfl⟩))
theorem m_greedyIn {s n q S : Nat} {w : Nat → Nat → Nat} {t : St} {w4 : Int32} (h : RN s n w t) (hs : s < 3) (hw : WF n w) (hn : n < 10) (hq : q < 7) (hS : S < 512) : wh (SX12_greedy_44 (nI s) (nI q) (nI S) w4) ((-1 : Int32), (0 : Int32)) t = some (oI (gch (cst n w q S) S n), t) := by
  refine wq0 n (fun j => (oI (gch (cst n w q S) S j), nI j)) rfl (fun j hj => ?_) ?_
  · unfold SX12_greedy_44
    dsimp only
    refine Ok.bq (q_points h hs) (Ok.ifF (by rw [nI_leP (by omega) (by omega)]; omega) (Ok.bq (q_has (by omega) (by omega)) ?_))
    refine Ok.bq (a := oI (gch (cst n w q S) S (j + 1))) (t := t) (Ok.eq ?_) (Ok.ret ⟨rfl, by rw [nI_1]⟩)
    rw [gch]
    refine Ok.cv b01 (Ok.ite (fun c => ?_) (fun c => Ok.ret ⟨rfl, ?_⟩))
    · rw [if_neg (c := S.testBit j = true) (by rw [c]; decide)]
      have hc : cst n w q S j ≤ 729 := cst_le hw hn
      cases e : gch (cst n w q S) S j with
      | none => exact Ok.ifT rfl (Ok.ret ⟨rfl, rfl⟩)
      | some b =>
        have hb : cst n w q S b ≤ 729 := cst_le hw hn
        have hbn := (gch_in e).1
        show Ok (if nI b = -1 then _ else _) (fun r u => t = u ∧ r = oI (if cst n w q S j < cst n w q S b then some j else some b))
        refine Ok.ifF (n1n (by omega)) (Ok.bq (q_cost h hs hw hn hq hS (by omega)) (Ok.bq (q_cost h hs hw hn hq hS (by omega)) ?_))
        refine Ok.cv (nI_leP (by omega) (by omega)) (Ok.ite (fun c => Ok.ret ⟨rfl, ?_⟩) (fun c => Ok.ret ⟨rfl, ?_⟩))
        · rw [if_neg (by omega)]
        · rw [if_pos (by omega)]; rfl
    · rw [if_pos (bT c)]
  · unfold SX12_greedy_44
    dsimp only
    exact Ok.bq (q_points h hs) (Ok.ifT (by rw [nI_leP (by omega) (by omega)]; omega) (Ok.ret ⟨rfl, rfl⟩))
theorem e_makeGreedy {x n l q : Nat} {w : Nat → Nat → Nat} {t : St} (h : CN x n l w t) (g : netAt x = true) (hw : WF n w) (hn : n < 10) (hq : q < 7) : Ok (FX8_makeGreedy x (nI q) t) (fun _ u => (∀ c, c ≠ x + 2 → u c = t c) ∧ CO x n (trm n (gro n w q)) u) := by
  unfold FX8_makeGreedy
  refine Ok.ckT g (Ok.bd (fun _ u => (∀ c, c ≠ x + 2 → u c = t c) ∧ CO x n (trm n (gro n w q)) u) ?_ (fun _ u hu => Ok.ret hu))
  refine Ok.count n (fun j c s' => c = (nI (amk (gro n w q) j), nI j) ∧ (∀ c, c ≠ x + 2 → s' c = t c) ∧ ∀ i, i < j → s' (x + 2) i = nI (gro n w q i)) ?_ ?_ (Nat.zero_le _) ⟨rfl, fun _ _ => rfl, fun i hi => by omega⟩
  · rintro j c s' hj ⟨rfl, sf, s1⟩
    unfold SX8_makeGreedy_4
    dsimp only
    have hx : CN x n l w s' := h.fr (sf x (by omega)) (sf _ (by omega)) (sf _ (by omega))
    have hp := gro_pfx (n := n) (q := q) (w := w) (i := j) (by omega)
    obtain ⟨a1, a2, a3⟩ := gro_s hp hj
    have hS : amk (gro n w q) j < 512 := Nat.lt_of_lt_of_le hp.2.1 (pow9 (by omega))
    refine Ok.rdE hx.1 (Ok.ifF (by rw [nI_leP (by omega) (by omega)]; omega) (Ok.bq (e_greedyIn hx g hw hn hq hS) ?_))
    rw [a1]
    refine Ok.ckT (inb_n (by omega) (by omega)) (OkwrE (Ok.ret ⟨?_, fun c hc => by rw [wr_off c hc]; exact sf c hc, fun i hi => ?_⟩))
    · show (nI (amk (gro n w q) j) ||| shl 1 (nI (gro n w q j)), nI j + 1) = _
      rw [shl_1 (by omega), nI_or, nI_1]
      rfl
    · rw [nI_cl (by omega)]
      by_cases e : i = j
      · subst e; rw [wrs]; rfl
      · rw [wrn e]; exact s1 i (by omega)
  · rintro c s' ⟨rfl, sf, s1⟩
    unfold SX8_makeGreedy_4
    dsimp only
    exact Ok.rdE (x := nI n) (by rw [sf x (by omega)]; exact h.1) (Ok.ifT (by rw [nI_leP (by omega) (by omega)]; omega) (Ok.ret ⟨sf, fun i hi => by rw [trm_in hi]; exact s1 i hi⟩))
section
variable {K K' : Nat → Nat → V4} {m m' s : Nat} {t : St}
theorem c_greedy {q : Nat} (hG : GK K m) (hs : s < 3) (hC : CST K m t) (hq : q < 7) (h2 : q ≠ 2) (h1 : 1 ≤ (K m s).1) : Ok (FX11_greedy (nI s) (nI q) t) (fun r u => r = nI (val (K m s).1 (K m s).2.2.1 q (trm (K m s).1 (gro (K m s).1 (K m s).2.2.1 q))) ∧ CNX K m s (vwo (K m s) (trm (K m s).1 (gro (K m s).1 (K m s).2.2.1 q))) u ∧ AF s t u) := by
  have hv := hG.2 m (Nat.le_refl _) s hs
  have hn : (K m s).1 < 10 := hv.1.1
  have hx := hC.1 s hs
  have g := n_sl hs
  have hgo : GO (K m s).1 (trm (K m s).1 (gro (K m s).1 (K m s).2.2.1 q)) := trm_go (gro_pfx (Nat.le_refl _))
  unfold FX11_greedy
  refine Ok.bq (g_netIn hs hn hx.1.1) ?_
  rw [if_neg (c := (K m s).1 = 0) (by omega)]
  refine Ok.ckT g (Ok.bq (g_pr hq) ?_)
  rw [if_neg h2]
  refine Ok.ifF (by decide) (Ok.bd _ (e_kept hG hs hC) ?_)
  rintro _ t1 ⟨k1, x1, f1⟩
  refine Ok.bd _ (e_makeGreedy x1.1 g hv.1.2.1 hn hq) ?_
  rintro _ t2 ⟨f2, o2⟩
  refine Ok.bd _ (c_note (v := vwo (K m s) (trm (K m s).1 (gro (K m s).1 (K m s).2.2.1 q))) hG hs (hv.vwo hgo) hC (fun c c1 c2 => by rw [f2 c (by omega)]; exact f1 c c2) (k1.fr4 (fun c c1 c2 => f2 c (by omega))) (x1.vwo f2 o2)) ?_
  rintro _ u ⟨u1, u2, u3⟩
  have xu : CS (12 + 24 * s) (vwo (K m s) (trm (K m s).1 (gro (K m s).1 (K m s).2.2.1 q))) u := (x1.vwo f2 o2).fr4 (fun c c1 c2 => u2 c (by omega))
  exact Ok.bq (q_measured xu.1 g hv.1.2.1 hn xu.2 (fun i _ => hgo.lt hn i) hq) (Ok.ret ⟨rfl, u1, u3⟩)
theorem m_greedy {q : Nat} (hG : GK K m) (hs : s < 3) (hM : MST K m t) (hq : q < 7) (h2 : q ≠ 2) (h1 : 1 ≤ (K m s).1) (hN : NXT K m s (vwo (K m s) (trm (K m s).1 (gro (K m s).1 (K m s).2.2.1 q))) K' m') : Ok (FX12_greedy (nI s) (nI q) t) (fun r u => r = nI (val (K m s).1 (K m s).2.2.1 q (trm (K m s).1 (gro (K m s).1 (K m s).2.2.1 q))) ∧ MST K' m' u) := by
  have hv := hG.2 m (Nat.le_refl _) s hs
  have hn : (K m s).1 < 10 := hv.1.1
  have hr := hM.2.1.rn hs
  have hgo : GO (K m s).1 (trm (K m s).1 (gro (K m s).1 (K m s).2.2.1 q)) := trm_go (gro_pfx (Nat.le_refl _))
  unfold FX12_greedy
  refine Ok.bq (g_isNet hs hn hr) ?_
  rw [if_neg (c := (K m s).1 = 0) (by omega)]
  refine Ok.ifF (by decide) (Ok.bq (g_msM hq) (Ok.ifF (by decide) (Ok.ifF (by rw [li_2, nI_lit hq (by omega)]; exact h2) ?_)))
  refine Ok.bd (fun _ u => (∀ c, c ≠ 154 → u c = t c) ∧ MO (K m s).1 (trm (K m s).1 (gro (K m s).1 (K m s).2.2.1 q)) u) ?_ ?_
  · refine Ok.count (K m s).1 (fun j c s' => c = (nI (amk (gro (K m s).1 (K m s).2.2.1 q) j), nI j) ∧ (∀ c, c ≠ 154 → s' c = t c) ∧ ∀ i, i < j → s' 154 i = nI (gro (K m s).1 (K m s).2.2.1 q i)) ?_ ?_ (Nat.zero_le _) ⟨rfl, fun _ _ => rfl, fun i hi => by omega⟩
    · rintro j c s' hj ⟨rfl, sf, s1⟩
      unfold SX12_greedy_28
      dsimp only
      have hx := hr.fr (sf 150 (by decide))
      have hp := gro_pfx (n := (K m s).1) (q := q) (w := (K m s).2.2.1) (i := j) (by omega)
      obtain ⟨a1, a2, a3⟩ := gro_s hp hj
      have hS : amk (gro (K m s).1 (K m s).2.2.1 q) j < 512 := Nat.lt_of_lt_of_le hp.2.1 (pow9 (by omega))
      refine Ok.bq (q_points hx hs) (Ok.ifF (by rw [nI_leP (by omega) (by omega)]; omega) (Ok.bq (m_greedyIn hx hs hv.1.2.1 hn hq hS) ?_))
      rw [a1]
      refine Ok.ckT (inb_n (by omega) (by omega)) (OkwrE (Ok.ret ⟨?_, fun c hc => by rw [wr_off c hc]; exact sf c hc, fun i hi => ?_⟩))
      · show (nI (amk (gro (K m s).1 (K m s).2.2.1 q) j) ||| shl 1 (nI (gro (K m s).1 (K m s).2.2.1 q j)), nI j + 1) = _
        rw [shl_1 (by omega), nI_or, nI_1]
        rfl
      · rw [nI_cl (by omega)]
        by_cases e : i = j
        · subst e; rw [wrs]; rfl
        · rw [wrn e]; exact s1 i (by omega)
    · rintro c s' ⟨rfl, sf, s1⟩
      unfold SX12_greedy_28
      dsimp only
      exact Ok.bq (q_points (hr.fr (sf 150 (by decide))) hs) (Ok.ifT (by rw [nI_leP (by omega) (by omega)]; omega) (Ok.ret ⟨sf, fun i hi => by rw [trm_in hi]; exact s1 i hi⟩))
  · rintro _ t2 ⟨f2, o2⟩
    have M2 : MST K m t2 := hM.fr (by rw [f2 149 (by decide)]) (f2 150 (by decide)) (f2 152 (by decide))
    refine Ok.bd _ (m_takesRow hG hs M2 (hv.vwo hgo) hN o2) ?_
    rintro _ u ⟨-, u1, u2, -⟩
    have hK := u1.2.1.rn hs
    rw [hN.cur, upA_s] at hK
    have ou : MO (K m s).1 (trm (K m s).1 (gro (K m s).1 (K m s).2.2.1 q)) u := fun i hi => by
      rw [u2 154 (by decide) (by decide) (by decide) (by decide)]
      exact o2 i hi
    exact Ok.bq (q_valueOf hK hs hv.1.2.1 hn ou (fun i _ => hgo.lt hn i) hq) (Ok.ret ⟨rfl, u1⟩)
end
