/-! between two calls: what only looks (wip/sim/g99b.py) -/
def BOTHW (x : Option (Int32 × St)) (y : St → Option (Int32 × St)) : Prop := Ok x (fun r u => Ok (y u) (fun r2 w => INV3 w))
theorem BOTH.w {x : Option (Int32 × St)} {y : St → Option (Int32 × St)} (h : BOTH x y) : BOTHW x y := by
  obtain ⟨r, u, e1, r2, w, e2, h1, -⟩ := h
  exact ⟨r, u, e1, r2, w, e2, h1⟩
theorem rdW {σ : St} {x : Option (Int32 × St)} {y : St → Option (Int32 × St)} (hI : INV3 σ) (hz : Ok x (fun r u => Ok (y u) (fun r2 w => INV2 w))) (f1 : Fo P3 σ x) (f2 : ∀ u, Fo P3 u (y u)) : BOTHW x y := by
  obtain ⟨r, u, e1, r2, w, e2, hw⟩ := hz
  exact ⟨r, u, e1, r2, w, e2, hI.fr hw (fun c i h => (f2 u r2 w e2 c i h).trans (f1 r u e1 c i h))⟩
/-- the answers of what only looks: the class's at σ, the reference's at what it left -/
theorem rdA {σ : St} {x : Option (Int32 × St)} {y : St → Option (Int32 × St)} (h : BOTHW x y) (f1 : Fo P3 σ x) (A : Int32) (h1 : Pc x (fun r _ => r = A)) (h2 : ∀ u, (∀ c i, P3 c i → u c i = σ c i) → Pc (y u) (fun r _ => r = A)) : BOTH x y := by
  obtain ⟨r, u, e1, r2, w, e2, hw⟩ := h
  exact ⟨r, u, e1, r2, w, e2, hw, (h1 r u e1).trans (h2 u (f1 r u e1) r2 w e2).symm⟩
/-- what a search of the class leaves -/
def PS (c i : Nat) : Prop := c = 3 ∨ c = 4 ∨ (12 ≤ c ∧ c ≤ 15) ∨ (36 ≤ c ∧ c ≤ 39) ∨ (60 ≤ c ∧ c ≤ 63) ∨ (98 ≤ c ∧ c ≤ 140) ∨ c = 150 ∨ c = 152 ∨ c = 162 ∨ (c = 149 ∧ (i = 3 ∨ i = 25))
def SR (σ u : St) : Prop := FA u ∧ ∀ c i, PS c i → u c i = σ c i
theorem SR.rf {σ : St} (hI : INV3 σ) : SR σ σ := ⟨hI.2.2.1, fun _ _ _ => rfl⟩
theorem INV3.sr {σ u w : St} (h : INV3 σ) (hw : INV2 w) (f1 : SR σ u) (f2 : ∀ c i, P3 c i → w c i = u c i) : INV3 w := by
  obtain ⟨-, ⟨K, m, hG, hC, hM⟩, -, hO⟩ := h
  obtain ⟨hF, f1⟩ := f1
  have hCu : CST K m u := hC.fr hG.1 (fun s hs c c1 c2 => cel f1 (fun i => by unfold PS; omega)) (fun c c1 c2 => cel f1 (fun i => by unfold PS; omega))
  have hMu : MST K m u := hM.fr (f1 149 3 (by unfold PS; omega)) (cel f1 (fun i => by unfold PS; omega)) (cel f1 (fun i => by unfold PS; omega))
  have hOu : OUTI u := hO.fr (cel f1 (fun i => by unfold PS; omega)) (cel f1 (fun i => by unfold PS; omega)) (cel f1 (fun i => by unfold PS; omega)) (f1 149 25 (by unfold PS; omega))
  refine ⟨hw, ⟨K, m, hG, hCu.fr hG.1 (fun s hs c c1 c2 => cel f2 (fun i => by unfold P3; omega)) (fun c c1 c2 => cel f2 (fun i => by unfold P3; omega)), hMu.fr (f2 149 3 (by unfold P3; omega)) (cel f2 (fun i => by unfold P3; omega)) (cel f2 (fun i => by unfold P3; omega))⟩, hF.fr (fun c hc => cel f2 (fun i => by unfold P3; omega)), hOu.fr (cel f2 (fun i => by unfold P3; omega)) (cel f2 (fun i => by unfold P3; omega)) (cel f2 (fun i => by unfold P3; omega)) (f2 149 25 (by unfold P3; omega))⟩
theorem srW {σ : St} {x : Option (Int32 × St)} {y : St → Option (Int32 × St)} (hI : INV3 σ) (hz : Ok x (fun r u => Ok (y u) (fun r2 w => INV2 w))) (h1 : Pc x (fun _ u => SR σ u)) (f2 : ∀ u, Fo P3 u (y u)) : BOTHW x y := by
  obtain ⟨r, u, e1, r2, w, e2, hw⟩ := hz
  exact ⟨r, u, e1, r2, w, e2, hI.sr hw (h1 r u e1) (f2 u r2 w e2)⟩
theorem srA {σ : St} {x : Option (Int32 × St)} {y : St → Option (Int32 × St)} (hI : INV3 σ) (hz : Ok x (fun r u => Ok (y u) (fun r2 w => INV2 w))) (A : Int32) (h1 : Pc x (fun r u => r = A ∧ SR σ u)) (f2 : ∀ u, Fo P3 u (y u)) (h2 : ∀ u, SR σ u → Pc (y u) (fun r _ => r = A)) : BOTH x y := by
  obtain ⟨r, u, e1, r2, w, e2, hw⟩ := hz
  obtain ⟨a, b⟩ := h1 r u e1
  exact ⟨r, u, e1, r2, w, e2, hI.sr hw b (f2 u r2 w e2), a.trans (h2 u b r2 w e2).symm⟩
theorem SR.rn {σ u : St} (h : SR σ u) {s n : Nat} {w : Nat → Nat → Nat} (g : RN s n w σ) : RN s n w u := g.fr (cel h.2 (fun i => by unfold PS; omega))
theorem SR.eq {σ : St} {x : Option (Int32 × St)} {v : Int32} (hI : INV3 σ) (h : x = some (v, σ)) : Pc x (fun r u => r = v ∧ SR σ u) := by
  intro r u e
  rw [h] at e
  obtain ⟨rfl, rfl⟩ := some_pair e
  exact ⟨rfl, SR.rf hI⟩
theorem FA.ff {σ u : St} {s : Nat} (hF : FA σ) (h1 : FI (16 + 24 * s) u) (h2 : BI u) (f : FF s σ u) : FA u := ⟨fun r hr => by
  by_cases e : r = s
  · rw [e]; exact h1
  · exact (hF.1 r hr).fr (fun c c1 c2 => f c (by omega) (by omega)), h2⟩
theorem r_fof {σ : St} {s q : Nat} {v : V4} (hI : INV3 σ) (hs : s < 3) (h : SL σ s v) (h1 : 1 ≤ v.1) (hq : q < 7) : Pc (FX11_findingOf (nI s) (nI q) σ) (fun r u => r = some (22 + 24 * s + 2 * q) ∧ FDZ (22 + 24 * s + 2 * q) v.1 v.2.2.1 q u ∧ SR σ u) := by
  have hF := hI.2.2.1
  refine (r_findingOf hs hq h.2.1.1 h.1.1 h1 (hF.1 s hs) hF.2).mono ?_
  rintro r u ⟨rfl, a, b, c, f⟩
  exact ⟨rfl, a, hF.ff b c f, fun c i hc => by rw [f c (by unfold PS at hc; omega) (by unfold PS at hc; omega)]⟩
theorem zw_fault {σ : St} (hI : INV3 σ) (a : Int32) : BOTHW (FX11_fault a σ) (fun u => FX12_fault a u) := rdW hI ((z_fault hI.1 a).mono (fun r u h => h.mono (fun _ _ h => h.1))) (fo_FX11_fault (P := P3) _) (fun u => fo_FX12_fault (P := P3) _)
theorem zw_count {σ : St} (hI : INV3 σ) (a : Int32) : BOTHW (FX11_count a σ) (fun u => FX12_count a u) := rdW hI (z_count hI.1 _) (fo_FX11_count (P := P3) _) (fun u => fo_FX12_count (P := P3) _)
theorem zw_look {σ : St} (hI : INV3 σ) (a b : Int32) : BOTHW (FX11_look a b σ) (fun u => FX12_look a b u) := rdW hI (z_look hI.1 _ _) (fo_FX11_look (P := P3) _ _) (fun u => fo_FX12_look (P := P3) _ _)
theorem zw_near {σ : St} (hI : INV3 σ) (a b : Int32) : BOTHW (FX11_near a b σ) (fun u => FX12_near a b u) := rdW hI (z_near hI.1 _ _) (fo_FX11_near (P := P3) _ _) (fun u => fo_FX12_near (P := P3) _ _)
theorem zw_line {σ : St} (hI : INV3 σ) (a b c : Int32) : BOTHW (FX11_line a b c σ) (fun u => FX12_line a b c u) := rdW hI (z_line hI.1 _ _ _) (fo_FX11_line (P := P3) _ _ _) (fun u => fo_FX12_line (P := P3) _ _ _)
theorem zw_far {σ : St} (hI : INV3 σ) (a b c : Int32) : BOTHW (FX11_far a b c σ) (fun u => FX12_far a b c u) := rdW hI (z_far hI.1 _ _ _) (fo_FX11_far (P := P3) _ _ _) (fun u => fo_FX12_far (P := P3) _ _ _)
theorem zw_row {σ : St} (hI : INV3 σ) (a b : Int32) : BOTHW (FX11_row a b σ) (fun u => FX12_row a b u) := rdW hI (z_row hI.1 _ _) (fo_FX11_row (P := P3) _ _) (fun u => fo_FX12_row (P := P3) _ _)
theorem zw_place {σ : St} (hI : INV3 σ) (a b : Int32) : BOTHW (FX11_place a b σ) (fun u => FX12_place a b u) := rdW hI (z_place hI.1 _ _) (fo_FX11_place (P := P3) _ _) (fun u => fo_FX12_place (P := P3) _ _)
theorem zw_value {σ : St} (hI : INV3 σ) (a b : Int32) : BOTHW (FX11_value a b σ) (fun u => FX12_value a b u) := rdW hI (z_value hI.1 _ _) (fo_FX11_value (P := P3) _ _) (fun u => fo_FX12_value (P := P3) _ _ (fun c i h => by unfold P3 at h; omega))
theorem zw_price {σ : St} (hI : INV3 σ) (a b c : Int32) : BOTHW (FX11_price a b c σ) (fun u => FX12_price a b c u) := rdW hI (z_price hI.1 _ _ _) (fo_FX11_price (P := P3) _ _ _) (fun u => fo_FX12_price (P := P3) _ _ _)
theorem zw_worst {σ : St} (hI : INV3 σ) (a b : Int32) : BOTHW (FX11_worst a b σ) (fun u => FX12_worst a b u) := rdW hI (z_worst hI.1 _ _) (fo_FX11_worst (P := P3) _ _) (fun u => fo_FX12_worst (P := P3) _ _)
theorem zw_longest {σ : St} (hI : INV3 σ) (a : Int32) : BOTHW (FX11_longest a σ) (fun u => FX12_longest a u) := rdW hI (z_longest hI.1 _) (fo_FX11_longest (P := P3) _) (fun u => fo_FX12_longest (P := P3) _)
theorem zw_bound {σ : St} (hI : INV3 σ) (a b c : Int32) : BOTHW (FX11_bound a b c σ) (fun u => FX12_bound a b c u) := rdW hI (z_bound hI.1 _ _ _) (fo_FX11_bound (P := P3) _ _ _) (fun u => fo_FX12_bound (P := P3) _ _ _)
theorem zw_minor {σ : St} (hI : INV3 σ) (a : Int32) : BOTHW (FX11_minor a σ) (fun u => FX12_minor a u) := rdW hI (z_minor hI.1 _) (fo_FX11_minor (P := P3) _ (fun c i h => by unfold P3 at h; omega)) (fun u => fo_FX12_minor (P := P3) _ (fun c i h => by unfold P3 at h; omega))
theorem zw_split {σ : St} (hI : INV3 σ) (a b c : Int32) : BOTHW (FX11_split a b c σ) (fun u => FX12_split a b c u) := rdW hI (z_split hI.1 _ _ _) (fo_FX11_split (P := P3) _ _ _) (fun u => fo_FX12_split (P := P3) _ _ _)
theorem zw_halve {σ : St} (hI : INV3 σ) (a : Int32) : BOTHW (FX11_halve a σ) (fun u => FX12_halve a u) := rdW hI (z_halve hI.1 _) (fo_FX11_halve (P := P3) _) (fun u => fo_FX12_halve (P := P3) _)
theorem zw_bag {σ : St} (hI : INV3 σ) (a b c : Int32) : BOTHW (FX11_bag a b c σ) (fun u => FX12_bag a b c u) := rdW hI (z_bag hI.1 _ _ _) (fo_FX11_bag (P := P3) _ _ _) (fun u => fo_FX12_bag (P := P3) _ _ _)
theorem zw_filled {σ : St} (hI : INV3 σ) (a b : Int32) : BOTHW (FX11_filled a b σ) (fun u => FX12_filled a b u) := rdW hI (z_filled hI.1 _ _) (fo_FX11_filled (P := P3) _ _) (fun u => fo_FX12_filled (P := P3) _ _)
theorem zw_gain {σ : St} (hI : INV3 σ) (a b c d : Int32) : BOTHW (FX11_gain a b c d σ) (fun u => FX12_gain a b c d u) := rdW hI (z_gain hI.1 _ _ _ _) (fo_FX11_gain (P := P3) _ _ _ _ (fun c i h => by unfold P3 at h; omega)) (fun u => fo_FX12_gain (P := P3) _ _ _ _ (fun c i h => by unfold P3 at h; omega))
theorem zw_polished {σ : St} (hI : INV3 σ) (a b : Int32) : BOTHW (FX11_polished a b σ) (fun u => FX12_polished a b u) := rdW hI (z_polished hI.1 _ _) (fo_FX11_polished (P := P3) _ _ (fun c i h => by unfold P3 at h; omega)) (fun u => fo_FX12_polished (P := P3) _ _ (fun c i h => by unfold P3 at h; omega))
theorem zw_octet {σ : St} (hI : INV3 σ) (a : Int32) : BOTHW (FX11_octet a σ) (fun u => FX12_octet a u) := rdW hI (z_octet hI.1 _) (fo_FX11_octet (P := P3) _) (fun u => fo_FX12_octet (P := P3) _)
theorem z3_least {σ : St} (hI : INV3 σ) (a b : Int32) : BOTH (FX11_least a b σ) (fun u => FX12_least a b u) := by
  rcases r3 (a := a) with ⟨s, hs, rfl⟩ | ha
  · obtain ⟨v, h⟩ := hI.sl hs
    have hn : v.1 < 10 := h.1.1.1
    have h0 := h.2.1.1.1
    have hr := h.2.2.1
    by_cases h1 : 1 ≤ v.1
    · by_cases hb : IsR 7 b
      · obtain ⟨q, hq, rfl⟩ := hb
        refine srA hI (z_least hI.1 _ _) (nI (lsv v.1 v.2.2.1 q)) ?_ (fun u => fo_FX12_least (P := P3) _ _ (fun c i h => by unfold P3 at h; omega)) (fun u hu => a_least (hu.rn hr) hs h.1.1.2.1 hn h1 hq)
        unfold FX11_least
        refine Pc.bd _ (r_fof hI hs h h1 hq) ?_
        rintro _ u ⟨rfl, z, S⟩
        exact Pc.ck (fun _ => Pc.rdE z.1 (Pc.ret ⟨rfl, S⟩))
      · refine BOTH.no (v := -2) hI ?_ ?_
        · unfold FX11_least
          exact Ok.eq (Ok.bq (g_findingOfM hs hn h0 hb) (Ok.ret ⟨rfl, rfl⟩))
        · refine Ok.eq ?_
          unfold FX12_least
          exact Ok.bq (g_isN1 hs hn hr h1) (Ok.ifF (by decide) (Ok.bq (g_msM0 hb) (Ok.ifT rfl (Ok.ret ⟨rfl, rfl⟩))))
    · refine BOTH.no (v := -2) hI ?_ ?_
      · unfold FX11_least
        exact Ok.eq (Ok.bq (g_findingOfN hs (by rw [h0, show v.1 = 0 by omega])) (Ok.ret ⟨rfl, rfl⟩))
      · refine Ok.eq ?_
        unfold FX12_least
        exact Ok.bq (g_isN0 hs hn hr (by omega)) (Ok.ifT rfl (Ok.ret ⟨rfl, rfl⟩))
  · refine BOTH.no (v := -2) hI ?_ ?_
    · unfold FX11_least
      exact Ok.eq (Ok.bq (g_findingOf0 ha) (Ok.ret ⟨rfl, rfl⟩))
    · refine Ok.eq ?_
      unfold FX12_least
      exact Ok.bq (g_isNet0 ha) (Ok.ifT rfl (Ok.ret ⟨rfl, rfl⟩))
theorem z3_ways {σ : St} (hI : INV3 σ) (a b : Int32) : BOTH (FX11_ways a b σ) (fun u => FX12_ways a b u) := by
  rcases r3 (a := a) with ⟨s, hs, rfl⟩ | ha
  · obtain ⟨v, h⟩ := hI.sl hs
    have hn : v.1 < 10 := h.1.1.1
    have h0 := h.2.1.1.1
    have hr := h.2.2.1
    by_cases h1 : 1 ≤ v.1
    · by_cases hb : IsR 7 b
      · obtain ⟨q, hq, rfl⟩ := hb
        refine srA hI (z_ways hI.1 _ _) (nI (rwc v.1 v.2.2.1 q)) ?_ (fun u => fo_FX12_ways (P := P3) _ _ (fun c i h => by unfold P3 at h; omega)) (fun u hu => a_ways (hu.rn hr) hs h.1.1.2.1 hn h1 hq)
        unfold FX11_ways
        refine Pc.bd _ (r_fof hI hs h h1 hq) ?_
        rintro _ u ⟨rfl, z, S⟩
        exact Pc.ck (fun _ => Pc.rdE z.2.1 (Pc.ret ⟨rfl, S⟩))
      · refine BOTH.no (v := -2) hI ?_ ?_
        · unfold FX11_ways
          exact Ok.eq (Ok.bq (g_findingOfM hs hn h0 hb) (Ok.ret ⟨rfl, rfl⟩))
        · refine Ok.eq ?_
          unfold FX12_ways
          exact Ok.bq (g_isN1 hs hn hr h1) (Ok.ifF (by decide) (Ok.bq (g_msM0 hb) (Ok.ifT rfl (Ok.ret ⟨rfl, rfl⟩))))
    · refine BOTH.no (v := -2) hI ?_ ?_
      · unfold FX11_ways
        exact Ok.eq (Ok.bq (g_findingOfN hs (by rw [h0, show v.1 = 0 by omega])) (Ok.ret ⟨rfl, rfl⟩))
      · refine Ok.eq ?_
        unfold FX12_ways
        exact Ok.bq (g_isN0 hs hn hr (by omega)) (Ok.ifT rfl (Ok.ret ⟨rfl, rfl⟩))
  · refine BOTH.no (v := -2) hI ?_ ?_
    · unfold FX11_ways
      exact Ok.eq (Ok.bq (g_findingOf0 ha) (Ok.ret ⟨rfl, rfl⟩))
    · refine Ok.eq ?_
      unfold FX12_ways
      exact Ok.bq (g_isNet0 ha) (Ok.ifT rfl (Ok.ret ⟨rfl, rfl⟩))
theorem z3_firsts {σ : St} (hI : INV3 σ) (a b : Int32) : BOTH (FX11_firsts a b σ) (fun u => FX12_firsts a b u) := by
  rcases r3 (a := a) with ⟨s, hs, rfl⟩ | ha
  · obtain ⟨v, h⟩ := hI.sl hs
    have hn : v.1 < 10 := h.1.1.1
    have h0 := h.2.1.1.1
    have hr := h.2.2.1
    by_cases h1 : 1 ≤ v.1
    · by_cases hb : IsR 7 b
      · obtain ⟨q, hq, rfl⟩ := hb
        refine srA hI (z_firsts hI.1 _ _) (nI (fpt v.1 v.2.2.1 q)) ?_ (fun u => fo_FX12_firsts (P := P3) _ _ (fun c i h => by unfold P3 at h; omega)) (fun u hu => a_firsts (hu.rn hr) hs h.1.1.2.1 hn h1 hq)
        unfold FX11_firsts
        refine Pc.bd _ (r_fof hI hs h h1 hq) ?_
        rintro _ u ⟨rfl, z, S⟩
        exact Pc.ck (fun _ => Pc.rdE z.2.2.1 (Pc.ret ⟨rfl, S⟩))
      · refine BOTH.no (v := -2) hI ?_ ?_
        · unfold FX11_firsts
          exact Ok.eq (Ok.bq (g_findingOfM hs hn h0 hb) (Ok.ret ⟨rfl, rfl⟩))
        · refine Ok.eq ?_
          unfold FX12_firsts
          exact Ok.bq (g_isN1 hs hn hr h1) (Ok.ifF (by decide) (Ok.bq (g_msM0 hb) (Ok.ifT rfl (Ok.ret ⟨rfl, rfl⟩))))
    · refine BOTH.no (v := -2) hI ?_ ?_
      · unfold FX11_firsts
        exact Ok.eq (Ok.bq (g_findingOfN hs (by rw [h0, show v.1 = 0 by omega])) (Ok.ret ⟨rfl, rfl⟩))
      · refine Ok.eq ?_
        unfold FX12_firsts
        exact Ok.bq (g_isN0 hs hn hr (by omega)) (Ok.ifT rfl (Ok.ret ⟨rfl, rfl⟩))
  · refine BOTH.no (v := -2) hI ?_ ?_
    · unfold FX11_firsts
      exact Ok.eq (Ok.bq (g_findingOf0 ha) (Ok.ret ⟨rfl, rfl⟩))
    · refine Ok.eq ?_
      unfold FX12_firsts
      exact Ok.bq (g_isNet0 ha) (Ok.ifT rfl (Ok.ret ⟨rfl, rfl⟩))
theorem z3_best {σ : St} (hI : INV3 σ) (a b c : Int32) : BOTH (FX11_best a b c σ) (fun u => FX12_best a b c u) := by
  rcases r3 (a := a) with ⟨s, hs, rfl⟩ | ha
  · obtain ⟨v, h⟩ := hI.sl hs
    have hn : v.1 < 10 := h.1.1.1
    have h0 := h.2.1.1.1
    have hr := h.2.2.1
    have g := n_sl hs
    by_cases h1 : 1 ≤ v.1
    · by_cases hb : IsR 7 b
      · obtain ⟨q, hq, rfl⟩ := hb
        have hx : ∀ u, SR σ u → u (12 + 24 * s) 0 = nI v.1 := fun u hu => by
          rw [hu.2 _ _ (by unfold PS; omega)]
          exact h0
        by_cases hc : IsR v.1 c
        · obtain ⟨i, hi, rfl⟩ := hc
          refine srA hI (z_best hI.1 _ _ _) (nI (frw v.1 v.2.2.1 q i)) ?_ (fun u => fo_FX12_best (P := P3) _ _ _ (fun c i h => by unfold P3 at h; omega)) (fun u hu => a_best (hu.rn hr) hs h.1.1.2.1 hn hi hq)
          unfold FX11_best
          refine Pc.bd _ (r_fof hI hs h h1 hq) ?_
          rintro _ u ⟨rfl, z, S⟩
          refine Pc.ck (fun _ => Pc.ck (fun _ => Pc.ck (fun _ => ?_)))
          rw [el10 hs]
          refine Pc.bq (g_has g hn (hx u S) hi) (Pc.ifF (by decide) (Pc.ck (fun _ => ?_)))
          rw [nI_cl (by omega)]
          exact Pc.rdE (z.2.2.2 i hi) (Pc.ret ⟨rfl, S⟩)
        · refine srA hI (z_best hI.1 _ _ _) (-2) ?_ (fun u => fo_FX12_best (P := P3) _ _ _ (fun c i h => by unfold P3 at h; omega)) (fun u hu => ?_)
          · unfold FX11_best
            refine Pc.bd _ (r_fof hI hs h h1 hq) ?_
            rintro _ u ⟨rfl, z, S⟩
            refine Pc.ck (fun _ => Pc.ck (fun _ => Pc.ck (fun _ => ?_)))
            rw [el10 hs]
            exact Pc.bq (g_has0 g hn (hx u S) hc) (Pc.ifT rfl (Pc.ret ⟨rfl, S⟩))
          · unfold FX12_best
            exact Pc.bq (g_isPt0 hs hn (hu.rn hr) hc) (Pc.ifT rfl (Pc.ret rfl))
      · refine BOTH.no (v := -2) hI ?_ ?_
        · unfold FX11_best
          exact Ok.eq (Ok.bq (g_findingOfM hs hn h0 hb) (Ok.ret ⟨rfl, rfl⟩))
        · refine Ok.eq ?_
          unfold FX12_best
          by_cases hc : IsR v.1 c
          · obtain ⟨i, hi, rfl⟩ := hc
            exact Ok.bq (g_isPt hs hn hr hi) (Ok.ifF (by decide) (Ok.bq (g_msM0 hb) (Ok.ifT rfl (Ok.ret ⟨rfl, rfl⟩))))
          · exact Ok.bq (g_isPt0 hs hn hr hc) (Ok.ifT rfl (Ok.ret ⟨rfl, rfl⟩))
    · refine BOTH.no (v := -2) hI ?_ ?_
      · unfold FX11_best
        exact Ok.eq (Ok.bq (g_findingOfN hs (by rw [h0, show v.1 = 0 by omega])) (Ok.ret ⟨rfl, rfl⟩))
      · refine Ok.eq ?_
        unfold FX12_best
        exact Ok.bq (g_isPt0 hs hn hr (fun ⟨i, hi, _⟩ => by omega)) (Ok.ifT rfl (Ok.ret ⟨rfl, rfl⟩))
  · refine BOTH.no (v := -2) hI ?_ ?_
    · unfold FX11_best
      exact Ok.eq (Ok.bq (g_findingOf0 ha) (Ok.ret ⟨rfl, rfl⟩))
    · refine Ok.eq ?_
      unfold FX12_best
      exact Ok.bq (g_isPtN ha) (Ok.ifT rfl (Ok.ret ⟨rfl, rfl⟩))
theorem z3_within {σ : St} (hI : INV3 σ) (a b c : Int32) : BOTH (FX11_within a b c σ) (fun u => FX12_within a b c u) := by
  rcases r3 (a := a) with ⟨s, hs, rfl⟩ | ha
  · obtain ⟨v, h⟩ := hI.sl hs
    have hn : v.1 < 10 := h.1.1.1
    have h0 := h.2.1.1.1
    have hr := h.2.2.1
    have g := n_sl hs
    by_cases h1 : 1 ≤ v.1
    · by_cases hb : IsR 7 b
      · obtain ⟨q, hq, rfl⟩ := hb
        by_cases hc : c < 0
        · have nc : ¬ (0 : Int32) ≤ c := by
            rw [Int32.lt_iff_toInt_lt, show (0 : Int32).toInt = 0 by decide] at hc
            rw [Int32.le_iff_toInt_le, show (0 : Int32).toInt = 0 by decide]
            omega
          refine BOTH.no (v := -2) hI ?_ ?_
          · unfold FX11_within
            refine Ok.eq (netI hs hn h0 (fun _ => ⟨rfl, rfl⟩) (fun h1 g => Ok.bq (g_bd hq) (Ok.ite (fun _ => Ok.ret ⟨rfl, rfl⟩) (fun _ => Ok.ifF nc (Ok.ret ⟨rfl, rfl⟩)))))
          · refine Ok.eq ?_
            unfold FX12_within
            refine Ok.bq (g_isN1 hs hn hr h1) (Ok.ifF (by decide) (Ok.bq (g_msM hq) (Ok.ifF (by decide) (Ok.ite (fun _ => Ok.ifF nc (Ok.ret ⟨rfl, rfl⟩)) (fun _ => Ok.bq (q_isGreatest hq) (Ok.ite (fun _ => Ok.ret ⟨rfl, rfl⟩) (fun _ => Ok.ifF nc (Ok.ret ⟨rfl, rfl⟩))))))))
        · obtain ⟨k, hk, rfl⟩ := nI_of hc
          refine srA hI (z_within hI.1 _ _ _) _ ((c_within hs hq h.2.1.1 h.1.1 h1 hI.2.2.1.2 hk).mono ?_) (fun u => fo_FX12_within (P := P3) _ _ _ (fun c i h => by unfold P3 at h; omega)) (fun u hu => a_within (hu.rn hr) hs h.1.1.2.1 hn h1 hq hk)
          rintro r u ⟨r1, r2, r3⟩
          exact ⟨r1, ⟨fun r hr => (hI.2.2.1.1 r hr).fr (fun c c1 c2 => r3 c (by omega)), r2⟩, fun c i hc => by rw [r3 c (by unfold PS at hc; omega)]⟩
      · refine BOTH.no (v := -2) hI ?_ ?_
        · unfold FX11_within
          exact Ok.eq (netI hs hn h0 (fun _ => ⟨rfl, rfl⟩) (fun h1 g => Ok.bq (g_bd0 hb) (Ok.ifT rfl (Ok.ret ⟨rfl, rfl⟩))))
        · refine Ok.eq ?_
          unfold FX12_within
          exact Ok.bq (g_isN1 hs hn hr h1) (Ok.ifF (by decide) (Ok.bq (g_msM0 hb) (Ok.ifT rfl (Ok.ret ⟨rfl, rfl⟩))))
    · refine BOTH.no (v := -2) hI ?_ ?_
      · unfold FX11_within
        exact Ok.eq (netI hs hn h0 (fun _ => ⟨rfl, rfl⟩) (fun h g => absurd h h1))
      · refine Ok.eq ?_
        unfold FX12_within
        exact Ok.bq (g_isN0 hs hn hr (by omega)) (Ok.ifT rfl (Ok.ret ⟨rfl, rfl⟩))
  · refine BOTH.no (v := -2) hI ?_ ?_
    · unfold FX11_within
      exact net0 ha
    · refine Ok.eq ?_
      unfold FX12_within
      exact Ok.bq (g_isNet0 ha) (Ok.ifT rfl (Ok.ret ⟨rfl, rfl⟩))
theorem r_fofW {σ : St} (hI : INV3 σ) (a b : Int32) : Pc (FX11_findingOf a b σ) (fun _ u => SR σ u) := by
  rcases r3 (a := a) with ⟨s, hs, rfl⟩ | ha
  · obtain ⟨v, h⟩ := hI.sl hs
    by_cases h1 : 1 ≤ v.1
    · by_cases hb : IsR 7 b
      · obtain ⟨q, hq, rfl⟩ := hb
        exact (r_fof hI hs h h1 hq).mono (fun _ _ h => h.2.2)
      · rw [g_findingOfM hs h.1.1.1 h.2.1.1.1 hb]
        exact Pc.ret (SR.rf hI)
    · rw [g_findingOfN hs (by rw [h.2.1.1.1, show v.1 = 0 by omega])]
      exact Pc.ret (SR.rf hI)
  · rw [g_findingOf0 ha]
    exact Pc.ret (SR.rf hI)
theorem SR.fr {σ t u : St} (h : SR σ t) (f : ∀ c i, P3 c i → u c i = t c i) : SR σ u := ⟨h.1.fr (fun c hc => cel f (fun i => by unfold P3; omega)), fun c i hc => (f c i (by unfold P3; unfold PS at hc; omega)).trans (h.2 c i hc)⟩
theorem zw_among {σ : St} (hI : INV3 σ) (a b c : Int32) : BOTHW (FX11_among a b c σ) (fun u => FX12_among a b c u) := by
  refine srW hI (z_among hI.1 _ _ _) ?_ (fun u => fo_FX12_among (P := P3) _ _ _ (fun c i h => by unfold P3 at h; omega))
  unfold FX11_among
  refine Pc.bd _ (r_fofW hI a b) ?_
  rintro (_ | x) u S
  · exact Pc.ret S
  · refine Pc.ck (fun _ => Pc.bd _ (fo_FX11_isBounded (P := P3) _).pc ?_)
    rintro v7 t8 f8
    refine Pc.ite (fun _ => Pc.ret (S.fr f8)) (fun _ => Pc.ite (fun _ => Pc.ret (S.fr f8)) (fun _ => Pc.bd _ (fo_FX11_isPriced (P := P3) _).pc ?_))
    rintro v14 t15 f15
    have S15 := (S.fr f8).fr f15
    refine Pc.ite (fun _ => Pc.ret S15) (fun _ => Pc.ck (fun _ => Pc.ck (fun _ => Pc.rdE rfl (Pc.bd _ (fo_FX9_leastWhere (P := P3) _ _ _ _ (fun c i h => by unfold P3 at h; omega)).pc ?_))))
    rintro v22 t23 f23
    exact Pc.ret (S15.fr f23)
theorem z3_tell {σ : St} (hI : INV3 σ) (a b : Int32) : BOTH (FX11_tell a b σ) (fun u => FX12_tell a b u) := by
  rcases r3 (a := a) with ⟨s, hs, rfl⟩ | ha
  · obtain ⟨v, h⟩ := hI.sl hs
    have hn : v.1 < 10 := h.1.1.1
    have h0 := h.2.1.1.1
    have hr := h.2.2.1
    by_cases h1 : 1 ≤ v.1
    · by_cases hb : IsR 2 b
      · obtain ⟨q, hq, rfl⟩ := hb
        obtain ⟨r, u, e1, r2, w, e2, hw⟩ := z_tell hI.1 (nI s) (nI q)
        refine ⟨r, u, e1, r2, w, e2, ?_⟩
        have hw9 := h.1.1.2.1
        obtain ⟨rfl, u1, u2⟩ := (c_tell hs h.2.1.1 hw9 hn h1 h.2.1.2 (fun i _ => h.1.o9 i) hq).out e1
        have ru : RN s v.1 v.2.2.1 u := hr.fr (u2 150 (by decide) (by decide))
        have ou : RO s v.1 v.2.2.2 u := fun i hi => by rw [u2 150 (by decide) (by decide)]; exact h.2.2.2 i hi
        obtain ⟨rfl, w1, w2⟩ := (m_tell hs ru hw9 hn h1 ou (fun i _ => h.1.o9 i) hq).out e2
        have wu : ∀ c, c ≠ 149 → c ≠ 162 → c ≠ 3 → c ≠ 4 → w c = σ c := fun c k1 k2 k3 k4 => (w2.1 c k1 k2).trans (u2 c k3 k4)
        obtain ⟨-, ⟨K, m, hG, hC, hM⟩, hF, hO⟩ := hI
        refine ⟨⟨hw, ⟨K, m, hG, hC.fr hG.1 (fun s hs c c1 c2 => wu c (by omega) (by omega) (by omega) (by omega)) (fun c c1 c2 => wu c (by omega) (by omega) (by omega) (by omega)), hM.fr ?_ (wu 150 (by decide) (by decide) (by decide) (by decide)) (wu 152 (by decide) (by decide) (by decide) (by decide))⟩, hF.fr (fun c hc => wu c (by omega) (by omega) (by omega) (by omega)), tlx v.1 v.2.2.1 v.2.2.2 q, tlx_len hw9 hn (fun i _ => h.1.o9 i), ⟨?_, fun i hi => ?_⟩, w1⟩, rfl⟩
        · rw [w2.2 3 (by decide), u2 149 (by decide) (by decide)]
        · rw [w2.1 3 (by decide) (by decide)]; exact u1.1
        · rw [w2.1 4 (by decide) (by decide)]; exact u1.2 i hi
      · refine BOTH.no (v := -2) hI ?_ ?_
        · unfold FX11_tell
          refine Ok.eq (netI hs hn h0 (fun _ => ⟨rfl, rfl⟩) (fun h1 g => Ok.ite (fun _ => Ok.ret ⟨rfl, rfl⟩) (fun c0 => Ok.ifF ?_ (Ok.ret ⟨rfl, rfl⟩))))
          obtain ⟨k, hk, rfl⟩ := nI_of c0
          rw [li_1, nI_leP (by omega) (by omega)]
          exact fun q => hb ⟨k, by omega, rfl⟩
        · refine Ok.eq ?_
          unfold FX12_tell
          refine Ok.bq (g_isN1 hs hn hr h1) (Ok.ifF (by decide) (Ok.bd (fun r u => σ = u ∧ r = 0) (e_inN (n := 2) (by omega) (by omega) (fun j hj e => absurd ⟨j, hj, e⟩ hb) (fun q => ⟨rfl, rfl⟩) (by decide) (by decide)) ?_))
          rintro _ _ ⟨rfl, rfl⟩
          exact Ok.ifT rfl (Ok.ret ⟨rfl, rfl⟩)
    · refine BOTH.no (v := -2) hI ?_ ?_
      · unfold FX11_tell
        exact Ok.eq (netI hs hn h0 (fun _ => ⟨rfl, rfl⟩) (fun h g => absurd h h1))
      · refine Ok.eq ?_
        unfold FX12_tell
        exact Ok.bq (g_isN0 hs hn hr (by omega)) (Ok.ifT rfl (Ok.ret ⟨rfl, rfl⟩))
  · refine BOTH.no (v := -2) hI ?_ ?_
    · unfold FX11_tell
      exact net0 ha
    · refine Ok.eq ?_
      unfold FX12_tell
      exact Ok.bq (g_isNet0 ha) (Ok.ifT rfl (Ok.ret ⟨rfl, rfl⟩))
theorem z3_feed {σ : St} (hI : INV3 σ) (a b c d e : Int32) : BOTH (FX11_feed a b c d e σ) (fun u => FX12_feed a b c d e u) := by
  obtain ⟨r, u, e1, r2, w, e2, hw, hr⟩ := z_feed hI.1 a b c d e
  refine ⟨r, u, e1, r2, w, e2, ?_, hr⟩
  obtain ⟨hI1, ⟨k, bt, hC, hM⟩, -, -⟩ := hI.1
  by_cases hk : k ≤ 380
  · obtain ⟨-, c1, c2, c3, c4⟩ := (f_feedC hC.2.1 hk).out e1
    obtain ⟨-, m1, m2, m3, m4⟩ := (f_feedM (t := u) (k := k) (by rw [c1 149 (by decide) (by decide)]; exact hM.2.1) hk).out e2
    refine hI.fr hw (fun c i h => ?_)
    by_cases q : c = 149
    · subst q
      rw [m2, pk_un (by unfold P3 at h; omega), c1 149 (by decide) (by decide)]
    · rw [m1 c q (by unfold P3 at h; omega), c1 c (by unfold P3 at h; omega) (by unfold P3 at h; omega)]
  · have eu : σ = u := by
      rcases (gX11_feed hI1.1 hC.2.1 hC.1).out e1 with ⟨-, -, h⟩ | ⟨h, -⟩
      · exact h
      · omega
    subst eu
    have ew : σ = w := by
      rcases (nX12_feed hI1.1 hI1.2.1 hM.2.1 hM.1).out e2 with ⟨-, -, h⟩ | ⟨h, -⟩
      · exact h
      · omega
    subst ew
    exact hI
theorem z3_end {σ : St} (hI : INV3 σ) (a : Int32) : BOTH (FX11_end a σ) (fun u => FX12_end a u) := by
  obtain ⟨r, u, e1, r2, w, e2, hw, hr⟩ := z_end hI.1 a
  refine ⟨r, u, e1, r2, w, e2, hI.fr hw (fun c i h => ?_), hr⟩
  exact (fo_FX12_end a r2 w e2 c i (by unfold P3 at h; omega)).trans (fo_FX11_end a r u e1 c i (by unfold P3 at h; omega))
theorem z3_fault {σ : St} (hI : INV3 σ) (a : Int32) : BOTH (FX11_fault a σ) (fun u => FX12_fault a u) := by
  obtain ⟨r, u, e1, r2, w, e2, hw, hr⟩ := z_fault hI.1 a
  obtain ⟨r', u', e1', r2', w', e2', hw'⟩ := zw_fault hI a
  rw [e1] at e1'
  obtain ⟨rfl, rfl⟩ := some_pair e1'
  have e2' : FX12_fault a u = some (r2', w') := e2'
  rw [e2] at e2'
  obtain ⟨rfl, rfl⟩ := some_pair e2'
  exact ⟨r, u, e1, r2, w, e2, hw', hr⟩
theorem z3_octet {σ : St} (hI : INV3 σ) (a : Int32) : BOTH (FX11_octet a σ) (fun u => FX12_octet a u) := by
  obtain ⟨l, hl, h1, h2⟩ := hI.2.2.2
  by_cases hb : IsR l.length a
  · obtain ⟨i, hi, rfl⟩ := hb
    refine BOTH.no (v := nI (gt l i)) hI ?_ ?_
    · refine Ok.eq ?_
      unfold FX11_octet FX1_at_3
      refine Ok.bq (a := nI (gt l i)) (t := σ) (Ok.eq (Ok.ifF (by rw [li_0, nI_ltP (by omega) (by omega)]; omega) (Ok.rdE h1.1 (Ok.ifF (by rw [nI_leP (by omega) (by omega)]; omega) (Ok.ckT (inb_n (by omega) (by omega)) ?_))))) (Ok.ret ⟨rfl, rfl⟩)
      rw [nI_cl (by omega)]
      exact Ok.rdE rfl (Ok.ret ⟨rfl, h1.2 i hi⟩)
    · refine Ok.eq ?_
      unfold FX12_octet
      refine Ok.rdE h2.1 (Ok.bd (fun r u => σ = u ∧ r = 1) (e_inN (n := l.length) (by omega) (by omega) (fun _ _ _ => ⟨rfl, rfl⟩) (fun q => absurd ⟨i, hi, rfl⟩ q) in0 (by rw [nI_s1 (by omega), Int32.toInt_toInt64, nI_toInt (by omega)]; omega)) ?_)
      rintro _ _ ⟨rfl, rfl⟩
      refine Ok.ifF (by decide) (Ok.ckT (inb_n (by omega) (by omega)) ?_)
      rw [nI_cl (by omega)]
      exact Ok.rdE (h2.2 i hi) (Ok.ret ⟨rfl, rfl⟩)
  · refine BOTH.no (v := -1) hI ?_ ?_
    · refine Ok.eq ?_
      unfold FX11_octet FX1_at_3
      refine Ok.bq (a := -1) (t := σ) (Ok.eq (Ok.ite (fun _ => Ok.ret ⟨rfl, rfl⟩) (fun c0 => Ok.rdE h1.1 (Ok.ifT ?_ (Ok.ret ⟨rfl, rfl⟩))))) (Ok.ret ⟨rfl, rfl⟩)
      obtain ⟨k, hk, rfl⟩ := nI_of c0
      rw [nI_leP (by omega) (by omega)]
      exact Nat.le_of_not_lt (fun q => hb ⟨k, q, rfl⟩)
    · refine Ok.eq ?_
      unfold FX12_octet
      refine Ok.rdE h2.1 (Ok.bd (fun r u => σ = u ∧ r = 0) (e_in (fun g1 g2 => absurd ?_ hb) (fun _ => ⟨rfl, rfl⟩)) ?_)
      · rw [in0, Int32.toInt_toInt64] at g1
        have c0 : ¬ a < 0 := by
          rw [Int32.lt_iff_toInt_lt, show (0 : Int32).toInt = 0 by decide]
          omega
        obtain ⟨k, hk, rfl⟩ := nI_of c0
        refine ⟨k, ?_, rfl⟩
        rw [Int32.toInt_toInt64, nI_toInt (by omega), Int32.toInt_toInt64] at g2
        by_cases z : l.length = 0
        · rw [z] at g2
          have : (nI 0 - 1).toInt = -1 := by decide
          omega
        · rw [nI_s1 (by omega), nI_toInt (by omega)] at g2
          omega
      · rintro _ _ ⟨rfl, rfl⟩
        exact Ok.ifT rfl (Ok.ret ⟨rfl, rfl⟩)
theorem q_filled {K : Nat → Nat → V4} {m : Nat} {t : St} (hG : GK K m) (hC : CST K m t) : FX11_filledSlots t = some (nI (mkm 3 (fun s => decide (0 < (K m s).1))), t) := by
  refine Ok.eq ?_
  unfold FX11_filledSlots
  refine Ok.bq (a := nI (mkm 3 (fun s => decide (0 < (K m s).1)))) (t := t) (wq0 3 (fun j => (nI (mkm j (fun s => decide (0 < (K m s).1))), nI j)) rfl (fun j hj => ?_) ?_) (Ok.ret ⟨rfl, rfl⟩)
  · unfold SX11_filledSlots_4
    dsimp only
    have hn : (K m j).1 < 10 := (hG.2 m (Nat.le_refl _) j hj).1.1
    rw [el10 hj]
    refine Ok.ifF (by rw [li_3, nI_leP (by omega) (by omega)]; omega) (Ok.ckT (inb_n hj (by omega)) (Ok.ckT (n_sl hj) (Ok.rdE (hC.1 j hj).1.1 ?_)))
    refine Ok.bq (a := nI (mkm (j + 1) (fun s => decide (0 < (K m s).1)))) (t := t) (Ok.eq ?_) (Ok.ret ⟨rfl, by rw [nI_1]⟩)
    show Ok _ (fun r u => t = u ∧ r = nI (mkm j (fun s => decide (0 < (K m s).1)) ||| (if decide (0 < (K m j).1) = true then 2 ^ j else 0)))
    refine Ok.cv (nI_leP (b := 0) (by omega) (by omega)) (Ok.ite (fun c => Ok.ret ⟨rfl, ?_⟩) (fun c => Ok.ret ⟨rfl, ?_⟩))
    · rw [if_neg (fun q => by have := of_decide_eq_true q; omega), Nat.or_zero]
    · rw [if_pos (decide_eq_true (by omega)), li_1, shl_1b (by omega), nI_or]
  · unfold SX11_filledSlots_4
    dsimp only
    exact Ok.ifT (by decide) (Ok.ret ⟨rfl, rfl⟩)
theorem q_filledM {K : Nat → Nat → V4} {m : Nat} {t : St} {a : Int32} (hG : GK K m) (hM : MST K m t) : wh (SX12_count_4 a) ((0 : Int32), (0 : Int32)) t = some (nI (mkm 3 (fun s => decide (0 < (K m s).1))), t) := by
  refine wq0 3 (fun j => (nI (mkm j (fun s => decide (0 < (K m s).1))), nI j)) rfl (fun j hj => ?_) ?_
  · unfold SX12_count_4
    dsimp only
    have hn : (K m j).1 < 10 := (hG.2 m (Nat.le_refl _) j hj).1.1
    refine Ok.ifF (by rw [li_3, nI_leP (by omega) (by omega)]; omega) (Ok.bq (g_isNet hj hn (hM.2.1.rn hj)) ?_)
    refine Ok.bq (a := nI (if decide (0 < (K m j).1) = true then 2 ^ j else 0)) (t := t) (Ok.eq ?_) (Ok.ret ⟨rfl, ?_⟩)
    · by_cases c : (K m j).1 = 0
      · rw [if_pos c, if_neg (c := decide (0 < (K m j).1) = true) (fun q => by have := of_decide_eq_true q; omega)]
        exact Ok.ifT rfl (Ok.ret ⟨rfl, rfl⟩)
      · rw [if_neg c, if_pos (c := decide (0 < (K m j).1) = true) (decide_eq_true (by omega))]
        exact Ok.ifF (by decide) (Ok.ret ⟨rfl, by rw [li_1, shl_1b (by omega)]⟩)
    · rw [nI_or, nI_1]
      rfl
  · unfold SX12_count_4
    dsimp only
    exact Ok.ifT (by decide) (Ok.ret ⟨rfl, rfl⟩)
theorem z3_count {σ : St} (hI : INV3 σ) (a : Int32) : BOTH (FX11_count a σ) (fun u => FX12_count a u) := by
  obtain ⟨⟨hI1, ⟨k, bt, hCT, hMT⟩, -, -⟩, ⟨K, m, hG, hC, hM⟩, hF, l, hl, o1, o2⟩ := id hI
  have key : ∀ v : Int32, FX11_count a σ = some (v, σ) → FX12_count a σ = some (v, σ) → BOTH (FX11_count a σ) (fun u => FX12_count a u) := fun v h1 h2 => BOTH.no hI h1 h2
  by_cases c0 : a = 0
  · refine key (nI (mkm 3 (fun s => decide (0 < (K m s).1)))) (Ok.eq ?_) (Ok.eq ?_)
    · unfold FX11_count
      exact Ok.ifT c0 (Ok.bq (q_filled hG hC) (Ok.ret ⟨rfl, rfl⟩))
    · unfold FX12_count
      exact Ok.bq (q_filledM hG hM) (Ok.ifT c0 (Ok.ret ⟨rfl, rfl⟩))
  by_cases c1 : a = 1
  · refine key (nI m) (Ok.eq ?_) (Ok.eq ?_)
    · unfold FX11_count
      exact Ok.ifF c0 (Ok.ifT c1 (Ok.rdE hC.2.1 (Ok.ret ⟨rfl, rfl⟩)))
    · unfold FX12_count
      exact Ok.bq (q_filledM hG hM) (Ok.ifF c0 (Ok.ifT c1 (Ok.rdE hM.1 (Ok.ret ⟨rfl, rfl⟩))))
  by_cases c2 : a = 2
  · refine key (nI k) (Ok.eq ?_) (Ok.eq ?_)
    · unfold FX11_count
      exact Ok.ifF c0 (Ok.ifF c1 (Ok.ifT c2 (Ok.rdE hCT.2.1 (Ok.ret ⟨rfl, rfl⟩))))
    · unfold FX12_count
      exact Ok.bq (q_filledM hG hM) (Ok.ifF c0 (Ok.ifF c1 (Ok.ifT c2 (Ok.rdE hMT.2.1 (Ok.ret ⟨rfl, rfl⟩)))))
  by_cases c3 : a = 3
  · refine key (nI l.length) (Ok.eq ?_) (Ok.eq ?_)
    · unfold FX11_count
      exact Ok.ifF c0 (Ok.ifF c1 (Ok.ifF c2 (Ok.ifT c3 (Ok.rdE o1.1 (Ok.ret ⟨rfl, rfl⟩)))))
    · unfold FX12_count
      exact Ok.bq (q_filledM hG hM) (Ok.ifF c0 (Ok.ifF c1 (Ok.ifF c2 (Ok.ifT c3 (Ok.rdE o2.1 (Ok.ret ⟨rfl, rfl⟩))))))
  · refine key (-1) (Ok.eq ?_) (Ok.eq ?_)
    · unfold FX11_count
      exact Ok.ifF c0 (Ok.ifF c1 (Ok.ifF c2 (Ok.ifF c3 (Ok.ret ⟨rfl, rfl⟩))))
    · unfold FX12_count
      exact Ok.bq (q_filledM hG hM) (Ok.ifF c0 (Ok.ifF c1 (Ok.ifF c2 (Ok.ifF c3 (Ok.ret ⟨rfl, rfl⟩)))))
