section
/-! between two calls: places hold what they may, rows of the reference are rows, both tapes hold as much (wip/ext/g46.py) -/
def INV (t : St) : Prop := TY t ∧ PI t ∧ ∃ k, k < 401 ∧ t 1 1 = nI k ∧ t 149 5 = nI k
theorem INV.ro {σ u : St} (h : INV σ) (e : σ = u) : INV u := e ▸ h
theorem INV.gc {σ u : St} (h : INV σ) (g : GC σ u) : INV u := by
  obtain ⟨-, hp, k, hk, e1, e2⟩ := h
  refine ⟨g.1, ?_, k, hk, ?_, ?_⟩
  · unfold PI
    rw [g.2 150 (by omega), g.2 151 (by omega), g.2 152 (by omega)]
    exact hp
  · rw [g.2 1 (by omega)]; exact e1
  · rw [g.2 149 (by omega)]; exact e2
theorem INV.gm {σ u : St} (h : INV σ) (g : GM σ u) : INV u := by
  obtain ⟨-, -, k, hk, e1, e2⟩ := h
  refine ⟨g.1, g.2.2.2, k, hk, ?_, ?_⟩
  · rw [g.2.1 1 (by omega)]; exact e1
  · rw [g.2.2.1]; exact e2
theorem INV.mm {σ : St} (h : INV σ) : GM σ σ := ⟨h.1, fun _ _ => rfl, rfl, h.2.1⟩
theorem PI.al {t u : St} (h : PI t) (e : ∀ b, 150 ≤ b → b < 153 → u b = t b) : PI u := by
  unfold PI
  rw [e 150 (by omega) (by omega), e 151 (by omega) (by omega), e 152 (by omega) (by omega)]
  exact h
theorem s_feed {σ : St} (hI : INV σ) (a b c d e : Int32) : Ok (FX11_feed a b c d e σ) (fun r u => Ok (FX12_feed a b c d e u) (fun r2 w => INV w ∧ r = r2)) := by
  obtain ⟨hT, hP, k, hk, e1, e2⟩ := hI
  refine (gX11_feed hT e1 hk).mono ?_
  rintro r u (⟨h1, rfl, rfl⟩ | ⟨h1, rfl, hu⟩)
  · refine (nX12_feed hT hP e2 hk).mono ?_
    rintro r2 w (⟨-, rfl, rfl⟩ | ⟨h2, -⟩)
    · exact ⟨⟨hT, hP, k, hk, e1, e2⟩, rfl⟩
    · omega
  · have e3 : u 149 5 = nI k := by rw [hu.2.1 149 (by decide) (by decide)]; exact e2
    refine (nX12_feed hu.1 (hP.al (fun b h _ => hu.2.1 b (by omega) (by omega))) e3 hk).mono ?_
    rintro r2 w (⟨h2, -⟩ | ⟨-, rfl, hw, ho, hq, e5⟩)
    · omega
    · exact ⟨⟨hw, hq, k + 20, by omega, by rw [ho 1 (by omega)]; exact hu.2.2, e5⟩, rfl⟩
theorem s_end {σ : St} (hI : INV σ) (a : Int32) : Ok (FX11_end a σ) (fun r u => Ok (FX12_end a u) (fun r2 w => INV w ∧ r = r2)) := by
  obtain ⟨hT, hP, k, hk, e1, e2⟩ := hI
  refine (gX11_end hT e1 hk).mono ?_
  rintro r u (⟨rfl, rfl, hn⟩ | ⟨rfl, j, hj, rfl, hu⟩)
  · refine (nX12_end (INV.mm ⟨hT, hP, k, hk, e1, e2⟩)).mono ?_
    rintro r2 w (⟨rfl, rfl, -⟩ | ⟨rfl, hy, -⟩)
    · exact ⟨⟨hT, hP, k, hk, e1, e2⟩, rfl⟩
    · rw [e2, nI_toInt (by omega)] at hy
      exact absurd hy hn
  · have e3 : u 149 5 = nI k := by rw [hu.2.1 149 (by decide) (by decide)]; exact e2
    have hPu : PI u := hP.al (fun b h _ => hu.2.1 b (by omega) (by omega))
    refine (nX12_end (σ := u) ⟨hu.1, fun _ _ => rfl, rfl, hPu⟩).mono ?_
    rintro r2 w (⟨-, -, hn⟩ | ⟨rfl, hy, g⟩)
    · rw [e3, nI_toInt (by omega), nI_toInt (by omega)] at hn
      omega
    · refine ⟨⟨g.1, g.2.2.2, j, by omega, ?_, ?_⟩, rfl⟩
      · rw [g.2.1 1 (by omega), wr_off 1 (by decide)]; exact hu.2.2
      · rw [g.2.2.1, wr_at, pk_us]
theorem s_told {σ : St} (hI : INV σ) (a : Int32) : Ok (FX11_told a σ) (fun r u => Ok (FX12_told a u) (fun r2 w => INV w)) := by
  refine (gX11_told (GC.refl hI.1)).mono ?_
  rintro r u (⟨h1, rfl⟩ | ⟨h1, g⟩)
  · refine (nX12_told hI.mm).mono ?_
    rintro r2 w (⟨-, rfl⟩ | ⟨h2, -⟩)
    · exact hI
    · exact absurd h2 h1
  · have hPu : PI u := hI.2.1.al (fun b h _ => by rw [g.2 b (by omega), wr_off b (by omega)])
    refine (nX12_told (σ := u) ⟨g.1, fun _ _ => rfl, rfl, hPu⟩).mono ?_
    rintro r2 w (⟨h2, -⟩ | ⟨-, g2⟩)
    · exact absurd h1 h2
    · refine ⟨g2.1, g2.2.2.2, 0, by omega, ?_, ?_⟩
      · rw [g2.2.1 1 (by omega), wr_off 1 (by decide), g.2 1 (by omega), wr_at, pk_us]; rfl
      · rw [g2.2.2.1, wr_at, pk_us]; rfl
theorem s_fault {σ : St} (hI : INV σ) (a : Int32) : Ok (FX11_fault a σ) (fun r u => Ok (FX12_fault a u) (fun r2 w => INV w)) := by
  refine (rX11_fault hI.1 (a := a)).mono ?_
  rintro r u ⟨q, -⟩
  have hu : INV u := hI.ro q
  exact (rX12_fault hu.1 (a := a)).mono (fun _ _ q2 => hu.ro q2.1)
theorem s_count {σ : St} (hI : INV σ) (a : Int32) : Ok (FX11_count a σ) (fun r u => Ok (FX12_count a u) (fun r2 w => INV w)) := by
  refine (rX11_count hI.1 (a := a)).mono ?_
  rintro r u ⟨q, -⟩
  have hu : INV u := hI.ro q
  exact (rX12_count hu.1 (a := a)).mono (fun _ _ q2 => hu.ro q2.1)
theorem s_look {σ : St} (hI : INV σ) (a b : Int32) : Ok (FX11_look a b σ) (fun r u => Ok (FX12_look a b u) (fun r2 w => INV w)) := by
  refine (rX11_look hI.1 (a := a) (b := b)).mono ?_
  rintro r u ⟨q, -⟩
  have hu : INV u := hI.ro q
  exact (rX12_look hu.1 (a := a) (b := b)).mono (fun _ _ q2 => hu.ro q2.1)
theorem s_near {σ : St} (hI : INV σ) (a b : Int32) : Ok (FX11_near a b σ) (fun r u => Ok (FX12_near a b u) (fun r2 w => INV w)) := by
  refine (rX11_near hI.1 (a := a) (b := b)).mono ?_
  rintro r u ⟨q, -⟩
  have hu : INV u := hI.ro q
  exact (rX12_near hu.1 (a := a) (b := b)).mono (fun _ _ q2 => hu.ro q2.1)
theorem s_line {σ : St} (hI : INV σ) (a b c : Int32) : Ok (FX11_line a b c σ) (fun r u => Ok (FX12_line a b c u) (fun r2 w => INV w)) := by
  refine (rX11_line hI.1 (a := a) (b := b) (c := c)).mono ?_
  rintro r u ⟨q, -⟩
  have hu : INV u := hI.ro q
  exact (rX12_line hu.1 (a := a) (b := b) (c := c)).mono (fun _ _ q2 => hu.ro q2.1)
theorem s_far {σ : St} (hI : INV σ) (a b c : Int32) : Ok (FX11_far a b c σ) (fun r u => Ok (FX12_far a b c u) (fun r2 w => INV w)) := by
  refine (rX11_far hI.1 (a := a) (b := b) (c := c)).mono ?_
  rintro r u ⟨q, -⟩
  have hu : INV u := hI.ro q
  exact (rX12_far hu.1 (a := a) (b := b) (c := c)).mono (fun _ _ q2 => hu.ro q2.1)
theorem s_row {σ : St} (hI : INV σ) (a b : Int32) : Ok (FX11_row a b σ) (fun r u => Ok (FX12_row a b u) (fun r2 w => INV w)) := by
  refine (rX11_row hI.1 (a := a) (b := b)).mono ?_
  rintro r u ⟨q, -⟩
  have hu : INV u := hI.ro q
  exact (rX12_row hu.1 (a := a) (b := b)).mono (fun _ _ q2 => hu.ro q2.1)
theorem s_place {σ : St} (hI : INV σ) (a b : Int32) : Ok (FX11_place a b σ) (fun r u => Ok (FX12_place a b u) (fun r2 w => INV w)) := by
  refine (rX11_place hI.1 (a := a) (b := b)).mono ?_
  rintro r u ⟨q, -⟩
  have hu : INV u := hI.ro q
  exact (rX12_place hu.1 (h_pe := hu.2.1.1) (a := a) (b := b)).mono (fun _ _ q2 => hu.ro q2.1)
theorem s_value {σ : St} (hI : INV σ) (a b : Int32) : Ok (FX11_value a b σ) (fun r u => Ok (FX12_value a b u) (fun r2 w => INV w)) := by
  refine (rX11_value hI.1 (a := a) (b := b)).mono ?_
  rintro r u ⟨q, -⟩
  have hu : INV u := hI.ro q
  exact (nX12_value hu.mm (a := a) (b := b)).mono (fun _ _ q2 => hu.gm q2.1)
theorem s_price {σ : St} (hI : INV σ) (a b c : Int32) : Ok (FX11_price a b c σ) (fun r u => Ok (FX12_price a b c u) (fun r2 w => INV w)) := by
  refine (rX11_price hI.1 (a := a) (b := b) (c := c)).mono ?_
  rintro r u ⟨q, -⟩
  have hu : INV u := hI.ro q
  exact (rX12_price hu.1 (a := a) (b := b) (c := c)).mono (fun _ _ q2 => hu.ro q2.1)
theorem s_worst {σ : St} (hI : INV σ) (a b : Int32) : Ok (FX11_worst a b σ) (fun r u => Ok (FX12_worst a b u) (fun r2 w => INV w)) := by
  refine (rX11_worst hI.1 (a := a) (b := b)).mono ?_
  rintro r u ⟨q, -⟩
  have hu : INV u := hI.ro q
  exact (rX12_worst hu.1 (a := a) (b := b)).mono (fun _ _ q2 => hu.ro q2.1)
theorem s_longest {σ : St} (hI : INV σ) (a : Int32) : Ok (FX11_longest a σ) (fun r u => Ok (FX12_longest a u) (fun r2 w => INV w)) := by
  refine (rX11_longest hI.1 (a := a)).mono ?_
  rintro r u ⟨q, -⟩
  have hu : INV u := hI.ro q
  exact (rX12_longest hu.1 (hpe := hu.2.1.1) (a := a)).mono (fun _ _ q2 => hu.ro q2.1)
theorem s_least {σ : St} (hI : INV σ) (a b : Int32) : Ok (FX11_least a b σ) (fun r u => Ok (FX12_least a b u) (fun r2 w => INV w)) := by
  refine (gX11_least (GC.refl hI.1) (a := a) (b := b)).mono ?_
  rintro r u ⟨q, -⟩
  have hu : INV u := hI.gc q
  exact (nX12_least hu.mm (a := a) (b := b)).mono (fun _ _ q2 => hu.gm q2.1)
theorem s_best {σ : St} (hI : INV σ) (a b c : Int32) : Ok (FX11_best a b c σ) (fun r u => Ok (FX12_best a b c u) (fun r2 w => INV w)) := by
  refine (gX11_best (GC.refl hI.1) (a := a) (b := b) (c := c)).mono ?_
  rintro r u ⟨q, -⟩
  have hu : INV u := hI.gc q
  exact (nX12_best hu.mm (a := a) (b := b) (c := c)).mono (fun _ _ q2 => hu.gm q2.1)
theorem s_ways {σ : St} (hI : INV σ) (a b : Int32) : Ok (FX11_ways a b σ) (fun r u => Ok (FX12_ways a b u) (fun r2 w => INV w)) := by
  refine (gX11_ways (GC.refl hI.1) (a := a) (b := b)).mono ?_
  rintro r u ⟨q, -⟩
  have hu : INV u := hI.gc q
  exact (nX12_ways hu.mm (a := a) (b := b)).mono (fun _ _ q2 => hu.gm q2.1)
theorem s_within {σ : St} (hI : INV σ) (a b c : Int32) : Ok (FX11_within a b c σ) (fun r u => Ok (FX12_within a b c u) (fun r2 w => INV w)) := by
  refine (gX11_within (GC.refl hI.1) (a := a) (b := b) (c := c)).mono ?_
  rintro r u ⟨q, -⟩
  have hu : INV u := hI.gc q
  exact (nX12_within hu.mm (a := a) (b := b) (c := c)).mono (fun _ _ q2 => hu.gm q2.1)
theorem s_firsts {σ : St} (hI : INV σ) (a b : Int32) : Ok (FX11_firsts a b σ) (fun r u => Ok (FX12_firsts a b u) (fun r2 w => INV w)) := by
  refine (gX11_firsts (GC.refl hI.1) (a := a) (b := b)).mono ?_
  rintro r u ⟨q, -⟩
  have hu : INV u := hI.gc q
  exact (nX12_firsts hu.mm (a := a) (b := b)).mono (fun _ _ q2 => hu.gm q2.1)
theorem s_bound {σ : St} (hI : INV σ) (a b c : Int32) : Ok (FX11_bound a b c σ) (fun r u => Ok (FX12_bound a b c u) (fun r2 w => INV w)) := by
  refine (rX11_bound hI.1 (a := a) (b := b) (c := c)).mono ?_
  rintro r u ⟨q, -⟩
  have hu : INV u := hI.ro q
  exact (rX12_bound hu.1 (a := a) (b := b) (c := c)).mono (fun _ _ q2 => hu.ro q2.1)
theorem s_minor {σ : St} (hI : INV σ) (a : Int32) : Ok (FX11_minor a σ) (fun r u => Ok (FX12_minor a u) (fun r2 w => INV w)) := by
  refine (gX11_minor (GC.refl hI.1) (a := a)).mono ?_
  rintro r u ⟨q, -⟩
  have hu : INV u := hI.gc q
  exact (nX12_minor hu.mm (a := a)).mono (fun _ _ q2 => hu.gm q2.1)
theorem s_among {σ : St} (hI : INV σ) (a b c : Int32) : Ok (FX11_among a b c σ) (fun r u => Ok (FX12_among a b c u) (fun r2 w => INV w)) := by
  refine (gX11_among (GC.refl hI.1) (a := a) (b := b) (c := c)).mono ?_
  rintro r u ⟨q, -⟩
  have hu : INV u := hI.gc q
  exact (nX12_among hu.mm (a := a) (b := b) (c := c)).mono (fun _ _ q2 => hu.gm q2.1)
theorem s_split {σ : St} (hI : INV σ) (a b c : Int32) : Ok (FX11_split a b c σ) (fun r u => Ok (FX12_split a b c u) (fun r2 w => INV w)) := by
  refine (rX11_split hI.1 (a := a) (b := b) (c := c)).mono ?_
  rintro r u ⟨q, -⟩
  have hu : INV u := hI.ro q
  exact (rX12_split hu.1 (a := a) (b := b) (c := c)).mono (fun _ _ q2 => hu.ro q2.1)
theorem s_halve {σ : St} (hI : INV σ) (a : Int32) : Ok (FX11_halve a σ) (fun r u => Ok (FX12_halve a u) (fun r2 w => INV w)) := by
  refine (rX11_halve hI.1 (a := a)).mono ?_
  rintro r u ⟨q, -⟩
  have hu : INV u := hI.ro q
  exact (rX12_halve hu.1 (a := a)).mono (fun _ _ q2 => hu.ro q2.1)
theorem s_bag {σ : St} (hI : INV σ) (a b c : Int32) : Ok (FX11_bag a b c σ) (fun r u => Ok (FX12_bag a b c u) (fun r2 w => INV w)) := by
  refine (rX11_bag hI.1 (a := a) (b := b) (c := c)).mono ?_
  rintro r u ⟨q, -⟩
  have hu : INV u := hI.ro q
  exact (rX12_bag hu.1 (a := a) (b := b) (c := c)).mono (fun _ _ q2 => hu.ro q2.1)
theorem s_filled {σ : St} (hI : INV σ) (a b : Int32) : Ok (FX11_filled a b σ) (fun r u => Ok (FX12_filled a b u) (fun r2 w => INV w)) := by
  refine (rX11_filled hI.1 (a := a) (b := b)).mono ?_
  rintro r u ⟨q, -⟩
  have hu : INV u := hI.ro q
  exact (rX12_filled hu.1 (a := a) (b := b)).mono (fun _ _ q2 => hu.ro q2.1)
theorem s_gain {σ : St} (hI : INV σ) (a b c d : Int32) : Ok (FX11_gain a b c d σ) (fun r u => Ok (FX12_gain a b c d u) (fun r2 w => INV w)) := by
  refine (gX11_gain (GC.refl hI.1) (a := a) (b := b) (c := c) (d := d)).mono ?_
  rintro r u ⟨q, -⟩
  have hu : INV u := hI.gc q
  exact (nX12_gain hu.mm (a := a) (b := b) (c := c) (d := d)).mono (fun _ _ q2 => hu.gm q2.1)
theorem s_swaps {σ : St} (hI : INV σ) (a b c : Int32) : Ok (FX11_swaps a b c σ) (fun r u => Ok (FX12_swaps a b c u) (fun r2 w => INV w)) := by
  refine (gX11_swaps (GC.refl hI.1) (a := a) (b := b) (c := c)).mono ?_
  rintro r u ⟨q, -⟩
  have hu : INV u := hI.gc q
  exact (nX12_swaps hu.mm (a := a) (b := b) (c := c)).mono (fun _ _ q2 => hu.gm q2.1)
theorem s_moves {σ : St} (hI : INV σ) (a b c : Int32) : Ok (FX11_moves a b c σ) (fun r u => Ok (FX12_moves a b c u) (fun r2 w => INV w)) := by
  refine (gX11_moves (GC.refl hI.1) (a := a) (b := b) (c := c)).mono ?_
  rintro r u ⟨q, -⟩
  have hu : INV u := hI.gc q
  exact (nX12_moves hu.mm (a := a) (b := b) (c := c)).mono (fun _ _ q2 => hu.gm q2.1)
theorem s_reverse {σ : St} (hI : INV σ) (a : Int32) : Ok (FX11_reverse a σ) (fun r u => Ok (FX12_reverse a u) (fun r2 w => INV w)) := by
  refine (gX11_reverse (GC.refl hI.1) (a := a)).mono ?_
  rintro r u ⟨q, -⟩
  have hu : INV u := hI.gc q
  exact (nX12_reverse hu.mm (a := a)).mono (fun _ _ q2 => hu.gm q2.1)
theorem s_takes {σ : St} (hI : INV σ) (a b : Int32) : Ok (FX11_takes a b σ) (fun r u => Ok (FX12_takes a b u) (fun r2 w => INV w)) := by
  refine (gX11_takes (GC.refl hI.1) (a := a) (b := b)).mono ?_
  rintro r u ⟨q, -⟩
  have hu : INV u := hI.gc q
  exact (nX12_takes hu.mm (a := a) (b := b)).mono (fun _ _ q2 => hu.gm q2.1)
theorem s_polish {σ : St} (hI : INV σ) (a b : Int32) : Ok (FX11_polish a b σ) (fun r u => Ok (FX12_polish a b u) (fun r2 w => INV w)) := by
  refine (gX11_polish (GC.refl hI.1) (a := a) (b := b)).mono ?_
  rintro r u ⟨q, -⟩
  have hu : INV u := hI.gc q
  exact (nX12_polish hu.mm (a := a) (b := b)).mono (fun _ _ q2 => hu.gm q2.1)
theorem s_polished {σ : St} (hI : INV σ) (a b : Int32) : Ok (FX11_polished a b σ) (fun r u => Ok (FX12_polished a b u) (fun r2 w => INV w)) := by
  refine (gX11_polished (GC.refl hI.1) (a := a) (b := b)).mono ?_
  rintro r u ⟨q, -⟩
  have hu : INV u := hI.gc q
  exact (nX12_polished hu.mm (a := a) (b := b)).mono (fun _ _ q2 => hu.gm q2.1)
theorem s_greedy {σ : St} (hI : INV σ) (a b : Int32) : Ok (FX11_greedy a b σ) (fun r u => Ok (FX12_greedy a b u) (fun r2 w => INV w)) := by
  refine (gX11_greedy (GC.refl hI.1) (a := a) (b := b)).mono ?_
  rintro r u ⟨q, -⟩
  have hu : INV u := hI.gc q
  exact (nX12_greedy hu.mm (a := a) (b := b)).mono (fun _ _ q2 => hu.gm q2.1)
theorem s_layers {σ : St} (hI : INV σ) (a b : Int32) : Ok (FX11_layers a b σ) (fun r u => Ok (FX12_layers a b u) (fun r2 w => INV w)) := by
  refine (gX11_layers (GC.refl hI.1) (a := a) (b := b)).mono ?_
  rintro r u ⟨q, -⟩
  have hu : INV u := hI.gc q
  exact (nX12_layers hu.mm (a := a) (b := b)).mono (fun _ _ q2 => hu.gm q2.1)
theorem s_adds {σ : St} (hI : INV σ) (a b c d : Int32) : Ok (FX11_adds a b c d σ) (fun r u => Ok (FX12_adds a b c d u) (fun r2 w => INV w)) := by
  refine (gX11_adds (GC.refl hI.1) (a := a) (b := b) (c := c) (d := d)).mono ?_
  rintro r u ⟨q, -⟩
  have hu : INV u := hI.gc q
  exact (nX12_adds hu.mm (a := a) (b := b) (c := c) (d := d)).mono (fun _ _ q2 => hu.gm q2.1)
theorem s_cuts {σ : St} (hI : INV σ) (a b c : Int32) : Ok (FX11_cuts a b c σ) (fun r u => Ok (FX12_cuts a b c u) (fun r2 w => INV w)) := by
  refine (gX11_cuts (GC.refl hI.1) (a := a) (b := b) (c := c)).mono ?_
  rintro r u ⟨q, -⟩
  have hu : INV u := hI.gc q
  exact (nX12_cuts hu.mm (a := a) (b := b) (c := c)).mono (fun _ _ q2 => hu.gm q2.1)
theorem s_merges {σ : St} (hI : INV σ) (a b c : Int32) : Ok (FX11_merges a b c σ) (fun r u => Ok (FX12_merges a b c u) (fun r2 w => INV w)) := by
  refine (gX11_merges (GC.refl hI.1) (a := a) (b := b) (c := c)).mono ?_
  rintro r u ⟨q, -⟩
  have hu : INV u := hI.gc q
  exact (nX12_merges hu.mm (a := a) (b := b) (c := c)).mono (fun _ _ q2 => hu.gm q2.1)
theorem s_drops {σ : St} (hI : INV σ) (a : Int32) : Ok (FX11_drops a σ) (fun r u => Ok (FX12_drops a u) (fun r2 w => INV w)) := by
  refine (gX11_drops (GC.refl hI.1) (a := a)).mono ?_
  rintro r u ⟨q, -⟩
  have hu : INV u := hI.gc q
  exact (nX12_drops hu.mm (a := a)).mono (fun _ _ q2 => hu.gm q2.1)
theorem s_undo {σ : St} (hI : INV σ) : Ok (FX11_undo σ) (fun r u => Ok (FX12_undo u) (fun r2 w => INV w)) := by
  refine (gX11_undo (GC.refl hI.1)).mono ?_
  rintro r u ⟨q, -⟩
  have hu : INV u := hI.gc q
  exact (nX12_undo hu.mm).mono (fun _ _ q2 => hu.gm q2.1)
theorem s_tell {σ : St} (hI : INV σ) (a b : Int32) : Ok (FX11_tell a b σ) (fun r u => Ok (FX12_tell a b u) (fun r2 w => INV w)) := by
  refine (gX11_tell (GC.refl hI.1) (a := a) (b := b)).mono ?_
  rintro r u ⟨q, -⟩
  have hu : INV u := hI.gc q
  exact (nX12_tell hu.mm (a := a) (b := b)).mono (fun _ _ q2 => hu.gm q2.1)
theorem s_octet {σ : St} (hI : INV σ) (a : Int32) : Ok (FX11_octet a σ) (fun r u => Ok (FX12_octet a u) (fun r2 w => INV w)) := by
  refine (rX11_octet hI.1 (a := a)).mono ?_
  rintro r u ⟨q, -⟩
  have hu : INV u := hI.ro q
  exact (rX12_octet hu.1 (a := a)).mono (fun _ _ q2 => hu.ro q2.1)
end
section
/-! exact steps: bits, sums, sets as numbers -/
theorem Ok.and {α : Type} {m : Option (α × St)} {Q R : α → St → Prop} (h : Ok m Q) (k : Ok m R) : Ok m (fun v s => Q v s ∧ R v s) := by
  obtain ⟨v, s, h1, h2⟩ := h
  obtain ⟨w, t, h3, h4⟩ := k
  rw [h1] at h3
  obtain ⟨rfl, rfl⟩ := some_pair h3
  exact ⟨v, s, h1, h2, h4⟩
theorem Ok.out {α : Type} {m : Option (α × St)} {Q : α → St → Prop} {v : α} {s : St} (h : Ok m Q) (e : m = some (v, s)) : Q v s := by
  obtain ⟨w, t, h1, h2⟩ := h
  rw [e] at h1
  obtain ⟨rfl, rfl⟩ := some_pair h1
  exact h2
theorem Ok.rdE {α : Type} {σ : St} {a i : Nat} {x : Int32} {f : Int32 → Option (α × St)} {Q : α → St → Prop} (e : σ a i = x) (k : Ok (f x) Q) : Ok (rdb σ a i f) Q := by
  show Ok (f (σ a i)) Q
  rw [e]
  exact k
theorem Ok.ifT {α : Type} {c : Prop} [Decidable c] {x y : Option (α × St)} {Q : α → St → Prop} (h : c) (k : Ok x Q) : Ok (if c then x else y) Q := by rw [if_pos h]; exact k
theorem Ok.ifF {α : Type} {c : Prop} [Decidable c] {x y : Option (α × St)} {Q : α → St → Prop} (h : ¬ c) (k : Ok y Q) : Ok (if c then x else y) Q := by rw [if_neg h]; exact k
theorem Ok.cv {α : Type} {c d : Prop} [Decidable c] [Decidable d] {x y : Option (α × St)} {Q : α → St → Prop} (e : c = d) (h : Ok (if d then x else y) Q) : Ok (if c then x else y) Q := by
  by_cases q : d
  · rw [if_pos q] at h
    rw [if_pos (by rw [e]; exact q)]
    exact h
  · rw [if_neg q] at h
    rw [if_neg (by rw [e]; exact q)]
    exact h
theorem Ok.ckT {α : Type} {c : Bool} {m : Option (α × St)} {Q : α → St → Prop} (h : c = true) (k : Ok m Q) : Ok (chk c m) Q := by rw [h]; exact k
theorem OkwrE {α : Type} {σ : St} {a i : Nat} {v : Int32} {f : St → Option (α × St)} {Q : α → St → Prop} (k : Ok (f (wr σ a i v)) Q) : Ok (wrb σ a i v f) Q := k
/-- a loop that counts from i to n -/
theorem Ok.count {C R : Type} {f : C → St → Option ((C ⊕ R) × St)} {Q : R → St → Prop} (n : Nat) (I : Nat → C → St → Prop) (step : ∀ j c s, j < n → I j c s → Ok (f c s) (fun x t => Sum.elim (fun d => I (j + 1) d t) (fun r => Q r t) x)) (last : ∀ c s, I n c s → Ok (f c s) (fun x t => Sum.elim (fun _ => False) (fun r => Q r t) x)) {j : Nat} {c : C} {s : St} (hj : j ≤ n) (h : I j c s) : Ok (wh f c s) Q := by
  refine Ok.loop (fun k c s => ∃ j, j ≤ n ∧ k = n - j ∧ I j c s) ?_ (n - j) c s ⟨j, hj, rfl, h⟩
  rintro k c s ⟨j, hj, rfl, h⟩
  by_cases e : j < n
  · refine (step j c s e h).mono ?_
    rintro (d | r) t q
    · exact ⟨n - (j + 1), by omega, j + 1, by omega, rfl, q⟩
    · exact q
  · have : j = n := by omega
    subst this
    refine (last c s h).mono ?_
    rintro (d | r) t q
    · exact q.elim
    · exact q
theorem wrs {t : St} {a i : Nat} {v : Int32} : wr t a i v a i = v := by rw [wr_at, pk_us]
theorem wrn {t : St} {a i j : Nat} {v : Int32} (h : j ≠ i) : wr t a i v a j = t a j := by rw [wr_at, pk_un h]
theorem wrf {t : St} {a b i j : Nat} {v : Int32} (h : b ≠ a) : wr t a i v b j = t b j := by rw [wr_off b h]
/-! sums -/
def sm : Nat → (Nat → Nat) → Nat
  | 0, _ => 0
  | n + 1, f => sm n f + f n
theorem sm_congr {f g : Nat → Nat} : ∀ {n : Nat}, (∀ i, i < n → f i = g i) → sm n f = sm n g
  | 0, _ => rfl
  | n + 1, h => by
    show sm n f + f n = sm n g + g n
    rw [sm_congr (fun i hi => h i (by omega)), h n (by omega)]
theorem sm_zero {f : Nat → Nat} {n : Nat} (h : ∀ i, i < n → f i = 0) : sm n f = 0 := by
  induction n with
  | zero => rfl
  | succ n ih =>
    show sm n f + f n = 0
    rw [ih (fun i hi => h i (by omega)), h n (by omega)]
theorem sm_add {f g : Nat → Nat} : ∀ {n : Nat}, sm n (fun i => f i + g i) = sm n f + sm n g
  | 0 => rfl
  | n + 1 => by
    show sm n (fun i => f i + g i) + (f n + g n) = sm n f + f n + (sm n g + g n)
    rw [sm_add]
    omega
theorem sm_le {f : Nat → Nat} {b : Nat} : ∀ {n : Nat}, (∀ i, i < n → f i ≤ b) → sm n f ≤ n * b
  | 0, _ => by rw [Nat.zero_mul]; exact Nat.le_refl 0
  | n + 1, h => by
    have h1 := sm_le (f := f) (b := b) (n := n) (fun i hi => h i (by omega))
    have h2 := h n (by omega)
    have h3 : (n + 1) * b = n * b + b := Nat.succ_mul n b
    show sm n f + f n ≤ (n + 1) * b
    omega
theorem sm_mono {f g : Nat → Nat} : ∀ {n : Nat}, (∀ i, i < n → f i ≤ g i) → sm n f ≤ sm n g
  | 0, _ => Nat.le_refl 0
  | n + 1, h => by
    have h1 := sm_mono (f := f) (g := g) (n := n) (fun i hi => h i (by omega))
    have h2 := h n (by omega)
    show sm n f + f n ≤ sm n g + g n
    omega
theorem sm_one {f g : Nat → Nat} {a : Nat} : ∀ {n : Nat}, a < n → (∀ i, i < n → i ≠ a → f i = g i) → sm n f + g a = sm n g + f a
  | 0, h, _ => by omega
  | n + 1, h, k => by
    show sm n f + f n + g a = sm n g + g n + f a
    by_cases e : a = n
    · subst e
      rw [sm_congr (f := f) (g := g) (fun i hi => k i (by omega) (by omega))]
      omega
    · have h1 := sm_one (f := f) (g := g) (a := a) (n := n) (by omega) (fun i hi hn => k i (by omega) hn)
      have h2 := k n (by omega) (fun q => e q.symm)
      omega
theorem sm_swap {f : Nat → Nat → Nat} {m : Nat} : ∀ {n : Nat}, sm n (fun i => sm m (fun j => f i j)) = sm m (fun j => sm n (fun i => f i j))
  | 0 => (sm_zero (fun _ _ => rfl)).symm
  | n + 1 => by
    show sm n (fun i => sm m (fun j => f i j)) + sm m (fun j => f n j) = sm m (fun j => sm n (fun i => f i j) + f n j)
    rw [sm_add, sm_swap]
/-! sets as numbers -/
def mkm : Nat → (Nat → Bool) → Nat
  | 0, _ => 0
  | n + 1, P => mkm n P ||| (if P n = true then 2 ^ n else 0)
theorem mkm_lt {P : Nat → Bool} : ∀ {n : Nat}, mkm n P < 2 ^ n
  | 0 => Nat.lt_succ_self 0
  | n + 1 => by
    have h1 := mkm_lt (P := P) (n := n)
    have h2 : 2 ^ (n + 1) = 2 ^ n * 2 := Nat.pow_succ 2 n
    refine Nat.or_lt_two_pow (n := n + 1) (by omega) ?_
    by_cases h : P n = true
    · rw [if_pos h]; omega
    · rw [if_neg h]; omega
theorem mkm_bit {P : Nat → Bool} {k : Nat} : ∀ {n : Nat}, (mkm n P).testBit k = (decide (k < n) && P k)
  | 0 => by simp [mkm]
  | n + 1 => by
    show (mkm n P ||| (if P n = true then 2 ^ n else 0)).testBit k = _
    rw [Nat.testBit_or, mkm_bit]
    by_cases h : P n = true
    · rw [if_pos h, Nat.testBit_two_pow]
      by_cases e : k = n
      · subst e; simp [h]
      · have e2 : ¬ n = k := fun q => e q.symm
        by_cases e3 : k < n
        · have : k < n + 1 := by omega
          simp [e2, e3, this]
        · have : ¬ k < n + 1 := by omega
          simp [e2, e3, this]
    · rw [if_neg h, Nat.zero_testBit]
      by_cases e : k = n
      · subst e; simp [h]
      · by_cases e3 : k < n
        · have : k < n + 1 := by omega
          simp [e3, this]
        · have : ¬ k < n + 1 := by omega
          simp [e3, this]
theorem lt_pow_bit {a n k : Nat} (h : a < 2 ^ n) (hk : n ≤ k) : a.testBit k = false := Nat.testBit_lt_two_pow (Nat.lt_of_lt_of_le h (Nat.pow_le_pow_right (by decide) hk))
theorem bit_ext {a b n : Nat} (ha : a < 2 ^ n) (hb : b < 2 ^ n) (h : ∀ k, k < n → a.testBit k = b.testBit k) : a = b := by
  apply Nat.eq_of_testBit_eq
  intro k
  by_cases hk : k < n
  · exact h k hk
  · rw [lt_pow_bit ha (by omega), lt_pow_bit hb (by omega)]
theorem mkm_self {S n : Nat} (h : S < 2 ^ n) : mkm n (fun i => S.testBit i) = S := by
  refine bit_ext mkm_lt h (fun k hk => ?_)
  rw [mkm_bit]
  simp [hk]
theorem mkm_congr {P Q : Nat → Bool} {n : Nat} (h : ∀ i, i < n → P i = Q i) : mkm n P = mkm n Q := by
  refine bit_ext mkm_lt mkm_lt (fun k hk => ?_)
  rw [mkm_bit, mkm_bit, h k hk]
theorem bit_511 {k : Nat} : (511 : Nat).testBit k = decide (k < 9) := Nat.testBit_two_pow_sub_one (i := k) (n := 9)
/-- a without b -/
def dif (a b : Nat) : Nat := a &&& (b ^^^ 511)
theorem dif_bit {a b k : Nat} (ha : a < 512) : (dif a b).testBit k = (a.testBit k && !b.testBit k) := by
  unfold dif
  rw [Nat.testBit_and, Nat.testBit_xor, bit_511]
  by_cases h : k < 9
  · simp [h]
  · rw [lt_pow_bit (n := 9) ha (by omega)]
    simp
theorem dif_lt {a b : Nat} (ha : a < 512) : dif a b < 512 := and9 ha
theorem nI_dif {a b : Nat} (ha : a < 512) (hb : b < 512) : nI a &&& (nI b ^^^ -1) = nI (dif a b) := by
  have e : nI b ^^^ -1 = nI (b ^^^ 511) ||| nI 4294966784 := by
    apply Int32.toBitVec_inj.mp
    show BitVec.ofNat 32 b ^^^ 4294967295#32 = BitVec.ofNat 32 (b ^^^ 511) ||| 4294966784#32
    apply BitVec.eq_of_getLsbD_eq
    intro i hi
    rw [BitVec.getLsbD_xor, BitVec.getLsbD_or, BitVec.getLsbD_ofNat (x := b), BitVec.getLsbD_ofNat (x := b ^^^ 511), Nat.testBit_xor, bit_511]
    by_cases h : i < 9
    · have h1 : (4294967295#32).getLsbD i = true := (by decide : ∀ i, i < 9 → (4294967295#32).getLsbD i = true) i h
      have h2 : (4294966784#32).getLsbD i = false := (by decide : ∀ i, i < 9 → (4294966784#32).getLsbD i = false) i h
      rw [h1, h2]
      simp [hi, h]
    · have h1 : (4294967295#32).getLsbD i = true := (by decide : ∀ i, i < 32 → (4294967295#32).getLsbD i = true) i hi
      have h2 : (4294966784#32).getLsbD i = true := (by decide : ∀ i, i < 32 → ¬ i < 9 → (4294966784#32).getLsbD i = true) i hi h
      rw [h1, h2, lt_pow_bit (n := 9) hb (by omega)]
      simp [hi, h]
  rw [e, nI_or, nI_and]
  congr 1
  unfold dif
  apply Nat.eq_of_testBit_eq
  intro k
  rw [Nat.testBit_and, Nat.testBit_and, Nat.testBit_or]
  by_cases h : k < 9
  · have : (4294966784 : Nat).testBit k = false := (by decide : ∀ i, i < 9 → (4294966784 : Nat).testBit i = false) k h
    rw [this]
    simp
  · rw [lt_pow_bit (n := 9) ha (by omega)]
    simp
theorem or_lt {a b : Nat} (ha : a < 512) (hb : b < 512) : a ||| b < 512 := or9 ha hb
theorem pow_bit {q k : Nat} : (2 ^ q : Nat).testBit k = decide (q = k) := Nat.testBit_two_pow
theorem bitn {S j : Nat} (hS : S < 2147483648) (hj : j < 32) : (shr (nI S) (nI j) &&& 1 = 0) = (S.testBit j = false) := by
  rw [bit_n hS hj]
  cases S.testBit j
  · exact propext ⟨fun _ => rfl, fun _ => rfl⟩
  · exact propext ⟨fun h => absurd h (by decide), fun h => by cases h⟩
theorem bitn1 {S j : Nat} (hS : S < 2147483648) (hj : j < 32) : (shr (nI S) (nI j) &&& 1 = 1) = (S.testBit j = true) := by
  rw [bit_n hS hj]
  cases S.testBit j
  · exact propext ⟨fun h => absurd h (by decide), fun h => by cases h⟩
  · exact propext ⟨fun _ => rfl, fun _ => rfl⟩
/-- how many are in a set -/
theorem cnt_succ (S n : Nat) : cnt S (n + 1) = cnt S n + (if S.testBit n = true then 1 else 0) := by
  rw [cnt]
  cases S.testBit n <;> rfl
theorem cnt_sm (S : Nat) : ∀ n, cnt S n = sm n (fun i => if S.testBit i = true then 1 else 0)
  | 0 => rfl
  | n + 1 => by rw [cnt_succ, cnt_sm S n]; rfl
noncomputable def bcx (a : Int32) : Int32 := ((FJ6_bitCount_0f7a4 a (fun _ _ => 0)).map Prod.fst).getD 0
theorem bcx_e (a : Int32) (σ : St) : FJ6_bitCount_0f7a4 a σ = some (bcx a, σ) := rfl
theorem bcx_all : ∀ S, S < 512 → bcx (nI S) = nI (cnt S 9) := by decide +kernel
theorem e_bitCount {S : Nat} (hS : S < 512) {t : St} {Q : Int32 → St → Prop} (k : Q (nI (cnt S 9)) t) : Ok (FJ6_bitCount_0f7a4 (nI S) t) Q := by
  rw [bcx_e, bcx_all S hS]
  exact ⟨_, _, rfl, k⟩
/-- the lowest bit goes -/
theorem low_all : ∀ S, S < 512 → S ≠ 0 → (nI S &&& (nI S - 1) = nI (S &&& (S - 1))) ∧ cnt (S &&& (S - 1)) 9 + 1 = cnt S 9 ∧ S &&& (S - 1) < 512 := by decide +kernel
theorem cnt9_0 : ∀ S, S < 512 → cnt S 9 = 0 → S = 0 := by decide +kernel
theorem e_ones {S : Nat} (hS : S < 512) {t : St} {Q : Int32 → St → Prop} (k : Q (nI (cnt S 9)) t) : Ok (FX12_ones (nI S) t) Q := by
  unfold FX12_ones
  refine Ok.bd (fun r u => r = nI (cnt S 9) ∧ t = u) ?_ ?_
  · refine Ok.loop (fun j c s => t = s ∧ ∃ T, T < 512 ∧ j = cnt T 9 ∧ j ≤ cnt S 9 ∧ c = (nI (cnt S 9 - j), nI T)) ?_ (cnt S 9) _ _ ⟨rfl, S, hS, rfl, Nat.le_refl _, by rw [Nat.sub_self]; rfl⟩
    rintro j c s ⟨rfl, T, hT, rfl, hj, rfl⟩
    unfold SX12_ones_4
    dsimp only
    have hc9 : cnt S 9 ≤ 9 := cnt_le
    refine Ok.ite (fun c => Ok.ret ?_) (fun c => Ok.ret ?_)
    · rw [li_0, nI_eqP (by omega) (by omega)] at c
      subst c
      refine ⟨?_, rfl⟩
      rw [cnt_0, Nat.sub_zero]
    · rw [li_0, nI_eqP (by omega) (by omega)] at c
      obtain ⟨e1, e2, e3⟩ := low_all T hT c
      refine ⟨cnt (T &&& (T - 1)) 9, by omega, rfl, T &&& (T - 1), e3, rfl, by omega, ?_⟩
      rw [e1, nI_1]
      congr 2
      omega
  · rintro r u ⟨rfl, rfl⟩
    exact Ok.ret k
end
section
/-! the tape, byte by byte -/
theorem b8 (x : Int32) : x.toInt8.toInt32.toInt8.toInt32 &&& 255 = x &&& 255 := by
  apply Int32.toBitVec_inj.mp
  show ((((x.toBitVec.signExtend 8).signExtend 32).signExtend 8).signExtend 32) &&& 255#32 = x.toBitVec &&& 255#32
  apply BitVec.eq_of_getLsbD_eq
  intro i hi
  rw [BitVec.getLsbD_and, BitVec.getLsbD_and]
  by_cases h : i < 8
  · have h3 : i < 32 := hi
    rw [BitVec.getLsbD_signExtend, if_pos h, BitVec.getLsbD_signExtend, if_pos h3, BitVec.getLsbD_signExtend, if_pos h, BitVec.getLsbD_signExtend, if_pos h3]
    simp [h, h3]
  · have h2 : (255#32).getLsbD i = false := (by decide : ∀ i, i < 32 → ¬ i < 8 → (255#32).getLsbD i = false) i hi h
    rw [h2]
    simp
/-- both tapes hold the k bytes bt -/
def CT (k : Nat) (bt : Nat → Nat) (t : St) : Prop := k < 401 ∧ t 1 1 = nI k ∧ ∀ i, i < k → bt i < 256 ∧ t 2 i &&& 255 = nI (bt i)
def MT (k : Nat) (bt : Nat → Nat) (t : St) : Prop := k < 401 ∧ t 149 5 = nI k ∧ ∀ i, i < k → bt i < 256 ∧ t 153 i = nI (bt i)
theorem CT.fr {k : Nat} {bt : Nat → Nat} {t u : St} (h : CT k bt t) (e1 : u 1 = t 1) (e2 : u 2 = t 2) : CT k bt u := by
  unfold CT
  rw [e1, e2]
  exact h
theorem e_at {k : Nat} {bt : Nat → Nat} {t : St} (h : CT k bt t) {i : Nat} (hi : i < 1000) {Q : Int32 → St → Prop} (q1 : i < k → bt i < 256 → Q (nI (bt i)) t) (q2 : k ≤ i → Q (-1) t) : Ok (FX1_at_1 (nI i) t) Q := by
  obtain ⟨hk, e1, hb⟩ := h
  unfold FX1_at_1
  refine Ok.ifF (by rw [li_0, nI_ltP (by omega) (by omega)]; omega) (Ok.rdE e1 ?_)
  by_cases c : i < k
  · refine Ok.ifF (by rw [nI_leP (by omega) (by omega)]; omega) (Ok.ckT (inb_n (by omega) (by omega)) (Ok.rdE rfl ?_))
    rw [nI_cl (by omega), (hb i c).2]
    exact Ok.ret (q1 c (hb i c).1)
  · exact Ok.ifT (by rw [nI_leP (by omega) (by omega)]; omega) (Ok.ret (q2 (by omega)))
/-- byte i of twenty -/
def by20 (ff : Nat → Int32) (i : Nat) : Int32 := ushr (ff (i / 4)) (nI (24 - 8 * (i % 4))) &&& 255
theorem ushr_0 (x : Int32) : ushr x (nI 0) = x := by
  apply Int32.toBitVec_inj.mp
  show x.toBitVec >>> ((0 : BitVec 32) % 32#32) = x.toBitVec
  simp
theorem f_put {t u : St} {k : Nat} (ho : ∀ b, b ≠ 1 → b ≠ 2 → u b = t b) (e1 : u 1 1 = nI k) (hk : k < 400) {a : Int32} : Ok (FX1_put_1 a u) (fun _ w => (∀ b, b ≠ 1 → b ≠ 2 → w b = t b) ∧ w 1 1 = nI (k + 1) ∧ w 2 k &&& 255 = a &&& 255 ∧ ∀ i, i ≠ k → w 2 i = u 2 i) := by
  unfold FX1_put_1
  refine Ok.bd _ (xX1_hasRoom (j := 1) e1 (by omega) (by omega)) ?_
  rintro v _ ⟨rfl, hv⟩
  refine Ok.ifF (fun c => ?_) ?_
  · rcases hv with ⟨-, h⟩ | ⟨h, -⟩
    · omega
    · exact absurd (h.symm.trans c) (by decide)
  refine Ok.rdE e1 (Ok.ckT (inb_n (by omega) (by omega)) (OkwrE (Ok.rdE (x := nI k) ?_ (OkwrE (Ok.ret ⟨?_, ?_, ?_, ?_⟩)))))
  · rw [wrf (by decide)]
    exact e1
  · intro b h1 h2
    rw [wr_off b h1, wr_off b h2]
    exact ho b h1 h2
  · rw [wrs, nI_1]
  · rw [wrf (by decide), nI_cl (by omega), wrs, b8]
  · intro i hi
    rw [wrf (by decide), nI_cl (by omega), wrn hi]
theorem f_putFour {t u : St} {k : Nat} (ho : ∀ b, b ≠ 1 → b ≠ 2 → u b = t b) (e1 : u 1 1 = nI k) (hk : k + 4 ≤ 400) {a : Int32} : Ok (FX1_putFour_1 a u) (fun _ w => (∀ b, b ≠ 1 → b ≠ 2 → w b = t b) ∧ w 1 1 = nI (k + 4) ∧ (∀ i, i < k → w 2 i = u 2 i) ∧ ∀ r, r < 4 → w 2 (k + r) &&& 255 = ushr a (nI (24 - 8 * r)) &&& 255) := by
  unfold FX1_putFour_1
  refine Ok.bd _ (f_put ho e1 (by omega)) ?_
  rintro _ w1 ⟨h1, a1, b1, c1⟩
  refine Ok.bd _ (f_put h1 a1 (by omega)) ?_
  rintro _ w2 ⟨h2, a2, b2, c2⟩
  refine Ok.bd _ (f_put h2 a2 (by omega)) ?_
  rintro _ w3 ⟨h3, a3, b3, c3⟩
  refine Ok.bd _ (f_put h3 a3 (by omega)) ?_
  rintro _ w4 ⟨h4, a4, b4, c4⟩
  refine Ok.ret ⟨h4, a4, fun i hi => ?_, fun r hr => ?_⟩
  · rw [c4 i (by omega), c3 i (by omega), c2 i (by omega), c1 i (by omega)]
  · rcases (show r = 0 ∨ r = 1 ∨ r = 2 ∨ r = 3 by omega) with rfl | rfl | rfl | rfl
    · rw [Nat.add_zero, c4 k (by omega), c3 k (by omega), c2 k (by omega)]
      exact b1
    · rw [c4 _ (by omega), c3 _ (by omega)]
      exact b2
    · rw [c4 _ (by omega)]
      exact b3
    · have := b4
      rw [← ushr_0 a] at this
      exact this
def ff5 (a b c d e : Int32) : Nat → Int32 := upd (upd (upd (upd (upd (fun _ => 0) (0 : Int32).toNatClampNeg a) (1 : Int32).toNatClampNeg b) (2 : Int32).toNatClampNeg c) (3 : Int32).toNatClampNeg d) (4 : Int32).toNatClampNeg e
theorem f_feedC {t : St} {k : Nat} (e1 : t 1 1 = nI k) (hk : k ≤ 380) {a b c d e : Int32} : Ok (FX11_feed a b c d e t) (fun r w => r = nI (k + 20) ∧ (∀ b, b ≠ 1 → b ≠ 2 → w b = t b) ∧ w 1 1 = nI (k + 20) ∧ (∀ i, i < k → w 2 i = t 2 i) ∧ ∀ i, i < 20 → w 2 (k + i) &&& 255 = by20 (ff5 a b c d e) i) := by
  unfold FX11_feed
  refine Ok.bd _ (xX1_hasRoom (j := 20) e1 (by omega) (by omega)) ?_
  rintro v _ ⟨rfl, hv⟩
  refine Ok.ifF (fun c => ?_) ?_
  · rcases hv with ⟨-, h⟩ | ⟨h, -⟩
    · omega
    · exact absurd (h.symm.trans c) (by decide)
  refine Ok.bd _ (f_putFour (t := t) (fun _ _ _ => rfl) e1 (by omega)) ?_
  rintro _ w1 ⟨h1, a1, b1, c1⟩
  refine Ok.bd _ (f_putFour h1 a1 (by omega)) ?_
  rintro _ w2 ⟨h2, a2, b2, c2⟩
  refine Ok.bd _ (f_putFour h2 a2 (by omega)) ?_
  rintro _ w3 ⟨h3, a3, b3, c3⟩
  refine Ok.bd _ (f_putFour h3 a3 (by omega)) ?_
  rintro _ w4 ⟨h4, a4, b4, c4⟩
  refine Ok.bd _ (f_putFour h4 a4 (by omega)) ?_
  rintro _ w5 ⟨h5, a5, b5, c5⟩
  refine Ok.rdE a5 (Ok.ret ⟨rfl, h5, a5, fun i hi => ?_, fun i hi => ?_⟩)
  · rw [b5 i (by omega), b4 i (by omega), b3 i (by omega), b2 i (by omega), b1 i (by omega)]
  · rcases (show i < 4 ∨ (4 ≤ i ∧ i < 8) ∨ (8 ≤ i ∧ i < 12) ∨ (12 ≤ i ∧ i < 16) ∨ (16 ≤ i ∧ i < 20) by omega) with h | h | h | h | h
    · rw [b5 _ (by omega), b4 _ (by omega), b3 _ (by omega), b2 _ (by omega), c1 i h]
      unfold by20
      rw [show i / 4 = 0 by omega, show i % 4 = i by omega]
      rfl
    · rw [b5 _ (by omega), b4 _ (by omega), b3 _ (by omega), show k + i = k + 4 + (i - 4) by omega, c2 (i - 4) (by omega)]
      unfold by20
      rw [show i / 4 = 1 by omega, show i % 4 = i - 4 by omega]
      rfl
    · rw [b5 _ (by omega), b4 _ (by omega), show k + i = k + 4 + 4 + (i - 8) by omega, c3 (i - 8) (by omega)]
      unfold by20
      rw [show i / 4 = 2 by omega, show i % 4 = i - 8 by omega]
      rfl
    · rw [b5 _ (by omega), show k + i = k + 4 + 4 + 4 + (i - 12) by omega, c4 (i - 12) (by omega)]
      unfold by20
      rw [show i / 4 = 3 by omega, show i % 4 = i - 12 by omega]
      rfl
    · rw [show k + i = k + 4 + 4 + 4 + 4 + (i - 16) by omega, c5 (i - 16) (by omega)]
      unfold by20
      rw [show i / 4 = 4 by omega, show i % 4 = i - 16 by omega]
      rfl
theorem f_feedM {t : St} {k : Nat} (e1 : t 149 5 = nI k) (hk : k ≤ 380) {a b c d e : Int32} : Ok (FX12_feed a b c d e t) (fun r w => r = nI (k + 20) ∧ (∀ b, b ≠ 149 → b ≠ 153 → w b = t b) ∧ w 149 = upd (t 149) 5 (nI (k + 20)) ∧ (∀ i, i < k → w 153 i = t 153 i) ∧ ∀ i, i < 20 → w 153 (k + i) = by20 (ff5 a b c d e) i) := by
  unfold FX12_feed
  refine Ok.rdE e1 (Ok.ifT (by rw [li_380, nI_leP (by omega) (by omega)]; omega) ?_)
  refine Ok.bd (fun _ w => (∀ b, b ≠ 153 → w b = t b) ∧ (∀ i, i < k → w 153 i = t 153 i) ∧ ∀ i, i < 20 → w 153 (k + i) = by20 (ff5 a b c d e) i) ?_ ?_
  · refine Ok.count 20 (fun j cc s => cc = nI j ∧ (∀ b, b ≠ 153 → s b = t b) ∧ (∀ i, i < k → s 153 i = t 153 i) ∧ ∀ i, i < j → s 153 (k + i) = by20 (ff5 a b c d e) i) ?_ ?_ (Nat.zero_le _) ⟨rfl, fun _ _ => rfl, fun _ _ => rfl, fun i hi => by omega⟩
    · rintro j cc s hj ⟨rfl, h1, h2, h3⟩
      unfold SX12_feed_42
      refine Ok.ifF (by rw [li_20, nI_leP (by omega) (by omega)]; omega) (Ok.rdE (x := nI k) (by rw [h1 149 (by decide)]; exact e1) ?_)
      have ed : nI j / (4 : Int32) = nI (j / 4) := by rw [li_4]; exact nI_divN (by omega) (by omega) (by omega)
      have er : irem (nI j) (4 : Int32) = nI (j % 4) := by rw [li_4]; exact nI_remN (by omega) (by omega) (by omega)
      rw [ed, er, nI_add]
      refine Ok.ckT (inb_n (by omega) (by omega)) (Ok.ckT (inb_n (by omega) (by omega)) (OkwrE (Ok.ret ⟨nI_1 j, fun b hb => ?_, fun i hi => ?_, fun i hi => ?_⟩)))
      · rw [wr_off b hb]
        exact h1 b hb
      · rw [nI_cl (by omega), wrn (by omega)]
        exact h2 i hi
      · rw [nI_cl (by omega)]
        by_cases e : i = j
        · subst e
          rw [wrs, nI_cl (by omega)]
          unfold by20
          have es : (24 : Int32) - (8 : Int32) * nI (i % 4) = nI (24 - 8 * (i % 4)) := by
            rw [li_8, li_24, nI_mul, nI_sub (by omega)]
          rw [es]
          rfl
        · rw [wrn (by omega)]
          exact h3 i (by omega)
    · rintro cc s ⟨rfl, h1, h2, h3⟩
      unfold SX12_feed_42
      exact Ok.ifT (by rw [li_20, nI_leP (by omega) (by omega)]; omega) (Ok.ret ⟨h1, h2, h3⟩)
  · rintro _ w ⟨h1, h2, h3⟩
    refine Ok.rdE (x := nI k) (by rw [h1 149 (by decide)]; exact e1) ?_
    rw [li_20, nI_add]
    refine OkwrE (Ok.rdE wrs (Ok.ret ⟨rfl, fun b hb hb2 => ?_, ?_, fun i hi => ?_, fun i hi => ?_⟩))
    · rw [wr_off b hb]
      exact h1 b hb2
    · rw [wr_at, h1 149 (by decide)]
    · rw [wrf (by decide)]
      exact h2 i hi
    · rw [wrf (by decide)]
      exact h3 i hi
/-! the tape as tokens -/
def bl (b : Nat) : Bool := b == 32 || b == 10
def kd (b : Nat) : Nat := if 97 ≤ b ∧ b ≤ 122 then 1 else if 48 ≤ b ∧ b ≤ 57 then 2 else 3
/-- e is the first from i on that is not P, or the end -/
def AV (P : Nat → Bool) (k i e : Nat) : Prop := i ≤ e ∧ e ≤ k ∧ (∀ j, i ≤ j → j < e → P j = true) ∧ (e < k → P e = false)
theorem AV.uq {P : Nat → Bool} {k i e f : Nat} (h : AV P k i e) (g : AV P k i f) : e = f := by
  obtain ⟨h1, h2, h3, h4⟩ := h
  obtain ⟨g1, g2, g3, g4⟩ := g
  rcases Nat.lt_trichotomy e f with q | q | q
  · have a := h4 (by omega)
    have b := g3 e h1 q
    rw [a] at b
    cases b
  · exact q
  · have a := g4 (by omega)
    have b := h3 f g1 q
    rw [a] at b
    cases b
def adv (P : Nat → Bool) (k : Nat) : Nat → Nat → Nat
  | 0, i => i
  | f + 1, i => if i < k ∧ P i = true then adv P k f (i + 1) else i
theorem adv_AV {P : Nat → Bool} {k : Nat} : ∀ f i, i ≤ k → k ≤ i + f → AV P k i (adv P k f i)
  | 0, i, h1, h2 => ⟨Nat.le_refl _, h1, fun j a b => absurd b (by show ¬ j < i; omega), fun q => absurd q (by show ¬ i < k; omega)⟩
  | f + 1, i, h1, h2 => by
    rw [adv]
    by_cases c : i < k ∧ P i = true
    · rw [if_pos c]
      obtain ⟨a1, a2, a3, a4⟩ := adv_AV (P := P) (k := k) f (i + 1) (by omega) (by omega)
      refine ⟨by omega, a2, fun j b1 b2 => ?_, a4⟩
      by_cases e : j = i
      · rw [e]; exact c.2
      · exact a3 j (by omega) b2
    · rw [if_neg c]
      refine ⟨Nat.le_refl _, h1, fun j a b => by omega, fun q => ?_⟩
      cases hp : P i
      · rfl
      · exact absurd ⟨q, hp⟩ c
/-- the token from place i on: its first byte, what it is (0 the end, 1 a word, 2 digits, 3 a sign), the place behind it -/
def tkb (k : Nat) (bt : Nat → Nat) (i : Nat) : Nat := adv (fun j => bl (bt j)) k 401 i
def tkc (k : Nat) (bt : Nat → Nat) (i : Nat) : Nat := if tkb k bt i < k then kd (bt (tkb k bt i)) else 0
def tke (k : Nat) (bt : Nat → Nat) (i : Nat) : Nat := if tkb k bt i < k then (if kd (bt (tkb k bt i)) = 3 then tkb k bt i + 1 else adv (fun j => kd (bt j) == kd (bt (tkb k bt i))) k 401 (tkb k bt i + 1)) else tkb k bt i
theorem tkb_AV {k : Nat} {bt : Nat → Nat} {i : Nat} (hk : k < 401) (h : i ≤ k) : AV (fun j => bl (bt j)) k i (tkb k bt i) := adv_AV _ _ h (by omega)
theorem tkb_le {k : Nat} {bt : Nat → Nat} {i : Nat} (hk : k < 401) (h : i ≤ k) : i ≤ tkb k bt i ∧ tkb k bt i ≤ k := ⟨(tkb_AV hk h).1, (tkb_AV hk h).2.1⟩
theorem tke_AV {k : Nat} {bt : Nat → Nat} {i : Nat} (hk : k < 401) (h : i ≤ k) (hb : tkb k bt i < k) (h3 : ¬ kd (bt (tkb k bt i)) = 3) : AV (fun j => kd (bt j) == kd (bt (tkb k bt i))) k (tkb k bt i + 1) (tke k bt i) := by
  unfold tke
  rw [if_pos hb, if_neg h3]
  exact adv_AV _ _ (by omega) (by omega)
theorem tke_le {k : Nat} {bt : Nat → Nat} {i : Nat} (hk : k < 401) (h : i ≤ k) : tkb k bt i ≤ tke k bt i ∧ tke k bt i ≤ k ∧ (tkb k bt i < k → tkb k bt i < tke k bt i) := by
  have h1 := tkb_le (bt := bt) hk h
  by_cases hb : tkb k bt i < k
  · by_cases h3 : kd (bt (tkb k bt i)) = 3
    · have : tke k bt i = tkb k bt i + 1 := by unfold tke; rw [if_pos hb, if_pos h3]
      omega
    · have := tke_AV hk h hb h3
      have a := this.1
      have b := this.2.1
      omega
  · have : tke k bt i = tkb k bt i := by unfold tke; rw [if_neg hb]
    omega
theorem kd_r (b : Nat) : kd b = 1 ∨ kd b = 2 ∨ kd b = 3 := by
  unfold kd
  by_cases h : 97 ≤ b ∧ b ≤ 122
  · rw [if_pos h]; exact Or.inl rfl
  · rw [if_neg h]
    by_cases g : 48 ≤ b ∧ b ≤ 57
    · rw [if_pos g]; exact Or.inr (Or.inl rfl)
    · rw [if_neg g]; exact Or.inr (Or.inr rfl)
theorem tke_kd {k : Nat} {bt : Nat → Nat} {i : Nat} (hk : k < 401) (h : i ≤ k) (hb : tkb k bt i < k) : ∀ j, tkb k bt i ≤ j → j < tke k bt i → kd (bt j) = kd (bt (tkb k bt i)) := by
  intro j h1 h2
  by_cases e : j = tkb k bt i
  · rw [e]
  by_cases h3 : kd (bt (tkb k bt i)) = 3
  · have : tke k bt i = tkb k bt i + 1 := by unfold tke; rw [if_pos hb, if_pos h3]
    omega
  · have := (tke_AV hk h hb h3).2.2.1 j (by omega) h2
    exact eq_of_beq this
/-- digits as a number, 1000 at most -/
def vl (bt : Nat → Nat) (b : Nat) : Nat → Nat
  | 0 => 0
  | m + 1 => Nat.min 1000 (10 * vl bt b m + bt (b + m) - 48)
theorem vl_le {bt : Nat → Nat} {b : Nat} : ∀ m, vl bt b m ≤ 1000
  | 0 => Nat.zero_le _
  | _ + 1 => Nat.min_le_left _ _
end
section
/-! a net of the class -/
def nr (w : Nat → Nat → Nat) (a : Nat) : Nat := mkm 9 (fun b => decide (0 < w a b))
theorem nr_lt {w : Nat → Nat → Nat} {a : Nat} : nr w a < 512 := mkm_lt (n := 9)
theorem nr_bit {w : Nat → Nat → Nat} {a b : Nat} (hb : b < 9) : (nr w a).testBit b = decide (0 < w a b) := by
  unfold nr
  rw [mkm_bit]
  simp [hb]
def setw (w : Nat → Nat → Nat) (a b v : Nat) : Nat → Nat → Nat := fun p q => if (p = a ∧ q = b) ∨ (p = b ∧ q = a) then v else w p q
theorem setw_a {w : Nat → Nat → Nat} {a b v : Nat} : setw w a b v a b = v := if_pos (Or.inl ⟨rfl, rfl⟩)
theorem setw_b {w : Nat → Nat → Nat} {a b v : Nat} : setw w a b v b a = v := if_pos (Or.inr ⟨rfl, rfl⟩)
theorem setw_n {w : Nat → Nat → Nat} {a b v p q : Nat} (h1 : ¬ (p = a ∧ q = b)) (h2 : ¬ (p = b ∧ q = a)) : setw w a b v p q = w p q := if_neg (fun h => h.elim h1 h2)
theorem nr_set1 {w : Nat → Nat → Nat} {a b v : Nat} (hab : a ≠ b) (hb : b < 9) (hv : 0 < v) : nr (setw w a b v) a = nr w a ||| 2 ^ b := by
  refine bit_ext (n := 9) nr_lt (or9 nr_lt (pw9 hb)) (fun k hk => ?_)
  rw [nr_bit hk, Nat.testBit_or, nr_bit hk, pow_bit]
  by_cases e : b = k
  · subst e
    rw [setw_a]
    simp [hv]
  · rw [setw_n (fun h => e h.2.symm) (fun h => hab h.1)]
    simp [e]
theorem nr_set0 {w : Nat → Nat → Nat} {a b : Nat} (hab : a ≠ b) : nr (setw w a b 0) a = dif (nr w a) (2 ^ b) := by
  refine bit_ext (n := 9) nr_lt (dif_lt nr_lt) (fun k hk => ?_)
  rw [nr_bit hk, dif_bit nr_lt, nr_bit hk, pow_bit]
  by_cases e : b = k
  · subst e
    rw [setw_a]
    simp
  · rw [setw_n (fun h => e h.2.symm) (fun h => hab h.1)]
    simp [e]
theorem setw_sw {w : Nat → Nat → Nat} {a b v : Nat} : setw w a b v = setw w b a v := by
  funext p q
  unfold setw
  by_cases h : (p = a ∧ q = b) ∨ (p = b ∧ q = a)
  · rw [if_pos h, if_pos h.symm]
  · rw [if_neg h, if_neg (fun g => h g.symm)]
theorem nr_set {w : Nat → Nat → Nat} {a b v c : Nat} (h1 : c ≠ a) (h2 : c ≠ b) : nr (setw w a b v) c = nr w c := by
  unfold nr
  refine mkm_congr (fun k hk => ?_)
  rw [setw_n (fun h => h1 h.1) (fun h => h2 h.1)]
/-- the net at x: n points, l lines, weights w -/
def CN (x n l : Nat) (w : Nat → Nat → Nat) (t : St) : Prop := t x 0 = nI n ∧ t x 1 = nI l ∧ (∀ a, a < 9 → t (x + 1) a = nI (nr w a)) ∧ ∀ a b, a < 9 → b < 9 → t (x + 3) (a * 9 + b) = nI (w a b)
theorem CN.fr {x n l : Nat} {w : Nat → Nat → Nat} {t u : St} (h : CN x n l w t) (e0 : u x = t x) (e1 : u (x + 1) = t (x + 1)) (e3 : u (x + 3) = t (x + 3)) : CN x n l w u := by
  unfold CN
  rw [e0, e1, e3]
  exact h
theorem e_weightOf {x n l : Nat} {w : Nat → Nat → Nat} {t : St} (h : CN x n l w t) (g : netAt x = true) {a b : Nat} (ha : a < 9) (hb : b < 9) {Q : Int32 → St → Prop} (k : Q (nI (w a b)) t) : Ok (FX5_weightOf x (nI a) (nI b) t) Q := by
  unfold FX5_weightOf
  rw [li_9, nI_mul, nI_add]
  refine Ok.ckT g (Ok.ckT (inb_n (by omega) (by omega)) (Ok.rdE (x := nI (w a b)) ?_ (Ok.ret k)))
  rw [nI_cl (by omega)]
  exact h.2.2.2 a b ha hb
theorem e_has {x n l : Nat} {w : Nat → Nat → Nat} {t : St} (h : CN x n l w t) (hn : n < 10) (g : netAt x = true) {a : Nat} (ha : a < 2147483648) {Q : Int32 → St → Prop} (k1 : a < n → Q 1 t) (k0 : n ≤ a → Q 0 t) : Ok (FX5_has x (nI a) t) Q := by
  unfold FX5_has
  refine Ok.ckT g (Ok.ifF (by rw [li_0, nI_ltP (by omega) (by omega)]; omega) (Ok.rdE h.1 ?_))
  by_cases c : n ≤ a
  · exact Ok.ifT (by rw [nI_leP (by omega) (by omega)]; exact c) (Ok.ret (k0 c))
  · exact Ok.ifF (by rw [nI_leP (by omega) (by omega)]; exact c) (Ok.ret (k1 (by omega)))
theorem e_allBits {x n l : Nat} {w : Nat → Nat → Nat} {t : St} (h : CN x n l w t) (hn : n < 10) (g : netAt x = true) {Q : Int32 → St → Prop} (k : Q (nI (2 ^ n - 1)) t) : Ok (FX5_allBits x t) Q := by
  unfold FX5_allBits
  refine Ok.ckT g (Ok.rdE h.1 ?_)
  have h2 : 0 < 2 ^ n := Nat.two_pow_pos n
  rw [shl_1 (by omega), li_1, nI_sub (by omega)]
  exact Ok.ret k
set_option maxHeartbeats 1000000 in
theorem e_setWeight {x n l : Nat} {w : Nat → Nat → Nat} {t : St} (h : CN x n l w t) (g : netAt x = true) {a b v : Nat} (ha : a < 9) (hb : b < 9) (hab : a ≠ b) (hv : v < 10) (hw : w a b < 10) (hl : 0 < w a b → 0 < l) (hl2 : l < 1000) : Ok (FX5_setWeight x (nI a) (nI b) (nI v) t) (fun _ u => CN x n (l - (if 0 < w a b then 1 else 0) + (if 0 < v then 1 else 0)) (setw w a b v) u ∧ ∀ c, c ≠ x → c ≠ x + 1 → c ≠ x + 3 → u c = t c) := by
  have i1 : a * 9 + b < 81 := by omega
  have i2 : b * 9 + a < 81 := by omega
  have i3 : a * 9 + b ≠ b * 9 + a := by omega
  unfold FX5_setWeight
  refine Ok.ckT g (Ok.bd _ (e_weightOf h g ha hb (Q := fun r u => r = nI (w a b) ∧ t = u) ⟨rfl, rfl⟩) ?_)
  rintro _ _ ⟨rfl, rfl⟩
  refine Ok.bd (fun _ s => s x 0 = t x 0 ∧ s x 1 = nI (l - (if 0 < w a b then 1 else 0)) ∧ ∀ c, c ≠ x → s c = t c) ?_ ?_
  · by_cases c : 0 < w a b
    · refine Ok.ifF (by rw [li_0, nI_leP (by omega) (by omega)]; omega) (Ok.rdE h.2.1 ?_)
      rw [li_1, nI_sub (hl c), if_pos c]
      exact OkwrE (Ok.ret ⟨by rw [wrn (by decide)], wrs, fun c hc => wr_off c hc⟩)
    · rw [if_neg c]
      exact Ok.ifT (by rw [li_0, nI_leP (by omega) (by omega)]; omega) (Ok.ret ⟨rfl, h.2.1, fun _ _ => rfl⟩)
  · rintro _ s ⟨s0, s1, sf⟩
    rw [li_9, nI_mul, nI_mul, nI_add, nI_add]
    refine Ok.ckT (inb_n i1 (by omega)) (OkwrE (Ok.ckT (inb_n i2 (by omega)) (OkwrE ?_)))
    rw [nI_cl (by omega), nI_cl (by omega)]
    have w3 : ∀ (y : St), (∀ i, y (x + 3) i = wr (wr s (x + 3) (a * 9 + b) (nI v)) (x + 3) (b * 9 + a) (nI v) (x + 3) i) → ∀ p q, p < 9 → q < 9 → y (x + 3) (p * 9 + q) = nI (setw w a b v p q) := by
      intro y hy p q hp hq
      rw [hy]
      by_cases e1 : p = b ∧ q = a
      · obtain ⟨rfl, rfl⟩ := e1
        rw [wrs, setw_b]
      · rw [wrn (by omega)]
        by_cases e2 : p = a ∧ q = b
        · obtain ⟨rfl, rfl⟩ := e2
          rw [wrs, setw_a]
        · rw [wrn (by omega), setw_n e2 e1, sf (x + 3) (by omega)]
          exact h.2.2.2 p q hp hq
    by_cases c : 0 < v
    · rw [if_pos c]
      refine Ok.ifF (by rw [li_0, nI_leP (by omega) (by omega)]; omega) (Ok.rdE (x := nI (l - (if 0 < w a b then 1 else 0))) ?_ ?_)
      · rw [wrf (by omega), wrf (by omega)]
        exact s1
      rw [nI_1]
      refine OkwrE (Ok.ckT (inb_n ha (by omega)) (Ok.rdE (x := nI (nr w a)) ?_ ?_))
      · rw [nI_cl (by omega), wrf (by omega), wrf (by omega), wrf (by omega), sf (x + 1) (by omega)]
        exact h.2.2.1 a ha
      rw [shl_1 (by omega), nI_or, shl_1 (by omega), ← nr_set1 hab hb c]
      refine Ok.ckT (inb_n ha (by omega)) (OkwrE (Ok.ckT (inb_n hb (by omega)) (Ok.rdE (x := nI (nr w b)) ?_ ?_)))
      · rw [nI_cl (by omega), nI_cl (by omega), wrn (fun e => hab e.symm), wrf (by omega), wrf (by omega), wrf (by omega), sf (x + 1) (by omega)]
        exact h.2.2.1 b hb
      rw [nI_or, ← nr_set1 (fun e => hab e.symm) ha c, setw_sw (a := b)]
      refine Ok.ckT (inb_n hb (by omega)) (OkwrE (Ok.ret ⟨⟨?_, ?_, fun p hp => ?_, ?_⟩, fun c h1 h2 h3 => ?_⟩))
      · rw [wrf (by omega), wrf (by omega), wrn (by decide), wrf (by omega), wrf (by omega), s0]
        exact h.1
      · rw [wrf (by omega), wrf (by omega), wrs]
      · rw [nI_cl (by omega), nI_cl (by omega)]
        by_cases e1 : p = b
        · subst e1
          rw [wrs]
        · rw [wrn e1]
          by_cases e2 : p = a
          · subst e2
            rw [wrs]
          · rw [wrn e2, wrf (by omega), wrf (by omega), wrf (by omega), sf (x + 1) (by omega), nr_set e2 e1]
            exact h.2.2.1 p hp
      · refine w3 _ (fun i => ?_)
        rw [wrf (by omega), wrf (by omega), wrf (by omega)]
      · rw [wr_off c h2, wr_off c h2, wr_off c h1, wr_off c h3, wr_off c h3]
        exact sf c h1
    · rw [if_neg c]
      have v0 : v = 0 := by omega
      subst v0
      refine Ok.ifT (by rw [li_0, nI_leP (by omega) (by omega)]; omega) (Ok.ckT (inb_n ha (by omega)) (Ok.rdE (x := nI (nr w a)) ?_ ?_))
      · rw [nI_cl (by omega), wrf (by omega), wrf (by omega), sf (x + 1) (by omega)]
        exact h.2.2.1 a ha
      rw [shl_1 (by omega), nI_dif nr_lt (pw9 hb), shl_1 (by omega), ← nr_set0 hab]
      refine Ok.ckT (inb_n ha (by omega)) (OkwrE (Ok.ckT (inb_n hb (by omega)) (Ok.rdE (x := nI (nr w b)) ?_ ?_)))
      · rw [nI_cl (by omega), nI_cl (by omega), wrn (fun e => hab e.symm), wrf (by omega), wrf (by omega), sf (x + 1) (by omega)]
        exact h.2.2.1 b hb
      rw [nI_dif nr_lt (pw9 ha), ← nr_set0 (fun e => hab e.symm), setw_sw (a := b)]
      refine Ok.ckT (inb_n hb (by omega)) (OkwrE (Ok.ret ⟨⟨?_, ?_, fun p hp => ?_, ?_⟩, fun c h1 h2 h3 => ?_⟩))
      · rw [wrf (by omega), wrf (by omega), wrf (by omega), wrf (by omega), s0]
        exact h.1
      · rw [wrf (by omega), wrf (by omega), wrf (by omega), wrf (by omega), s1, Nat.add_zero]
      · rw [nI_cl (by omega), nI_cl (by omega)]
        by_cases e1 : p = b
        · subst e1
          rw [wrs]
        · rw [wrn e1]
          by_cases e2 : p = a
          · subst e2
            rw [wrs]
          · rw [wrn e2, wrf (by omega), wrf (by omega), sf (x + 1) (by omega), nr_set e2 e1]
            exact h.2.2.1 p hp
      · refine w3 _ (fun i => ?_)
        rw [wrf (by omega), wrf (by omega)]
      · rw [wr_off c h2, wr_off c h2, wr_off c h3, wr_off c h3]
        exact sf c h1
theorem ilen_n3 {x : Nat} (g : netAt x = true) : ilen (x + 1) = 9 ∧ ilen (x + 2) = 9 ∧ ilen (x + 3) = 81 := by
  have hx : x < 163 := by have := net_pl g; omega
  exact (by decide +kernel : ∀ x, x < 163 → netAt x = true → ilen (x + 1) = 9 ∧ ilen (x + 2) = 9 ∧ ilen (x + 3) = 81) x hx g
theorem e_fill {t : St} {a m : Nat} {v : Int32} (hl : ilen a = m) (h0 : 0 < m) (hm : m < 5000) : Ok (FJ7_fill_53178 a v t) (fun _ u => (∀ b, b ≠ a → u b = t b) ∧ (∀ i, i < m → u a i = v) ∧ ∀ i, m ≤ i → u a i = t a i) := by
  unfold FJ7_fill_53178
  rw [hl]
  refine Ok.ckT (inb_n (k := 0) h0 (by omega)) (Ok.bd (fun _ u => (∀ b, b ≠ a → u b = t b) ∧ (∀ i, i < m → u a i = v) ∧ ∀ i, m ≤ i → u a i = t a i) ?_ (fun _ u h => Ok.ret h))
  refine Ok.count m (fun j c s => c = nI j ∧ (∀ b, b ≠ a → s b = t b) ∧ (∀ i, i < j → s a i = v) ∧ ∀ i, j ≤ i → s a i = t a i) ?_ ?_ (Nat.zero_le _) ⟨rfl, fun _ _ => rfl, fun i hi => by omega, fun _ _ => rfl⟩
  · rintro j c s hj ⟨rfl, h1, h2, h3⟩
    unfold SJ7_fill_53178_5
    refine Ok.ifF (by rw [show Int32.ofNat m = nI m from rfl, nI_leP (by omega) (by omega)]; omega) (Ok.ckT (by rw [hl]; exact inb_n hj (by omega)) (OkwrE (Ok.ret ⟨nI_1 j, fun b hb => ?_, fun i hi => ?_, fun i hi => ?_⟩)))
    · rw [wr_off b hb]
      exact h1 b hb
    · rw [nI_cl (by omega)]
      by_cases e : i = j
      · subst e
        rw [wrs]
      · rw [wrn e]
        exact h2 i (by omega)
    · rw [nI_cl (by omega), wrn (by omega)]
      exact h3 i (by omega)
  · rintro c s ⟨rfl, h1, h2, h3⟩
    unfold SJ7_fill_53178_5
    exact Ok.ifT (by rw [show Int32.ofNat m = nI m from rfl, nI_leP (by omega) (by omega)]; omega) (Ok.ret ⟨h1, h2, h3⟩)
theorem nr_0 {a : Nat} : nr (fun _ _ => 0) a = 0 := by
  refine bit_ext (n := 9) nr_lt (by decide) (fun k hk => ?_)
  rw [nr_bit hk, Nat.zero_testBit]
  rfl
theorem e_begin {x n : Nat} {t : St} (g : netAt x = true) : Ok (FX5_begin x (nI n) t) (fun _ u => CN x n 0 (fun _ _ => 0) u ∧ (∀ i, i < 9 → u (x + 2) i = nI i) ∧ ∀ c, c ≠ x → c ≠ x + 1 → c ≠ x + 2 → c ≠ x + 3 → u c = t c) := by
  obtain ⟨l1, l2, l3⟩ := ilen_n3 g
  unfold FX5_begin
  refine Ok.ckT g (OkwrE (OkwrE (Ok.bd _ (e_fill l1 (by omega) (by omega)) ?_)))
  rintro _ u1 ⟨a1, b1, -⟩
  refine Ok.bd _ (e_fill l3 (by omega) (by omega)) ?_
  rintro _ u2 ⟨a2, b2, -⟩
  refine Ok.bd (fun _ u => (∀ b, b ≠ x + 2 → u b = u2 b) ∧ ∀ i, i < 9 → u (x + 2) i = nI i) ?_ ?_
  · refine Ok.count 9 (fun j c s => c = nI j ∧ (∀ b, b ≠ x + 2 → s b = u2 b) ∧ ∀ i, i < j → s (x + 2) i = nI i) ?_ ?_ (Nat.zero_le _) ⟨rfl, fun _ _ => rfl, fun i hi => by omega⟩
    · rintro j c s hj ⟨rfl, h1, h2⟩
      unfold SX5_begin_28
      refine Ok.ifF (by rw [li_9, nI_leP (by omega) (by omega)]; omega) (Ok.ckT (inb_n hj (by omega)) (OkwrE (Ok.ret ⟨nI_1 j, fun b hb => ?_, fun i hi => ?_⟩)))
      · rw [wr_off b hb]
        exact h1 b hb
      · rw [nI_cl (by omega)]
        by_cases e : i = j
        · subst e
          rw [wrs]
        · rw [wrn e]
          exact h2 i (by omega)
    · rintro c s ⟨rfl, h1, h2⟩
      unfold SX5_begin_28
      exact Ok.ifT (by rw [li_9, nI_leP (by omega) (by omega)]; omega) (Ok.ret ⟨h1, h2⟩)
  · rintro _ u ⟨h1, h2⟩
    refine Ok.ret ⟨⟨?_, ?_, fun a ha => ?_, fun a b ha hb => ?_⟩, h2, fun c c0 c1 c2 c3 => ?_⟩
    · rw [h1 x (by omega), a2 x (by omega), a1 x (by omega), wrn (by decide), wrs]
    · rw [h1 x (by omega), a2 x (by omega), a1 x (by omega), wrs]
      rfl
    · rw [h1 _ (by omega), a2 _ (by omega), b1 a ha, nr_0]
      rfl
    · rw [h1 _ (by omega), b2 _ (by omega)]
      rfl
    · rw [h1 c c2, a2 c c3, a1 c c1, wr_off c c0, wr_off c c0]
end
section
/-! what a text tells, and how the class reads it -/
theorem li_m1 : (-1 : Int32) = nI 4294967295 := by decide
theorem mnI_n {a b : Nat} (ha : a < 2147483648) (hb : b < 2147483648) : mnI (nI a) (nI b) = nI (Nat.min a b) := by
  show (if nI b < nI a then nI b else nI a) = nI (Nat.min a b)
  by_cases c : b < a
  · rw [if_pos (by rw [nI_ltP hb ha]; exact c)]
    congr 1
    exact (Nat.min_eq_right (by omega)).symm
  · rw [if_neg (by rw [nI_ltP hb ha]; exact c)]
    congr 1
    exact (Nat.min_eq_left (by omega)).symm
def sbn {α β : Type} (x : (Nat × Nat) ⊕ α) (f : α → (Nat × Nat) ⊕ β) : (Nat × Nat) ⊕ β := Sum.elim .inl f x
theorem sbn_l {α β : Type} {x : (Nat × Nat) ⊕ α} {f : α → (Nat × Nat) ⊕ β} {e : Nat × Nat} (h : x = .inl e) : sbn x f = .inl e := by rw [h]; rfl
theorem sbn_r {α β : Type} {x : (Nat × Nat) ⊕ α} {f : α → (Nat × Nat) ⊕ β} {e : α} (h : x = .inr e) : sbn x f = f e := by rw [h]; rfl
def num (k : Nat) (bt : Nat → Nat) (lo hi p : Nat) : (Nat × Nat) ⊕ Nat :=
  if tkc k bt p = 2 then (if lo ≤ vl bt (tkb k bt p) (tke k bt p - tkb k bt p) ∧ vl bt (tkb k bt p) (tke k bt p - tkb k bt p) ≤ hi then .inr (vl bt (tkb k bt p) (tke k bt p - tkb k bt p)) else .inl (2, tkb k bt p)) else .inl (1, tkb k bt p)
theorem num_in {k : Nat} {bt : Nat → Nat} {lo hi p v : Nat} (h : num k bt lo hi p = .inr v) : lo ≤ v ∧ v ≤ hi ∧ tkc k bt p = 2 ∧ v = vl bt (tkb k bt p) (tke k bt p - tkb k bt p) := by
  unfold num at h
  by_cases c : tkc k bt p = 2
  · rw [if_pos c] at h
    by_cases c2 : lo ≤ vl bt (tkb k bt p) (tke k bt p - tkb k bt p) ∧ vl bt (tkb k bt p) (tke k bt p - tkb k bt p) ≤ hi
    · rw [if_pos c2] at h
      have := Sum.inr.inj h
      subst this
      exact ⟨c2.1, c2.2, c, rfl⟩
    · rw [if_neg c2] at h
      cases h
  · rw [if_neg c] at h
    cases h
def sgn (k : Nat) (bt : Nat → Nat) (c p : Nat) : Bool := decide (tkc k bt p = 3 ∧ bt (tkb k bt p) = c)
def wrd (k : Nat) (bt : Nat → Nat) (x y z p : Nat) : Bool := decide (tkc k bt p = 1 ∧ tke k bt p = tkb k bt p + 3 ∧ bt (tkb k bt p) = x ∧ bt (tkb k bt p + 1) = y ∧ bt (tkb k bt p + 2) = z)
def pwt (k : Nat) (bt : Nat → Nat) (w : Nat → Nat → Nat) (a b p : Nat) : (Nat × Nat) ⊕ (Nat × (Nat → Nat → Nat)) :=
  if sgn k bt 61 p = true then sbn (num k bt 1 9 (tke k bt p)) (fun v => .inr (tke k bt (tke k bt p), setw w a b v)) else .inr (p, setw w a b 1)
def pline (k : Nat) (bt : Nat → Nat) (N : Nat) (w : Nat → Nat → Nat) (c p : Nat) : (Nat × Nat) ⊕ (Nat × (Nat → Nat → Nat)) :=
  sbn (num k bt 0 (N - 1) p) (fun a => if c < 30 then (if sgn k bt 45 (tke k bt p) = true then sbn (num k bt 0 (N - 1) (tke k bt (tke k bt p))) (fun b => if a = b then .inl (2, tkb k bt (tke k bt (tke k bt p))) else if w a b = 0 then pwt k bt w a b (tke k bt (tke k bt (tke k bt p))) else .inl (3, tkb k bt (tke k bt (tke k bt p)))) else .inl (1, tkb k bt (tke k bt p))) else .inl (4, tkb k bt p))
def plines (k : Nat) (bt : Nat → Nat) (N : Nat) : Nat → (Nat → Nat → Nat) → Nat → Nat → (Nat × Nat) ⊕ (Nat × Nat × (Nat → Nat → Nat))
  | 0, _, _, _ => .inl (0, 0)
  | f + 1, w, c, p => sbn (pline k bt N w c (tke k bt p)) (fun r => if sgn k bt 44 r.1 = true then plines k bt N f r.2 (c + 1) r.1 else .inr (r.1, c + 1, r.2))
def plns (k : Nat) (bt : Nat → Nat) (N p : Nat) : (Nat × Nat) ⊕ (Nat × Nat × (Nat → Nat → Nat)) :=
  sbn (if sgn k bt 58 p = true then plines k bt N 31 (fun _ _ => 0) 0 p else .inr (p, 0, fun _ _ => 0)) (fun r => if sgn k bt 59 r.1 = true then .inr (tke k bt r.1, r.2.1, r.2.2) else .inl (1, tkb k bt r.1))
/-- the points that digits name -/
def dm (bt : Nat → Nat) (b : Nat) : Nat → Nat
  | 0 => 0
  | m + 1 => dm bt b m ||| 2 ^ (bt (b + m) - 48)
def digs (k : Nat) (bt : Nat → Nat) (N p : Nat) : Bool := decide (tke k bt p = tkb k bt p + N ∧ (∀ i, i < N → bt (tkb k bt p + i) - 48 < N) ∧ dm bt (tkb k bt p) N = 2 ^ N - 1)
def prow (k : Nat) (bt : Nat → Nat) (N p : Nat) : (Nat × Nat) ⊕ (Nat → Nat) :=
  if tkc k bt p = 0 then .inr (fun i => i) else if wrd k bt 114 111 119 p = true then (if tkc k bt (tke k bt p) = 2 then (if digs k bt N (tke k bt p) = true then (if sgn k bt 59 (tke k bt (tke k bt p)) = true then (if tkc k bt (tke k bt (tke k bt (tke k bt p))) = 0 then .inr (fun i => bt (tkb k bt (tke k bt p) + i) - 48) else .inl (1, tkb k bt (tke k bt (tke k bt (tke k bt p))))) else .inl (1, tkb k bt (tke k bt (tke k bt p)))) else .inl (5, tkb k bt (tke k bt p))) else .inl (1, tkb k bt (tke k bt p))) else .inl (1, tkb k bt p)
def ptext (k : Nat) (bt : Nat → Nat) : (Nat × Nat) ⊕ (Nat × Nat × (Nat → Nat → Nat) × (Nat → Nat)) :=
  if wrd k bt 110 101 116 0 = true then sbn (num k bt 1 9 (tke k bt 0)) (fun N => sbn (plns k bt N (tke k bt (tke k bt 0))) (fun r => sbn (prow k bt N r.1) (fun o => .inr (N, r.2.1, r.2.2, o)))) else .inl (1, tkb k bt 0)
/-- the class's reader stands at the token from p on -/
def RC (k : Nat) (bt : Nat → Nat) (p : Nat) (t : St) : Prop := CT k bt t ∧ p ≤ k ∧ t 5 5 = nI (tkb k bt p) ∧ t 5 4 = nI (tkc k bt p) ∧ t 5 6 = nI (tke k bt p)
/-- only what is read changes -/
def KR (t u : St) : Prop := (∀ c, c ≠ 5 → u c = t c) ∧ u 5 1 = t 5 1 ∧ u 5 2 = t 5 2
def DR (t u : St) : Prop := ∀ c, c < 5 ∨ 9 < c → u c = t c
theorem KR.rf {t : St} : KR t t := ⟨fun _ _ => rfl, rfl, rfl⟩
theorem KR.tr {t u v : St} (h : KR t u) (g : KR u v) : KR t v := ⟨fun c hc => (g.1 c hc).trans (h.1 c hc), g.2.1.trans h.2.1, g.2.2.trans h.2.2⟩
theorem KR.dr {t u : St} (h : KR t u) : DR t u := fun c hc => h.1 c (by omega)
theorem DR.tr {t u v : St} (h : DR t u) (g : DR u v) : DR t v := fun c hc => (g c hc).trans (h c hc)
theorem KR.ct {t u : St} (h : KR t u) {k : Nat} {bt : Nat → Nat} (g : CT k bt t) : CT k bt u := g.fr (h.1 1 (by decide)) (h.1 2 (by decide))
theorem KR.cn {t u : St} (h : KR t u) {x n l : Nat} {w : Nat → Nat → Nat} (g : CN x n l w t) (hx : 5 < x) : CN x n l w u := g.fr (h.1 _ (by omega)) (h.1 _ (by omega)) (h.1 _ (by omega))
theorem RC.le {k : Nat} {bt : Nat → Nat} {p : Nat} {t : St} (h : RC k bt p t) : tkb k bt p ≤ k ∧ tke k bt p ≤ k ∧ tkb k bt p ≤ tke k bt p ∧ k < 401 := by
  have h1 := tkb_le (bt := bt) h.1.1 h.2.1
  have h2 := tke_le (bt := bt) h.1.1 h.2.1
  have h3 := h.1.1
  omega
theorem tkc_lt {k : Nat} {bt : Nat → Nat} {p : Nat} : tkc k bt p < 4 := by
  unfold tkc
  by_cases c : tkb k bt p < k
  · rw [if_pos c]
    have := kd_r (bt (tkb k bt p))
    omega
  · rw [if_neg c]
    omega
theorem e_kindOf {v : Nat} (hv : v < 256) {t : St} {Q : Int32 → St → Prop} (q : Q (nI (kd v)) t) : Ok (FX7_kindOf (nI v) t) Q := by
  unfold FX7_kindOf
  refine Ok.ifF (by rw [li_m1, nI_eqP (by omega) (by omega)]; omega) ?_
  rw [li_97, li_48, li_57, li_122]
  unfold kd at q
  refine Ok.cv (nI_ltP (by omega) (by omega)) (Ok.ite (fun c1 => Ok.cv (nI_ltP (by omega) (by omega)) (Ok.ite (fun c2 => ?_) (fun c2 => Ok.cv (nI_ltP (by omega) (by omega)) (Ok.ite (fun c3 => ?_) (fun c3 => ?_))))) (fun c1 => Ok.cv (nI_ltP (by omega) (by omega)) (Ok.ite (fun c2 => Ok.cv (nI_ltP (by omega) (by omega)) (Ok.ite (fun c3 => ?_) (fun c3 => Ok.cv (nI_ltP (by omega) (by omega)) (Ok.ite (fun c4 => ?_) (fun c4 => ?_))))) (fun c2 => ?_))))
  · rw [if_neg (by omega), if_neg (by omega)] at q
    exact Ok.ret q
  · rw [if_neg (by omega), if_neg (by omega)] at q
    exact Ok.ret q
  · rw [if_neg (by omega), if_pos (by omega)] at q
    exact Ok.ret q
  · rw [if_neg (by omega), if_neg (by omega)] at q
    exact Ok.ret q
  · rw [if_neg (by omega), if_neg (by omega)] at q
    exact Ok.ret q
  · omega
  · rw [if_pos (by omega)] at q
    exact Ok.ret q
theorem e_kindOf_m1 {t : St} {Q : Int32 → St → Prop} (q : Q 0 t) : Ok (FX7_kindOf (-1) t) Q := by
  unfold FX7_kindOf
  exact Ok.ifT rfl (Ok.ret q)
theorem e_isBlank {v : Nat} (hv : v < 256) {t : St} {Q : Int32 → St → Prop} (q1 : bl v = true → Q 1 t) (q0 : bl v = false → Q 0 t) : Ok (FX7_isBlank (nI v) t) Q := by
  unfold FX7_isBlank
  rw [li_32, li_10]
  refine Ok.cv (nI_eqP (by omega) (by omega)) (Ok.ite (fun c => Ok.ret (q1 ?_)) (fun c => Ok.cv (nI_eqP (by omega) (by omega)) (Ok.ite (fun c2 => Ok.ret (q1 ?_)) (fun c2 => Ok.ret (q0 ?_)))))
  · simp [bl, c]
  · simp [bl, c2]
  · simp [bl, c, c2]
theorem e_step {k : Nat} {bt : Nat → Nat} {t : St} (h : CT k bt t) {p : Nat} (hp : p ≤ k) (e6 : t 5 6 = nI p) : Ok (FX7_step t) (fun _ u => RC k bt p u ∧ KR t u) := by
  have hk := h.1
  unfold FX7_step
  refine Ok.rdE e6 (OkwrE (Ok.bd (fun _ s => s 5 5 = nI (tkb k bt p) ∧ KR t s) ?_ ?_))
  · refine Ok.loop (fun m _ s => ∃ j, m = k - j ∧ p ≤ j ∧ j ≤ k ∧ (∀ i, p ≤ i → i < j → bl (bt i) = true) ∧ s 5 5 = nI j ∧ KR t s) ?_ (k - p) _ _ ⟨p, rfl, Nat.le_refl _, hp, fun i a b => by omega, wrs, fun c hc => wr_off c hc, wrn (by decide), wrn (by decide)⟩
    rintro m ⟨⟩ s ⟨j, rfl, h1, h2, h3, e5, hK⟩
    have hC := hK.ct h
    unfold SX7_step_8
    refine Ok.rdE e5 (Ok.rdE hC.2.1 ?_)
    by_cases c : k ≤ j
    · refine Ok.ifT (by rw [nI_leP (by omega) (by omega)]; exact c) (Ok.ret ⟨?_, hK⟩)
      rw [e5]
      congr 1
      exact AV.uq (P := fun j => bl (bt j)) ⟨h1, h2, h3, fun q => by omega⟩ (tkb_AV hk hp)
    · refine Ok.ifF (by rw [nI_leP (by omega) (by omega)]; exact c) (Ok.rdE e5 ?_)
      refine Ok.bd _ (e_at hC (by omega) (Q := fun r u => s = u ∧ r = nI (bt j) ∧ bt j < 256) (fun _ a => ⟨rfl, rfl, a⟩) (fun a => by omega)) ?_
      rintro _ _ ⟨rfl, rfl, hb⟩
      refine Ok.bd _ (e_isBlank hb (Q := fun r u => s = u ∧ ((r = 1 ∧ bl (bt j) = true) ∨ (r = 0 ∧ bl (bt j) = false))) (fun a => ⟨rfl, Or.inl ⟨rfl, a⟩⟩) (fun a => ⟨rfl, Or.inr ⟨rfl, a⟩⟩)) ?_
      rintro r _ ⟨rfl, ⟨rfl, hb2⟩ | ⟨rfl, hb2⟩⟩
      · skip
        refine Ok.ifF (by decide) (Ok.rdE e5 (OkwrE (Ok.ret ⟨k - (j + 1), by omega, j + 1, rfl, by omega, by omega, fun i a b => ?_, ?_, ?_⟩)))
        · by_cases e : i = j
          · rw [e]; exact hb2
          · exact h3 i a (by omega)
        · rw [wrs, nI_1]
        · exact hK.tr ⟨fun c hc => wr_off c hc, wrn (by decide), wrn (by decide)⟩
      · refine Ok.ifT rfl (Ok.ret ⟨?_, hK⟩)
        rw [e5]
        congr 1
        exact AV.uq (P := fun j => bl (bt j)) ⟨h1, h2, h3, fun _ => hb2⟩ (tkb_AV hk hp)
  · rintro _ s ⟨e5, hK⟩
    have hC := hK.ct h
    have hle := tkb_le (bt := bt) hk hp
    refine Ok.rdE e5 (Ok.bd (fun r u => s = u ∧ ((tkb k bt p < k ∧ r = nI (bt (tkb k bt p)) ∧ bt (tkb k bt p) < 256) ∨ (k ≤ tkb k bt p ∧ r = -1))) (e_at hC (by omega) (fun a b => ⟨rfl, Or.inl ⟨a, rfl, b⟩⟩) (fun a => ⟨rfl, Or.inr ⟨a, rfl⟩⟩)) ?_)
    rintro r _ ⟨rfl, hr⟩
    refine Ok.bd (fun r u => s = u ∧ r = nI (tkc k bt p)) ?_ ?_
    · rcases hr with ⟨a, rfl, b⟩ | ⟨a, rfl⟩
      · refine e_kindOf b ⟨rfl, ?_⟩
        unfold tkc
        rw [if_pos a]
      · refine e_kindOf_m1 ⟨rfl, ?_⟩
        unfold tkc
        rw [if_neg (by omega)]
        rfl
    rintro _ _ ⟨rfl, rfl⟩
    refine OkwrE (Ok.rdE wrs ?_)
    have hc4 := tkc_lt (k := k) (bt := bt) (p := p)
    have hK2 : KR t (wr s 5 4 (nI (tkc k bt p))) := hK.tr ⟨fun c hc => wr_off c hc, wrn (by decide), wrn (by decide)⟩
    have e52 : wr s 5 4 (nI (tkc k bt p)) 5 5 = nI (tkb k bt p) := by rw [wrn (by decide)]; exact e5
    by_cases c0 : tkc k bt p = 0
    · have hb : ¬ tkb k bt p < k := fun q => by
        unfold tkc at c0
        rw [if_pos q] at c0
        have := kd_r (bt (tkb k bt p))
        omega
      have he : tke k bt p = tkb k bt p := by unfold tke; rw [if_neg hb]
      refine Ok.bd (fun r u => u = wr s 5 4 (nI (tkc k bt p)) ∧ r = nI (tkb k bt p)) (Ok.ifT (by rw [c0]; rfl) (Ok.rdE e52 (Ok.ret ⟨rfl, rfl⟩))) ?_
      rintro _ _ ⟨rfl, rfl⟩
      refine OkwrE (Ok.rdE (x := nI (tkc k bt p)) (by rw [wrn (by decide), wrs]) ?_)
      refine Ok.ifF (by rw [c0]; decide) (Ok.rdE (x := nI (tkc k bt p)) (by rw [wrn (by decide), wrs]) (Ok.ifF (by rw [c0]; decide) (Ok.ret ⟨⟨?_, hp, ?_, ?_, ?_⟩, ?_⟩)))
      · exact hC.fr (by rw [wr_off 1 (by decide), wr_off 1 (by decide)]) (by rw [wr_off 2 (by decide), wr_off 2 (by decide)])
      · rw [wrn (by decide)]; exact e52
      · rw [wrn (by decide), wrs]
      · rw [wrs, he]
      · exact hK2.tr ⟨fun c hc => wr_off c hc, wrn (by decide), wrn (by decide)⟩
    have hb : tkb k bt p < k := by
      refine Decidable.byContradiction (fun q => c0 ?_)
      unfold tkc
      rw [if_neg q]
    have ec : tkc k bt p = kd (bt (tkb k bt p)) := by unfold tkc; rw [if_pos hb]
    refine Ok.bd (fun r u => u = wr s 5 4 (nI (tkc k bt p)) ∧ r = nI (tkb k bt p + 1)) (Ok.ifF (by rw [li_0, nI_eqP (by omega) (by omega)]; exact c0) (Ok.rdE e52 (Ok.ret ⟨rfl, nI_1 _⟩))) ?_
    rintro _ _ ⟨rfl, rfl⟩
    refine OkwrE (Ok.rdE (x := nI (tkc k bt p)) (by rw [wrn (by decide), wrs]) ?_)
    have hK3 : KR t (wr (wr s 5 4 (nI (tkc k bt p))) 5 6 (nI (tkb k bt p + 1))) := hK2.tr ⟨fun c hc => wr_off c hc, wrn (by decide), wrn (by decide)⟩
    have f5 : wr (wr s 5 4 (nI (tkc k bt p))) 5 6 (nI (tkb k bt p + 1)) 5 5 = nI (tkb k bt p) := by rw [wrn (by decide)]; exact e52
    have f4 : wr (wr s 5 4 (nI (tkc k bt p))) 5 6 (nI (tkb k bt p + 1)) 5 4 = nI (tkc k bt p) := by rw [wrn (by decide), wrs]
    have f6 : wr (wr s 5 4 (nI (tkc k bt p))) 5 6 (nI (tkb k bt p + 1)) 5 6 = nI (tkb k bt p + 1) := wrs
    generalize wr (wr s 5 4 (nI (tkc k bt p))) 5 6 (nI (tkb k bt p + 1)) = y at hK3 f5 f4 f6 ⊢
    have loop : ¬ tkc k bt p = 3 → Ok (wh (SX7_step_110) () y) (fun _ u => RC k bt p u ∧ KR t u) := by
      intro h3
      refine Ok.loop (fun m _ s => ∃ j, m = k - j ∧ tkb k bt p + 1 ≤ j ∧ j ≤ k ∧ (∀ i, tkb k bt p + 1 ≤ i → i < j → (kd (bt i) == kd (bt (tkb k bt p))) = true) ∧ s 5 6 = nI j ∧ s 5 5 = nI (tkb k bt p) ∧ s 5 4 = nI (tkc k bt p) ∧ KR t s) ?_ (k - (tkb k bt p + 1)) _ _ ⟨_, rfl, Nat.le_refl _, by omega, fun i a b => by omega, f6, f5, f4, hK3⟩
      rintro m ⟨⟩ s ⟨j, rfl, h1, h2, h4, g6, g5, g4, gK⟩
      have hC := gK.ct h
      unfold SX7_step_110
      refine Ok.rdE g6 (Ok.rdE hC.2.1 ?_)
      by_cases c : k ≤ j
      · refine Ok.ifT (by rw [nI_leP (by omega) (by omega)]; exact c) (Ok.ret ⟨⟨hC, hp, g5, g4, ?_⟩, gK⟩)
        rw [g6]
        congr 1
        exact AV.uq (P := fun j => kd (bt j) == kd (bt (tkb k bt p))) ⟨h1, h2, h4, fun q => by omega⟩ (tke_AV hk hp hb (by rw [← ec]; exact h3))
      · refine Ok.ifF (by rw [nI_leP (by omega) (by omega)]; exact c) (Ok.rdE g6 ?_)
        refine Ok.bd _ (e_at hC (by omega) (Q := fun r u => s = u ∧ r = nI (bt j) ∧ bt j < 256) (fun _ a => ⟨rfl, rfl, a⟩) (fun a => by omega)) ?_
        rintro _ _ ⟨rfl, rfl, hb3⟩
        refine Ok.bd _ (e_kindOf hb3 (Q := fun r u => s = u ∧ r = nI (kd (bt j))) ⟨rfl, rfl⟩) ?_
        rintro _ _ ⟨rfl, rfl⟩
        refine Ok.rdE g4 ?_
        have k4 := kd_r (bt j)
        rw [ec]
        refine Ok.cv (nI_eqP (by omega) (by omega)) (Ok.ite (fun q => ?_) (fun q => ?_))
        · refine Ok.rdE g6 (OkwrE (Ok.ret ⟨k - (j + 1), by omega, j + 1, rfl, by omega, by omega, fun i a b => ?_, ?_, ?_, ?_, ?_⟩))
          · by_cases e : i = j
            · rw [e, q]; exact beq_self_eq_true _
            · exact h4 i a (by omega)
          · rw [wrs, nI_1]
          · rw [wrn (by decide)]; exact g5
          · rw [wrn (by decide), g4, ec]
          · exact gK.tr ⟨fun c hc => wr_off c hc, wrn (by decide), wrn (by decide)⟩
        · refine Ok.ret ⟨⟨hC, hp, g5, g4, ?_⟩, gK⟩
          rw [g6]
          congr 1
          refine AV.uq (P := fun j => kd (bt j) == kd (bt (tkb k bt p))) ⟨h1, h2, h4, fun _ => ?_⟩ (tke_AV hk hp hb (by rw [← ec]; exact h3))
          exact beq_eq_false_iff_ne.mpr q
    by_cases c1 : tkc k bt p = 1
    · refine Ok.ifT (by rw [c1]; rfl) (Ok.bd _ (loop (by omega)) (fun _ u hu => Ok.ret hu))
    · refine Ok.ifF (by rw [li_1, nI_eqP (by omega) (by omega)]; exact c1) (Ok.rdE f4 ?_)
      by_cases c2 : tkc k bt p = 2
      · refine Ok.ifT (by rw [c2]; rfl) (Ok.bd _ (loop (by omega)) (fun _ u hu => Ok.ret hu))
      · refine Ok.ifF (by rw [li_2, nI_eqP (by omega) (by omega)]; exact c2) (Ok.ret ⟨⟨hK3.ct h, hp, f5, f4, ?_⟩, hK3⟩)
        rw [f6]
        congr 1
        unfold tke
        rw [if_pos hb, if_pos (by omega)]
/-- from a token to the next -/
theorem e_nx {k : Nat} {bt : Nat → Nat} {t : St} {p : Nat} (h : RC k bt p t) : Ok (FX7_step t) (fun _ u => RC k bt (tke k bt p) u ∧ KR t u) := e_step h.1 h.le.2.1 h.2.2.2.2
/-- a fault, or what was read -/
def PFx {α : Type} (t : St) (x : (Nat × Nat) ⊕ α) (P : α → St → Prop) (r : Int32) (u : St) : Prop := Sum.elim (fun f => r = 0 ∧ u 5 1 = nI f.1 ∧ u 5 2 = nI f.2 ∧ DR t u) (fun v => r = 1 ∧ P v u) x
theorem PFx.l {α : Type} {t u : St} {x : (Nat × Nat) ⊕ α} {P : α → St → Prop} {f : Nat × Nat} {r : Int32} (e : x = .inl f) (h : r = 0 ∧ u 5 1 = nI f.1 ∧ u 5 2 = nI f.2 ∧ DR t u) : PFx t x P r u := by rw [e]; exact h
theorem PFx.r {α : Type} {t u : St} {x : (Nat × Nat) ⊕ α} {P : α → St → Prop} {v : α} {r : Int32} (e : x = .inr v) (h : r = 1 ∧ P v u) : PFx t x P r u := by rw [e]; exact h
theorem PFx.gl {α : Type} {t u : St} {x : (Nat × Nat) ⊕ α} {P : α → St → Prop} {f : Nat × Nat} {r : Int32} (h : PFx t x P r u) (e : x = .inl f) : r = 0 ∧ u 5 1 = nI f.1 ∧ u 5 2 = nI f.2 ∧ DR t u := by rw [e] at h; exact h
theorem PFx.gr {α : Type} {t u : St} {x : (Nat × Nat) ⊕ α} {P : α → St → Prop} {v : α} {r : Int32} (h : PFx t x P r u) (e : x = .inr v) : r = 1 ∧ P v u := by rw [e] at h; exact h
theorem e_blame {k : Nat} {bt : Nat → Nat} {t : St} {p f : Nat} (h : RC k bt p t) : Ok (FX7_blame (nI f) t) (fun r u => r = 0 ∧ u 5 1 = nI f ∧ u 5 2 = nI (tkb k bt p) ∧ DR t u) := by
  unfold FX7_blame
  refine OkwrE (Ok.rdE (x := nI (tkb k bt p)) ?_ (OkwrE (Ok.ret ⟨rfl, ?_, wrs, fun c hc => ?_⟩)))
  · rw [wrn (by decide)]; exact h.2.2.1
  · rw [wrn (by decide), wrs]
  · rw [wr_off c (by omega), wr_off c (by omega)]
theorem RC.w7 {k : Nat} {bt : Nat → Nat} {p : Nat} {t : St} (h : RC k bt p t) {v : Int32} : RC k bt p (wr t 5 7 v) ∧ KR t (wr t 5 7 v) := by
  refine ⟨⟨h.1.fr (wr_off 1 (by decide)) (wr_off 2 (by decide)), h.2.1, ?_, ?_, ?_⟩, fun c hc => wr_off c hc, wrn (by decide), wrn (by decide)⟩
  · rw [wrn (by decide)]; exact h.2.2.1
  · rw [wrn (by decide)]; exact h.2.2.2.1
  · rw [wrn (by decide)]; exact h.2.2.2.2
theorem tk2 {k : Nat} {bt : Nat → Nat} {p : Nat} (hk : k < 401) (hp : p ≤ k) (c : tkc k bt p = 2) : tkb k bt p < k ∧ ∀ j, tkb k bt p ≤ j → j < tke k bt p → 48 ≤ bt j ∧ bt j ≤ 57 := by
  have hb : tkb k bt p < k := by
    refine Decidable.byContradiction (fun q => ?_)
    unfold tkc at c
    rw [if_neg q] at c
    cases c
  refine ⟨hb, fun j h1 h2 => ?_⟩
  have h3 := tke_kd hk hp hb j h1 h2
  have ec : tkc k bt p = kd (bt (tkb k bt p)) := by unfold tkc; rw [if_pos hb]
  rw [← ec, c] at h3
  unfold kd at h3
  by_cases q1 : 97 ≤ bt j ∧ bt j ≤ 122
  · rw [if_pos q1] at h3; cases h3
  · rw [if_neg q1] at h3
    by_cases q2 : 48 ≤ bt j ∧ bt j ≤ 57
    · exact q2
    · rw [if_neg q2] at h3; cases h3
theorem e_num {k : Nat} {bt : Nat → Nat} {t : St} {p lo hi : Nat} (h : RC k bt p t) (hlo : lo < 1001) (hhi : hi < 1001) : Ok (FX7_isNumberFrom (nI lo) (nI hi) t) (PFx t (num k bt lo hi p) (fun v u => u 5 7 = nI v ∧ RC k bt p u ∧ KR t u)) := by
  have hk := h.1.1
  have hle := h.le
  have hc4 := tkc_lt (k := k) (bt := bt) (p := p)
  unfold FX7_isNumberFrom
  refine Ok.rdE h.2.2.2.1 ?_
  by_cases c : tkc k bt p = 2
  · refine Ok.ifT (by rw [c]; rfl) (OkwrE (Ok.rdE (x := nI (tkb k bt p)) h.w7.1.2.2.1 ?_))
    obtain ⟨hb, hd⟩ := tk2 hk h.2.1 c
    refine Ok.bd (fun _ s => s 5 7 = nI (vl bt (tkb k bt p) (tke k bt p - tkb k bt p)) ∧ RC k bt p s ∧ KR t s) ?_ ?_
    · refine Ok.count (tke k bt p - tkb k bt p) (fun j c s => c = nI (tkb k bt p + j) ∧ s 5 7 = nI (vl bt (tkb k bt p) j) ∧ RC k bt p s ∧ KR t s) ?_ ?_ (Nat.zero_le _) ⟨rfl, wrs, h.w7.1, h.w7.2⟩
      · rintro j c s hj ⟨rfl, e7, hR, hK⟩
        unfold SX7_isNumberFrom_24
        refine Ok.rdE hR.2.2.2.2 (Ok.ifF (by rw [nI_leP (by omega) (by omega)]; omega) (Ok.rdE e7 ?_))
        refine Ok.bd _ (e_at hR.1 (by omega) (Q := fun r u => s = u ∧ r = nI (bt (tkb k bt p + j)) ∧ bt (tkb k bt p + j) < 256) (fun _ a => ⟨rfl, rfl, a⟩) (fun a => by omega)) ?_
        rintro _ _ ⟨rfl, rfl, hb3⟩
        have hd2 := hd (tkb k bt p + j) (by omega) (by omega)
        have hv := vl_le (bt := bt) (b := tkb k bt p) j
        refine OkwrE (Ok.ret ⟨?_, ?_, hR.w7.1, hK.tr hR.w7.2⟩)
        · rw [nI_1]; rfl
        · rw [wrs, li_10, li_48, li_1000, nI_mul, nI_add, nI_sub (by omega), mnI_n (by omega) (by omega)]
          congr 1
          show _ = Nat.min 1000 (10 * vl bt (tkb k bt p) j + bt (tkb k bt p + j) - 48)
          rw [Nat.mul_comm]
      · rintro c s ⟨rfl, e7, hR, hK⟩
        unfold SX7_isNumberFrom_24
        exact Ok.rdE hR.2.2.2.2 (Ok.ifT (by rw [nI_leP (by omega) (by omega)]; omega) (Ok.ret ⟨e7, hR, hK⟩))
    · rintro _ s ⟨e7, hR, hK⟩
      have hv := vl_le (bt := bt) (b := tkb k bt p) (tke k bt p - tkb k bt p)
      refine Ok.rdE e7 ?_
      by_cases c1 : vl bt (tkb k bt p) (tke k bt p - tkb k bt p) < lo
      · have en : num k bt lo hi p = .inl (2, tkb k bt p) := by unfold num; rw [if_pos c, if_neg (by omega)]
        refine Ok.ifT (by rw [nI_ltP (by omega) (by omega)]; exact c1) (Ok.bd _ (e_blame (f := 2) hR) ?_)
        rintro _ u ⟨rfl, h1, h2, h3⟩
        exact Ok.ifT rfl (Ok.ret (PFx.l en ⟨rfl, h1, h2, hK.dr.tr h3⟩))
      refine Ok.ifF (by rw [nI_ltP (by omega) (by omega)]; exact c1) (Ok.rdE e7 ?_)
      by_cases c2 : vl bt (tkb k bt p) (tke k bt p - tkb k bt p) ≤ hi
      · have en : num k bt lo hi p = .inr (vl bt (tkb k bt p) (tke k bt p - tkb k bt p)) := by unfold num; rw [if_pos c, if_pos (by omega)]
        exact Ok.ifT (by rw [nI_leP (by omega) (by omega)]; exact c2) (Ok.ret (PFx.r en ⟨rfl, e7, hR, hK⟩))
      · have en : num k bt lo hi p = .inl (2, tkb k bt p) := by unfold num; rw [if_pos c, if_neg (by omega)]
        refine Ok.ifF (by rw [nI_leP (by omega) (by omega)]; exact c2) (Ok.bd _ (e_blame (f := 2) hR) ?_)
        rintro _ u ⟨rfl, h1, h2, h3⟩
        exact Ok.ifT rfl (Ok.ret (PFx.l en ⟨rfl, h1, h2, hK.dr.tr h3⟩))
  · have en : num k bt lo hi p = .inl (1, tkb k bt p) := by unfold num; rw [if_neg c]
    refine Ok.ifF (by rw [li_2, nI_eqP (by omega) (by omega)]; exact c) (Ok.bd _ (e_blame (f := 1) h) ?_)
    rintro _ u ⟨rfl, h1, h2, h3⟩
    exact Ok.ckT rfl (Ok.ret (PFx.l en ⟨rfl, h1, h2, h3⟩))
theorem e_point {k : Nat} {bt : Nat → Nat} {t : St} {p N l : Nat} {w : Nat → Nat → Nat} (h : RC k bt p t) (hn : CN 6 N l w t) (h1 : 1 ≤ N) (h9 : N < 10) : Ok (FX7_isPoint t) (PFx t (num k bt 0 (N - 1) p) (fun v u => u 5 7 = nI v ∧ RC k bt p u ∧ KR t u)) := by
  unfold FX7_isPoint
  refine Ok.rdE hn.1 ?_
  rw [li_1, nI_sub h1]
  refine Ok.bd _ (e_num (lo := 0) h (by omega) (by omega)) ?_
  intro r u hr
  have hb : isb r = true := by
    cases e : num k bt 0 (N - 1) p with
    | inl f => rw [(hr.gl e).1]; rfl
    | inr v => rw [(hr.gr e).1]; rfl
  exact Ok.ckT hb (Ok.ret hr)
theorem e_sign {k : Nat} {bt : Nat → Nat} {t : St} {p c : Nat} (h : RC k bt p t) (hc : c < 256) {Q : Int32 → St → Prop} (q1 : sgn k bt c p = true → Q 1 t) (q0 : sgn k bt c p = false → Q 0 t) : Ok (FX7_isSign (nI c) t) Q := by
  have hle := h.le
  have hc4 := tkc_lt (k := k) (bt := bt) (p := p)
  unfold FX7_isSign
  refine Ok.rdE h.2.2.2.1 ?_
  by_cases c3 : tkc k bt p = 3
  · refine Ok.ifT (by rw [c3]; rfl) (Ok.rdE h.2.2.1 ?_)
    have hb : tkb k bt p < k := by
      refine Decidable.byContradiction (fun q => ?_)
      unfold tkc at c3
      rw [if_neg q] at c3
      cases c3
    refine Ok.bd _ (e_at h.1 (by omega) (Q := fun r u => t = u ∧ r = nI (bt (tkb k bt p)) ∧ bt (tkb k bt p) < 256) (fun _ a => ⟨rfl, rfl, a⟩) (fun a => by omega)) ?_
    rintro _ _ ⟨rfl, rfl, hb3⟩
    exact Ok.cv (nI_eqP (by omega) (by omega)) (Ok.ite (fun q => Ok.ret (q1 (decide_eq_true ⟨c3, q⟩))) (fun q => Ok.ret (q0 (decide_eq_false (fun a => q a.2)))))
  · exact Ok.ifF (by rw [li_3, nI_eqP (by omega) (by omega)]; exact c3) (Ok.ret (q0 (decide_eq_false (fun a => c3 a.1))))
end
section
/-! the class reads a text, on -/
theorem tk3 {k : Nat} {bt : Nat → Nat} {p : Nat} (c : ¬ tkc k bt p = 0) : tkb k bt p < k := by
  refine Decidable.byContradiction (fun q => c ?_)
  unfold tkc
  rw [if_neg q]
theorem e_word0 {k : Nat} {bt : Nat → Nat} {t : St} {p : Nat} (h : RC k bt p t) {Q : Int32 → St → Prop} (q1 : wrd k bt 110 101 116 p = true → Q 1 t) (q0 : wrd k bt 110 101 116 p = false → Q 0 t) : Ok (FX7_isWord_s0 t) Q := by
  have hle := h.le
  have hc4 := tkc_lt (k := k) (bt := bt) (p := p)
  unfold FX7_isWord_s0
  refine Ok.rdE h.2.2.2.1 ?_
  by_cases c1 : tkc k bt p = 1
  · refine Ok.ifT (by rw [c1]; rfl) (Ok.rdE h.2.2.2.2 (Ok.rdE h.2.2.1 ?_))
    rw [nI_sub (by omega), li_3]
    refine Ok.cv (nI_eqP (by omega) (by omega)) ?_
    by_cases c3 : tke k bt p - tkb k bt p = 3
    · refine Ok.ifT c3 (Ok.bd (fun r u => t = u ∧ Sum.elim (fun v => v = 0 ∧ wrd k bt 110 101 116 p = false) (fun _ => wrd k bt 110 101 116 p = true) r) ?_ ?_)
      · refine Ok.count 3 (fun j c s => c = nI j ∧ t = s ∧ (0 < j → bt (tkb k bt p) = 110) ∧ (1 < j → bt (tkb k bt p + 1) = 101) ∧ (2 < j → bt (tkb k bt p + 2) = 116)) ?_ ?_ (Nat.zero_le _) ⟨rfl, rfl, fun q => by omega, fun q => by omega, fun q => by omega⟩
        · rintro j c s hj ⟨rfl, rfl, h0, h1, h2⟩
          unfold SX7_isWord_s0_28
          refine Ok.ifF (by rw [li_3, nI_leP (by omega) (by omega)]; omega) (Ok.rdE h.2.2.1 ?_)
          rw [nI_add]
          refine Ok.bd _ (e_at h.1 (by omega) (Q := fun r u => t = u ∧ r = nI (bt (tkb k bt p + j)) ∧ bt (tkb k bt p + j) < 256) (fun _ a => ⟨rfl, rfl, a⟩) (fun a => by omega)) ?_
          rintro _ _ ⟨rfl, rfl, hb3⟩
          refine Ok.ckT (inb_n hj (by omega)) ?_
          rcases (show j = 0 ∨ j = 1 ∨ j = 2 by omega) with rfl | rfl | rfl
          · rw [show chr [110, 101, 116] (nI 0) = nI 110 from rfl]
            exact Ok.cv (nI_eqP (by omega) (by omega)) (Ok.ite (fun q => Ok.ret ⟨rfl, rfl, fun _ => q, fun q => by omega, fun q => by omega⟩) (fun q => Ok.ret ⟨rfl, rfl, decide_eq_false (fun a => q a.2.2.1)⟩))
          · rw [show chr [110, 101, 116] (nI 1) = nI 101 from rfl]
            exact Ok.cv (nI_eqP (by omega) (by omega)) (Ok.ite (fun q => Ok.ret ⟨rfl, rfl, fun _ => h0 (by omega), fun _ => q, fun q => by omega⟩) (fun q => Ok.ret ⟨rfl, rfl, decide_eq_false (fun a => q a.2.2.2.1)⟩))
          · rw [show chr [110, 101, 116] (nI 2) = nI 116 from rfl]
            exact Ok.cv (nI_eqP (by omega) (by omega)) (Ok.ite (fun q => Ok.ret ⟨rfl, rfl, fun _ => h0 (by omega), fun _ => h1 (by omega), fun _ => q⟩) (fun q => Ok.ret ⟨rfl, rfl, decide_eq_false (fun a => q a.2.2.2.2)⟩))
        · rintro c s ⟨rfl, rfl, h0, h1, h2⟩
          unfold SX7_isWord_s0_28
          exact Ok.ifT (by rw [li_3, nI_leP (by omega) (by omega)]; omega) (Ok.ret ⟨rfl, decide_eq_true ⟨c1, by omega, h0 (by omega), h1 (by omega), h2 (by omega)⟩⟩)
      · rintro (r | r) _ ⟨rfl, hr⟩
        · obtain ⟨rfl, hr⟩ := hr
          exact Ok.el (Ok.ret (q0 hr))
        · exact Ok.er (Ok.ret (q1 hr))
    · exact Ok.ifF c3 (Ok.ret (q0 (decide_eq_false (fun a => c3 (by omega)))))
  · exact Ok.ifF (by rw [li_1, nI_eqP (by omega) (by omega)]; exact c1) (Ok.ret (q0 (decide_eq_false (fun a => c1 a.1))))
theorem e_word1 {k : Nat} {bt : Nat → Nat} {t : St} {p : Nat} (h : RC k bt p t) {Q : Int32 → St → Prop} (q1 : wrd k bt 114 111 119 p = true → Q 1 t) (q0 : wrd k bt 114 111 119 p = false → Q 0 t) : Ok (FX7_isWord_s1 t) Q := by
  have hle := h.le
  have hc4 := tkc_lt (k := k) (bt := bt) (p := p)
  unfold FX7_isWord_s1
  refine Ok.rdE h.2.2.2.1 ?_
  by_cases c1 : tkc k bt p = 1
  · refine Ok.ifT (by rw [c1]; rfl) (Ok.rdE h.2.2.2.2 (Ok.rdE h.2.2.1 ?_))
    rw [nI_sub (by omega), li_3]
    refine Ok.cv (nI_eqP (by omega) (by omega)) ?_
    by_cases c3 : tke k bt p - tkb k bt p = 3
    · refine Ok.ifT c3 (Ok.bd (fun r u => t = u ∧ Sum.elim (fun v => v = 0 ∧ wrd k bt 114 111 119 p = false) (fun _ => wrd k bt 114 111 119 p = true) r) ?_ ?_)
      · refine Ok.count 3 (fun j c s => c = nI j ∧ t = s ∧ (0 < j → bt (tkb k bt p) = 114) ∧ (1 < j → bt (tkb k bt p + 1) = 111) ∧ (2 < j → bt (tkb k bt p + 2) = 119)) ?_ ?_ (Nat.zero_le _) ⟨rfl, rfl, fun q => by omega, fun q => by omega, fun q => by omega⟩
        · rintro j c s hj ⟨rfl, rfl, h0, h1, h2⟩
          unfold SX7_isWord_s1_28
          refine Ok.ifF (by rw [li_3, nI_leP (by omega) (by omega)]; omega) (Ok.rdE h.2.2.1 ?_)
          rw [nI_add]
          refine Ok.bd _ (e_at h.1 (by omega) (Q := fun r u => t = u ∧ r = nI (bt (tkb k bt p + j)) ∧ bt (tkb k bt p + j) < 256) (fun _ a => ⟨rfl, rfl, a⟩) (fun a => by omega)) ?_
          rintro _ _ ⟨rfl, rfl, hb3⟩
          refine Ok.ckT (inb_n hj (by omega)) ?_
          rcases (show j = 0 ∨ j = 1 ∨ j = 2 by omega) with rfl | rfl | rfl
          · rw [show chr [114, 111, 119] (nI 0) = nI 114 from rfl]
            exact Ok.cv (nI_eqP (by omega) (by omega)) (Ok.ite (fun q => Ok.ret ⟨rfl, rfl, fun _ => q, fun q => by omega, fun q => by omega⟩) (fun q => Ok.ret ⟨rfl, rfl, decide_eq_false (fun a => q a.2.2.1)⟩))
          · rw [show chr [114, 111, 119] (nI 1) = nI 111 from rfl]
            exact Ok.cv (nI_eqP (by omega) (by omega)) (Ok.ite (fun q => Ok.ret ⟨rfl, rfl, fun _ => h0 (by omega), fun _ => q, fun q => by omega⟩) (fun q => Ok.ret ⟨rfl, rfl, decide_eq_false (fun a => q a.2.2.2.1)⟩))
          · rw [show chr [114, 111, 119] (nI 2) = nI 119 from rfl]
            exact Ok.cv (nI_eqP (by omega) (by omega)) (Ok.ite (fun q => Ok.ret ⟨rfl, rfl, fun _ => h0 (by omega), fun _ => h1 (by omega), fun _ => q⟩) (fun q => Ok.ret ⟨rfl, rfl, decide_eq_false (fun a => q a.2.2.2.2)⟩))
        · rintro c s ⟨rfl, rfl, h0, h1, h2⟩
          unfold SX7_isWord_s1_28
          exact Ok.ifT (by rw [li_3, nI_leP (by omega) (by omega)]; omega) (Ok.ret ⟨rfl, decide_eq_true ⟨c1, by omega, h0 (by omega), h1 (by omega), h2 (by omega)⟩⟩)
      · rintro (r | r) _ ⟨rfl, hr⟩
        · obtain ⟨rfl, hr⟩ := hr
          exact Ok.el (Ok.ret (q0 hr))
        · exact Ok.er (Ok.ret (q1 hr))
    · exact Ok.ifF c3 (Ok.ret (q0 (decide_eq_false (fun a => c3 (by omega)))))
  · exact Ok.ifF (by rw [li_1, nI_eqP (by omega) (by omega)]; exact c1) (Ok.ret (q0 (decide_eq_false (fun a => c1 a.1))))
theorem e_takeSign {k : Nat} {bt : Nat → Nat} {t : St} {p c : Nat} (h : RC k bt p t) (hc : c < 256) : Ok (FX7_takeSign (nI c) t) (PFx t (if sgn k bt c p = true then .inr (tke k bt p) else .inl (1, tkb k bt p)) (fun v u => RC k bt v u ∧ KR t u)) := by
  unfold FX7_takeSign
  refine Ok.bd _ (e_sign h hc (Q := fun r u => t = u ∧ ((r = 1 ∧ sgn k bt c p = true) ∨ (r = 0 ∧ sgn k bt c p = false))) (fun a => ⟨rfl, Or.inl ⟨rfl, a⟩⟩) (fun a => ⟨rfl, Or.inr ⟨rfl, a⟩⟩)) ?_
  rintro r _ ⟨rfl, ⟨rfl, hs⟩ | ⟨rfl, hs⟩⟩
  · refine Ok.ifF (by decide) (Ok.bd _ (e_nx h) ?_)
    rintro _ u ⟨h1, h2⟩
    exact Ok.ret (PFx.r (if_pos hs) ⟨rfl, h1, h2⟩)
  · refine Ok.ifT rfl (Ok.bd _ (e_blame (f := 1) h) ?_)
    rintro _ u ⟨rfl, h1, h2, h3⟩
    exact Ok.ckT rfl (Ok.ret (PFx.l (if_neg (by rw [hs]; decide)) ⟨rfl, h1, h2, h3⟩))
/-- only what is read, and the draft's net, change -/
def KD (t u : St) : Prop := DR t u ∧ u 8 = t 8 ∧ u 5 1 = t 5 1 ∧ u 5 2 = t 5 2
theorem KR.kd {t u : St} (h : KR t u) : KD t u := ⟨h.dr, h.1 8 (by decide), h.2.1, h.2.2⟩
theorem KD.tr {t u v : St} (h : KD t u) (g : KD u v) : KD t v := ⟨h.1.tr g.1, g.2.1.trans h.2.1, g.2.2.1.trans h.2.2.1, g.2.2.2.trans h.2.2.2⟩
theorem RC.kd {k : Nat} {bt : Nat → Nat} {p : Nat} {t u : St} (h : RC k bt p t) (e1 : u 1 = t 1) (e2 : u 2 = t 2) (e5 : u 5 = t 5) : RC k bt p u := by
  refine ⟨h.1.fr e1 e2, h.2.1, ?_, ?_, ?_⟩
  · rw [e5]; exact h.2.2.1
  · rw [e5]; exact h.2.2.2.1
  · rw [e5]; exact h.2.2.2.2
theorem n6 : netAt 6 = true := by decide +kernel
theorem e_draw {k : Nat} {bt : Nat → Nat} {t : St} {p N c a b v : Nat} {w : Nat → Nat → Nat} (h : RC k bt p t) (hn : CN 6 N c w t) (ha : a < 9) (hb : b < 9) (hab : a ≠ b) (h0 : w a b = 0) (hv : v < 10) (hv0 : 0 < v) (hc : c < 31) : Ok (FX5_setWeight 6 (nI a) (nI b) (nI v) t) (fun _ u => RC k bt p u ∧ CN 6 N (c + 1) (setw w a b v) u ∧ KD t u) := by
  refine (e_setWeight hn n6 ha hb hab hv (by omega) (fun q => by omega) (by omega)).mono ?_
  rintro _ u ⟨h1, h2⟩
  rw [if_neg (by omega), if_pos hv0, Nat.sub_zero] at h1
  have e5 := h2 5 (by decide) (by decide) (by decide)
  exact ⟨h.kd (h2 1 (by decide) (by decide) (by decide)) (h2 2 (by decide) (by decide) (by decide)) e5, h1, fun c hc => h2 c (by omega) (by omega) (by omega), h2 8 (by decide) (by decide) (by decide), by rw [e5], by rw [e5]⟩
theorem e_readWeight {k : Nat} {bt : Nat → Nat} {t : St} {p N c a b : Nat} {w : Nat → Nat → Nat} (h : RC k bt p t) (hn : CN 6 N c w t) (ha : a < 9) (hb : b < 9) (hab : a ≠ b) (h0 : w a b = 0) (hc : c < 31) : Ok (FX7_readWeight (nI a) (nI b) t) (PFx t (pwt k bt w a b p) (fun v u => RC k bt v.1 u ∧ CN 6 N (c + 1) v.2 u ∧ KD t u)) := by
  unfold FX7_readWeight
  refine Ok.bd _ (e_sign (c := 61) h (by omega) (Q := fun r u => t = u ∧ ((r = 1 ∧ sgn k bt 61 p = true) ∨ (r = 0 ∧ sgn k bt 61 p = false))) (fun a => ⟨rfl, Or.inl ⟨rfl, a⟩⟩) (fun a => ⟨rfl, Or.inr ⟨rfl, a⟩⟩)) ?_
  rintro r _ ⟨rfl, ⟨rfl, hs⟩ | ⟨rfl, hs⟩⟩
  · skip
    have ep : pwt k bt w a b p = sbn (num k bt 1 9 (tke k bt p)) (fun v => .inr (tke k bt (tke k bt p), setw w a b v)) := if_pos hs
    refine Ok.ifF (by decide) (Ok.bd _ (e_nx h) ?_)
    rintro _ u ⟨h1, k1⟩
    refine Ok.bd _ (e_num (lo := 1) (hi := 9) h1 (by omega) (by omega)) ?_
    intro r u2 hr
    cases e : num k bt 1 9 (tke k bt p) with
    | inl f =>
      obtain ⟨rfl, a1, a2, a3⟩ := hr.gl e
      exact Ok.ifT rfl (Ok.ret (PFx.l (ep.trans (sbn_l e)) ⟨rfl, a1, a2, k1.dr.tr a3⟩))
    | inr v =>
      obtain ⟨rfl, e7, h2, k2⟩ := hr.gr e
      have hv := num_in e
      refine Ok.ifF (by decide) (Ok.rdE e7 (Ok.bd _ (e_nx h2) ?_))
      rintro _ u3 ⟨h3, k3⟩
      have kk := (k1.tr k2).tr k3
      refine Ok.bd _ (e_draw (v := v) h3 (kk.cn hn (by omega)) ha hb hab h0 (by omega) (by omega) hc) ?_
      rintro _ u4 ⟨h4, n4, k4⟩
      exact Ok.ret (PFx.r (ep.trans (sbn_r e)) ⟨rfl, h4, n4, kk.kd.tr k4⟩)
  · have ep : pwt k bt w a b p = .inr (p, setw w a b 1) := if_neg (by rw [hs]; decide)
    refine Ok.ifT rfl (Ok.bd _ (e_draw (v := 1) h hn ha hb hab h0 (by omega) (by omega) hc) ?_)
    rintro _ u4 ⟨h4, n4, k4⟩
    exact Ok.ret (PFx.r ep ⟨rfl, h4, n4, k4⟩)
theorem e_readLine {k : Nat} {bt : Nat → Nat} {t : St} {p N c : Nat} {w : Nat → Nat → Nat} (h : RC k bt p t) (hn : CN 6 N c w t) (hN : 1 ≤ N) (h9 : N < 10) (hc : c < 31) (hw : ∀ a b, a < 9 → b < 9 → w a b < 10) : Ok (FX7_readLine t) (PFx t (pline k bt N w c p) (fun v u => RC k bt v.1 u ∧ CN 6 N (c + 1) v.2 u ∧ KD t u)) := by
  unfold FX7_readLine
  refine Ok.bd _ (e_point h hn hN h9) ?_
  intro r u hr
  cases e : num k bt 0 (N - 1) p with
  | inl f =>
    obtain ⟨rfl, a1, a2, a3⟩ := hr.gl e
    exact Ok.ifT rfl (Ok.ret (PFx.l (sbn_l e) ⟨rfl, a1, a2, a3⟩))
  | inr a =>
    obtain ⟨rfl, e7, h2, k2⟩ := hr.gr e
    have hv := num_in e
    have n2 := k2.cn hn (by omega)
    have e1 := sbn_r (f := fun a => if c < 30 then (if sgn k bt 45 (tke k bt p) = true then sbn (num k bt 0 (N - 1) (tke k bt (tke k bt p))) (fun b => if a = b then .inl (2, tkb k bt (tke k bt (tke k bt p))) else if w a b = 0 then pwt k bt w a b (tke k bt (tke k bt (tke k bt p))) else .inl (3, tkb k bt (tke k bt (tke k bt p)))) else .inl (1, tkb k bt (tke k bt p))) else .inl (4, tkb k bt p)) e
    have e1 : pline k bt N w c p = _ := e1
    refine Ok.ifF (by decide) (Ok.rdE n2.2.1 ?_)
    rw [li_30]
    refine Ok.cv (nI_ltP (by omega) (by omega)) ?_
    by_cases c30 : c < 30
    · rw [if_pos c30] at e1
      refine Ok.ifT c30 (Ok.rdE e7 (Ok.bd _ (e_nx h2) ?_))
      rintro _ u3 ⟨h3, k3⟩
      refine Ok.bd _ (e_takeSign (c := 45) h3 (by omega)) ?_
      intro r u4 hr4
      by_cases s45 : sgn k bt 45 (tke k bt p) = true
      · rw [if_pos s45] at e1
        obtain ⟨rfl, h4, k4⟩ := hr4.gr (if_pos s45)
        have kk := (k2.tr k3).tr k4
        have n4 := kk.cn hn (by omega)
        refine Ok.ifF (by decide) (Ok.bd _ (e_point h4 n4 hN h9) ?_)
        intro r u5 hr5
        cases e2 : num k bt 0 (N - 1) (tke k bt (tke k bt p)) with
        | inl f =>
          obtain ⟨rfl, a1, a2, a3⟩ := hr5.gl e2
          exact Ok.ifT rfl (Ok.ret (PFx.l (e1.trans (sbn_l e2)) ⟨rfl, a1, a2, kk.dr.tr a3⟩))
        | inr b =>
          obtain ⟨rfl, e75, h5, k5⟩ := hr5.gr e2
          have hv2 := num_in e2
          have kk5 := kk.tr k5
          have n5 := kk5.cn hn (by omega)
          rw [sbn_r e2] at e1
          refine Ok.ifF (by decide) (Ok.rdE e75 ?_)
          refine Ok.cv (nI_eqP (by omega) (by omega)) ?_
          by_cases eab : a = b
          · rw [if_pos eab] at e1
            refine Ok.ifT eab (Ok.bd _ (e_blame (f := 2) h5) ?_)
            rintro _ u6 ⟨rfl, a1, a2, a3⟩
            exact Ok.ckT rfl (Ok.ret (PFx.l e1 ⟨rfl, a1, a2, kk5.dr.tr a3⟩))
          · rw [if_neg eab] at e1
            refine Ok.ifF eab (Ok.bd _ (e_weightOf n5 n6 (a := a) (b := b) (by omega) (by omega) (Q := fun r u => r = nI (w a b) ∧ u5 = u) ⟨rfl, rfl⟩) ?_)
            rintro _ _ ⟨rfl, rfl⟩
            have hw2 := hw a b (by omega) (by omega)
            rw [li_0]
            refine Ok.cv (nI_leP (by omega) (by omega)) ?_
            by_cases w0 : w a b = 0
            · rw [if_pos w0] at e1
              refine Ok.ifT (by omega) (Ok.bd _ (e_nx h5) ?_)
              rintro _ u6 ⟨h6, k6⟩
              have kk6 := kk5.tr k6
              refine Ok.bd _ (e_readWeight h6 (kk6.cn hn (by omega)) (a := a) (b := b) (by omega) (by omega) eab w0 hc) ?_
              intro r u7 hr7
              cases e3 : pwt k bt w a b (tke k bt (tke k bt (tke k bt p))) with
              | inl f =>
                obtain ⟨rfl, a1, a2, a3⟩ := hr7.gl e3
                exact Ok.ckT rfl (Ok.ret (PFx.l (e1.trans e3) ⟨rfl, a1, a2, kk6.dr.tr a3⟩))
              | inr v =>
                obtain ⟨rfl, h7, n7, k7⟩ := hr7.gr e3
                exact Ok.ckT rfl (Ok.ret (PFx.r (e1.trans e3) ⟨rfl, h7, n7, kk6.kd.tr k7⟩))
            · rw [if_neg w0] at e1
              refine Ok.ifF (by omega) (Ok.bd _ (e_blame (f := 3) h5) ?_)
              rintro _ u6 ⟨rfl, a1, a2, a3⟩
              exact Ok.ckT rfl (Ok.ret (PFx.l e1 ⟨rfl, a1, a2, kk5.dr.tr a3⟩))
      · rw [if_neg s45] at e1
        obtain ⟨rfl, a1, a2, a3⟩ := hr4.gl (if_neg s45)
        exact Ok.ifT rfl (Ok.ret (PFx.l e1 ⟨rfl, a1, a2, (k2.tr k3).dr.tr a3⟩))
    · rw [if_neg c30] at e1
      refine Ok.ifF c30 (Ok.bd _ (e_blame (f := 4) h2) ?_)
      rintro _ u3 ⟨rfl, a1, a2, a3⟩
      exact Ok.ckT rfl (Ok.ret (PFx.l e1 ⟨rfl, a1, a2, k2.dr.tr a3⟩))
theorem pline_in {k : Nat} {bt : Nat → Nat} {N c p : Nat} {w : Nat → Nat → Nat} {v : Nat × (Nat → Nat → Nat)} (h : pline k bt N w c p = .inr v) : c < 30 ∧ ∃ a b x, a ≤ N - 1 ∧ b ≤ N - 1 ∧ a ≠ b ∧ 1 ≤ x ∧ x ≤ 9 ∧ w a b = 0 ∧ v.2 = setw w a b x := by
  unfold pline at h
  cases e : num k bt 0 (N - 1) p with
  | inl f => rw [sbn_l e] at h; cases h
  | inr a =>
    rw [sbn_r e] at h
    by_cases c30 : c < 30
    · rw [if_pos c30] at h
      by_cases s45 : sgn k bt 45 (tke k bt p) = true
      · rw [if_pos s45] at h
        cases e2 : num k bt 0 (N - 1) (tke k bt (tke k bt p)) with
        | inl f => rw [sbn_l e2] at h; cases h
        | inr b =>
          rw [sbn_r e2] at h
          by_cases eab : a = b
          · rw [if_pos eab] at h; cases h
          · rw [if_neg eab] at h
            by_cases w0 : w a b = 0
            · rw [if_pos w0] at h
              unfold pwt at h
              by_cases s61 : sgn k bt 61 (tke k bt (tke k bt (tke k bt p))) = true
              · rw [if_pos s61] at h
                cases e3 : num k bt 1 9 (tke k bt (tke k bt (tke k bt (tke k bt p)))) with
                | inl f => rw [sbn_l e3] at h; cases h
                | inr x =>
                  rw [sbn_r e3] at h
                  have h := Sum.inr.inj h
                  subst h
                  exact ⟨c30, a, b, x, (num_in e).2.1, (num_in e2).2.1, eab, (num_in e3).1, (num_in e3).2.1, w0, rfl⟩
              · rw [if_neg s61] at h
                have h := Sum.inr.inj h
                subst h
                exact ⟨c30, a, b, 1, (num_in e).2.1, (num_in e2).2.1, eab, by omega, by omega, w0, rfl⟩
            · rw [if_neg w0] at h; cases h
      · rw [if_neg s45] at h; cases h
    · rw [if_neg c30] at h; cases h
theorem setw_lt {w : Nat → Nat → Nat} {a b x : Nat} (hw : ∀ p q, p < 9 → q < 9 → w p q < 10) (hx : x ≤ 9) : ∀ p q, p < 9 → q < 9 → setw w a b x p q < 10 := by
  intro p q hp hq
  unfold setw
  by_cases h : (p = a ∧ q = b) ∨ (p = b ∧ q = a)
  · rw [if_pos h]; omega
  · rw [if_neg h]; exact hw p q hp hq
theorem e_readLines {k : Nat} {bt : Nat → Nat} {t : St} {p N : Nat} (h : RC k bt p t) (hn : CN 6 N 0 (fun _ _ => 0) t) (hN : 1 ≤ N) (h9 : N < 10) : Ok (FX7_readLines t) (PFx t (plns k bt N p) (fun v u => RC k bt v.1 u ∧ CN 6 N v.2.1 v.2.2 u ∧ KD t u)) := by
  unfold FX7_readLines
  refine Ok.bd _ (e_sign (c := 58) h (by omega) (Q := fun r u => t = u ∧ ((r = 1 ∧ sgn k bt 58 p = true) ∨ (r = 0 ∧ sgn k bt 58 p = false))) (fun a => ⟨rfl, Or.inl ⟨rfl, a⟩⟩) (fun a => ⟨rfl, Or.inr ⟨rfl, a⟩⟩)) ?_
  intro r t1 h1
  obtain ⟨rfl, hr⟩ := h1
  generalize eX : (if sgn k bt 58 p = true then plines k bt N 31 (fun _ _ => 0) 0 p else .inr (p, 0, fun _ _ => 0) : (Nat × Nat) ⊕ (Nat × Nat × (Nat → Nat → Nat))) = X
  have ep : plns k bt N p = sbn X (fun r => if sgn k bt 59 r.1 = true then .inr (tke k bt r.1, r.2.1, r.2.2) else .inl (1, tkb k bt r.1)) := by unfold plns; rw [eX]
  refine Ok.bd (fun x u => Sum.elim (fun v => ∃ f, X = .inl f ∧ v = 0 ∧ u 5 1 = nI f.1 ∧ u 5 2 = nI f.2 ∧ DR t u) (fun _ => ∃ v, X = .inr v ∧ RC k bt v.1 u ∧ CN 6 N v.2.1 v.2.2 u ∧ KD t u) x) ?_ ?_
  · refine Ok.loop (fun m c s => ∃ j q w, m = 40 - j ∧ j ≤ 30 ∧ c.2 = nI j ∧ RC k bt q s ∧ CN 6 N j w s ∧ KD t s ∧ (∀ a b, a < 9 → b < 9 → w a b < 10) ∧ ((c.1 = 0 ∧ X = .inr (q, j, w)) ∨ (c.1 = 1 ∧ X = plines k bt N (31 - j) w j q))) ?_ 40 _ _ ⟨0, p, fun _ _ => 0, rfl, by omega, rfl, h, hn, KR.rf.kd, fun _ _ _ _ => by show 0 < 10; omega, ?_⟩
    · rintro m ⟨c1, c2⟩ s ⟨j, q, w, rfl, hj, rfl, hR, hC, hK, hw, hX⟩
      unfold SX7_readLines_9
      dsimp only at hX ⊢
      rcases hX with ⟨rfl, hX⟩ | ⟨rfl, hX⟩
      · exact Ok.ifT rfl (Ok.ret ⟨_, hX, hR, hC, hK⟩)
      · refine Ok.ifF (by decide) (Ok.ifF (by rw [li_30, nI_ltP (by omega) (by omega)]; omega) (Ok.bd _ (e_nx hR) ?_))
        rintro _ s1 ⟨R1, K1⟩
        have hX : X = sbn (pline k bt N w j (tke k bt q)) (fun r => if sgn k bt 44 r.1 = true then plines k bt N (30 - j) r.2 (j + 1) r.1 else .inr (r.1, j + 1, r.2)) := by
          rw [hX, show 31 - j = (30 - j) + 1 by omega]
          rfl
        refine Ok.bd _ (e_readLine R1 (K1.cn hC (by omega)) hN h9 (by omega) hw) ?_
        intro r s2 hr2
        cases e : pline k bt N w j (tke k bt q) with
        | inl f =>
          obtain ⟨rfl, a1, a2, a3⟩ := hr2.gl e
          exact Ok.ifT rfl (Ok.ret ⟨f, hX.trans (sbn_l e), rfl, a1, a2, (hK.1.tr K1.dr).tr a3⟩)
        | inr v =>
          obtain ⟨rfl, R2, C2, K2⟩ := hr2.gr e
          rw [sbn_r e] at hX
          obtain ⟨hj30, a, b, x, -, -, -, -, hx9, -, ev⟩ := pline_in e
          have hw2 : ∀ p q, p < 9 → q < 9 → v.2 p q < 10 := by rw [ev]; exact setw_lt hw hx9
          refine Ok.ifF (by decide) (Ok.bd _ (e_sign (c := 44) R2 (by omega) (Q := fun r u => s2 = u ∧ ((r = 1 ∧ sgn k bt 44 v.1 = true) ∨ (r = 0 ∧ sgn k bt 44 v.1 = false))) (fun a => ⟨rfl, Or.inl ⟨rfl, a⟩⟩) (fun a => ⟨rfl, Or.inr ⟨rfl, a⟩⟩)) ?_)
          rintro r _ ⟨rfl, ⟨rfl, hs⟩ | ⟨rfl, hs⟩⟩
          · rw [if_pos hs] at hX
            exact Ok.ret ⟨40 - (j + 1), by omega, j + 1, v.1, v.2, rfl, by omega, nI_1 j, R2, C2, (hK.tr K1.kd).tr K2, hw2, Or.inr ⟨rfl, by rw [hX, show 31 - (j + 1) = 30 - j by omega]⟩⟩
          · rw [if_neg (by rw [hs]; decide)] at hX
            exact Ok.ret ⟨40 - (j + 1), by omega, j + 1, v.1, v.2, rfl, by omega, nI_1 j, R2, C2, (hK.tr K1.kd).tr K2, hw2, Or.inl ⟨rfl, hX⟩⟩
    · rcases hr with ⟨rfl, hs⟩ | ⟨rfl, hs⟩
      · exact Or.inr ⟨rfl, by rw [← eX, if_pos hs]⟩
      · exact Or.inl ⟨rfl, by rw [← eX, if_neg (by rw [hs]; decide)]⟩
  · rintro (x | x) u hx
    · obtain ⟨f, e, rfl, a1, a2, a3⟩ := hx
      exact Ok.el (Ok.ret (PFx.l (ep.trans (sbn_l e)) ⟨rfl, a1, a2, a3⟩))
    · obtain ⟨v, e, hR, hC, hK⟩ := hx
      rw [sbn_r e] at ep
      refine Ok.er (Ok.bd _ (e_takeSign (c := 59) hR (by omega)) ?_)
      intro r u2 hr2
      by_cases s59 : sgn k bt 59 v.1 = true
      · obtain ⟨rfl, R2, K2⟩ := hr2.gr (if_pos s59)
        rw [if_pos s59] at ep
        exact Ok.ckT rfl (Ok.ret (PFx.r ep ⟨rfl, R2, K2.cn hC (by omega), hK.tr K2.kd⟩))
      · obtain ⟨rfl, a1, a2, a3⟩ := hr2.gl (if_neg s59)
        rw [if_neg s59] at ep
        exact Ok.ckT rfl (Ok.ret (PFx.l ep ⟨rfl, a1, a2, hK.1.tr a3⟩))
theorem dm_lt {bt : Nat → Nat} {b N : Nat} (hN : N ≤ 9) : ∀ {m : Nat}, (∀ i, i < m → bt (b + i) - 48 < N) → dm bt b m < 2 ^ N
  | 0, _ => Nat.two_pow_pos N
  | m + 1, h => Nat.or_lt_two_pow (dm_lt hN (fun i hi => h i (by omega))) (Nat.pow_lt_pow_right (by decide) (h m (by omega)))
theorem e_readDigits {k : Nat} {bt : Nat → Nat} {t : St} {p N c0 : Nat} {w : Nat → Nat → Nat} (h : RC k bt p t) (hn : CN 6 N c0 w t) (hN : 1 ≤ N) (h9 : N < 10) (c2 : tkc k bt p = 2) : Ok (FX7_readDigits t) (fun r u => (∀ c, c ≠ 8 → u c = t c) ∧ ((r = 1 ∧ digs k bt N p = true ∧ ∀ i, i < N → u 8 i = nI (bt (tkb k bt p + i) - 48)) ∨ (r = 0 ∧ digs k bt N p = false))) := by
  have hle := h.le
  obtain ⟨hb, hd⟩ := tk2 h.1.1 h.2.1 c2
  unfold FX7_readDigits
  refine Ok.rdE h.2.2.2.2 (Ok.rdE h.2.2.1 (Ok.rdE hn.1 ?_))
  rw [nI_sub hle.2.2.1]
  refine Ok.cv (nI_eqP (by omega) (by omega)) ?_
  by_cases c3 : tke k bt p - tkb k bt p = N
  · refine Ok.ifT c3 (Ok.bd (fun x u => (∀ c, c ≠ 8 → u c = t c) ∧ Sum.elim (fun v => v = 0 ∧ digs k bt N p = false) (fun v => v = nI (dm bt (tkb k bt p) N) ∧ (∀ i, i < N → bt (tkb k bt p + i) - 48 < N) ∧ ∀ i, i < N → u 8 i = nI (bt (tkb k bt p + i) - 48)) x) ?_ ?_)
    · refine Ok.count N (fun j c s => c = (nI (dm bt (tkb k bt p) j), nI j) ∧ (∀ c, c ≠ 8 → s c = t c) ∧ (∀ i, i < j → bt (tkb k bt p + i) - 48 < N) ∧ ∀ i, i < j → s 8 i = nI (bt (tkb k bt p + i) - 48)) ?_ ?_ (Nat.zero_le _) ⟨rfl, fun _ _ => rfl, fun i hi => by omega, fun i hi => by omega⟩
      · rintro j c s hj ⟨rfl, hf, h1, h2⟩
        unfold SX7_readDigits_25
        dsimp only
        have hR : RC k bt p s := h.kd (hf 1 (by decide)) (hf 2 (by decide)) (hf 5 (by decide))
        have hC : CN 6 N c0 w s := hn.fr (hf 6 (by decide)) (hf 7 (by decide)) (hf 9 (by decide))
        refine Ok.rdE hC.1 (Ok.ifF (by rw [nI_leP (by omega) (by omega)]; omega) (Ok.rdE hR.2.2.1 ?_))
        rw [nI_add]
        refine Ok.bd _ (e_at hR.1 (by omega) (Q := fun r u => s = u ∧ r = nI (bt (tkb k bt p + j)) ∧ bt (tkb k bt p + j) < 256) (fun _ a => ⟨rfl, rfl, a⟩) (fun a => by omega)) ?_
        rintro _ _ ⟨rfl, rfl, hb3⟩
        have hd2 := hd (tkb k bt p + j) (by omega) (by omega)
        rw [li_48, nI_sub (by omega)]
        refine Ok.bd _ (e_has hC h9 n6 (a := bt (tkb k bt p + j) - 48) (by omega) (Q := fun r u => s = u ∧ ((r = 1 ∧ bt (tkb k bt p + j) - 48 < N) ∨ (r = 0 ∧ N ≤ bt (tkb k bt p + j) - 48))) (fun a => ⟨rfl, Or.inl ⟨rfl, a⟩⟩) (fun a => ⟨rfl, Or.inr ⟨rfl, a⟩⟩)) ?_
        rintro r _ ⟨rfl, ⟨rfl, hp⟩ | ⟨rfl, hp⟩⟩
        · rw [shl_1 (by omega), nI_or]
          refine Ok.ifF (by decide) (Ok.ckT (inb_n (by omega) (by omega)) (OkwrE (Ok.ret ⟨?_, fun c hc => ?_, fun i hi => ?_, fun i hi => ?_⟩)))
          · rw [nI_1]; rfl
          · rw [wr_off c hc]; exact hf c hc
          · by_cases e : i = j
            · rw [e]; exact hp
            · exact h1 i (by omega)
          · rw [nI_cl (by omega)]
            by_cases e : i = j
            · subst e; rw [wrs]
            · rw [wrn e]; exact h2 i (by omega)
        · refine Ok.ifT rfl (Ok.ret ⟨hf, rfl, decide_eq_false (fun a => ?_)⟩)
          have := a.2.1 j hj
          omega
      · rintro c s ⟨rfl, hf, h1, h2⟩
        unfold SX7_readDigits_25
        exact Ok.rdE (x := nI N) (by rw [hf 6 (by decide)]; exact hn.1) (Ok.ifT (by rw [nI_leP (by omega) (by omega)]; omega) (Ok.ret ⟨hf, rfl, h1, h2⟩))
    · rintro (x | x) u ⟨hf, hx⟩
      · obtain ⟨rfl, hx⟩ := hx
        exact Ok.el (Ok.ret ⟨hf, Or.inr ⟨rfl, hx⟩⟩)
      · obtain ⟨rfl, h1, h2⟩ := hx
        have hC : CN 6 N c0 w u := hn.fr (hf 6 (by decide)) (hf 7 (by decide)) (hf 9 (by decide))
        refine Ok.er (Ok.bd _ (e_allBits hC h9 n6 (Q := fun r v => u = v ∧ r = nI (2 ^ N - 1)) ⟨rfl, rfl⟩) ?_)
        rintro _ _ ⟨rfl, rfl⟩
        have g1 := dm_lt (by omega) h1
        have g2 := pow9 (k := N) (by omega)
        refine Ok.cv (nI_eqP (by omega) (by omega)) ?_
        exact Ok.ite (fun q => Ok.ret ⟨hf, Or.inl ⟨rfl, decide_eq_true ⟨by omega, h1, q⟩, h2⟩⟩) (fun q => Ok.ret ⟨hf, Or.inr ⟨rfl, decide_eq_false (fun a => q a.2.2)⟩⟩)
  · exact Ok.ifF c3 (Ok.ret ⟨fun _ _ => rfl, Or.inr ⟨rfl, decide_eq_false (fun a => c3 (by omega))⟩⟩)
end
section
/-! the class reads a text, the end -/
/-- only what is read, and the draft, change -/
def KE (t u : St) : Prop := DR t u ∧ u 5 1 = t 5 1 ∧ u 5 2 = t 5 2
theorem KD.ke {t u : St} (h : KD t u) : KE t u := ⟨h.1, h.2.2.1, h.2.2.2⟩
theorem KR.ke {t u : St} (h : KR t u) : KE t u := h.kd.ke
theorem KE.tr {t u v : St} (h : KE t u) (g : KE u v) : KE t v := ⟨h.1.tr g.1, g.2.1.trans h.2.1, g.2.2.trans h.2.2⟩
theorem e_readRow {k : Nat} {bt : Nat → Nat} {t : St} {p N c : Nat} {w : Nat → Nat → Nat} (h : RC k bt p t) (hn : CN 6 N c w t) (hN : 1 ≤ N) (h9 : N < 10) (ho : ∀ i, i < 9 → t 8 i = nI i) : Ok (FX7_readRow t) (PFx t (prow k bt N p) (fun o u => CN 6 N c w u ∧ (∀ i, i < N → u 8 i = nI (o i)) ∧ KE t u)) := by
  have hc4 := tkc_lt (k := k) (bt := bt) (p := p)
  unfold FX7_readRow
  refine Ok.rdE h.2.2.2.1 ?_
  by_cases c0 : tkc k bt p = 0
  · exact Ok.ifT (by rw [c0]; rfl) (Ok.ret (PFx.r (if_pos c0) ⟨rfl, hn, fun i hi => ho i (by omega), KR.rf.ke⟩))
  have ep : prow k bt N p = _ := if_neg c0
  refine Ok.ifF (by rw [li_0, nI_eqP (by omega) (by omega)]; exact c0) (Ok.bd _ (e_word1 h (Q := fun r u => t = u ∧ ((r = 1 ∧ wrd k bt 114 111 119 p = true) ∨ (r = 0 ∧ wrd k bt 114 111 119 p = false))) (fun a => ⟨rfl, Or.inl ⟨rfl, a⟩⟩) (fun a => ⟨rfl, Or.inr ⟨rfl, a⟩⟩)) ?_)
  rintro r _ ⟨rfl, ⟨rfl, hs⟩ | ⟨rfl, hs⟩⟩
  · skip
    rw [if_pos hs] at ep
    refine Ok.ifF (by decide) (Ok.bd _ (e_nx h) ?_)
    rintro _ u1 ⟨R1, K1⟩
    have hc5 := tkc_lt (k := k) (bt := bt) (p := tke k bt p)
    refine Ok.rdE R1.2.2.2.1 ?_
    by_cases c2 : tkc k bt (tke k bt p) = 2
    · rw [if_pos c2] at ep
      refine Ok.ifT (by rw [c2]; rfl) (Ok.bd _ (e_readDigits R1 (K1.cn hn (by omega)) hN h9 c2) ?_)
      rintro r u2 ⟨hf, ⟨rfl, hd, h8⟩ | ⟨rfl, hd⟩⟩
      · rw [if_pos hd] at ep
        have R2 : RC k bt (tke k bt p) u2 := R1.kd (hf 1 (by decide)) (hf 2 (by decide)) (hf 5 (by decide))
        have n2 : CN 6 N c w u2 := (K1.cn hn (by omega)).fr (hf 6 (by decide)) (hf 7 (by decide)) (hf 9 (by decide))
        have K2 : KE t u2 := K1.ke.tr ⟨fun c hc => hf c (by omega), by rw [hf 5 (by decide)], by rw [hf 5 (by decide)]⟩
        refine Ok.ifF (by decide) (Ok.bd _ (e_nx R2) ?_)
        rintro _ u3 ⟨R3, K3⟩
        refine Ok.bd _ (e_takeSign (c := 59) R3 (by omega)) ?_
        intro r u4 hr4
        by_cases s59 : sgn k bt 59 (tke k bt (tke k bt p)) = true
        · obtain ⟨rfl, R4, K4⟩ := hr4.gr (if_pos s59)
          rw [if_pos s59] at ep
          have hc6 := tkc_lt (k := k) (bt := bt) (p := tke k bt (tke k bt (tke k bt p)))
          have K34 := K3.tr K4
          refine Ok.ifF (by decide) (Ok.rdE R4.2.2.2.1 ?_)
          by_cases e0 : tkc k bt (tke k bt (tke k bt (tke k bt p))) = 0
          · rw [if_pos e0] at ep
            refine Ok.ifT (by rw [e0]; rfl) (Ok.ret (PFx.r ep ⟨rfl, K34.cn n2 (by omega), fun i hi => ?_, K2.tr K34.ke⟩))
            rw [K34.1 8 (by decide)]
            exact h8 i hi
          · rw [if_neg e0] at ep
            refine Ok.ifF (by rw [li_0, nI_eqP (by omega) (by omega)]; exact e0) (Ok.bd _ (e_blame (f := 1) R4) ?_)
            rintro _ u5 ⟨rfl, a1, a2, a3⟩
            exact Ok.ifT rfl (Ok.ret (PFx.l ep ⟨rfl, a1, a2, (K2.1.tr K34.dr).tr a3⟩))
        · obtain ⟨rfl, a1, a2, a3⟩ := hr4.gl (if_neg s59)
          rw [if_neg s59] at ep
          exact Ok.ifT rfl (Ok.ret (PFx.l ep ⟨rfl, a1, a2, (K2.1.tr K3.dr).tr a3⟩))
      · rw [if_neg (by rw [hd]; decide)] at ep
        have R2 : RC k bt (tke k bt p) u2 := R1.kd (hf 1 (by decide)) (hf 2 (by decide)) (hf 5 (by decide))
        refine Ok.ifT rfl (Ok.bd _ (e_blame (f := 5) R2) ?_)
        rintro _ u3 ⟨rfl, a1, a2, a3⟩
        exact Ok.ckT rfl (Ok.ret (PFx.l ep ⟨rfl, a1, a2, (K1.dr.tr (fun c hc => hf c (by omega))).tr a3⟩))
    · rw [if_neg c2] at ep
      refine Ok.ifF (by rw [li_2, nI_eqP (by omega) (by omega)]; exact c2) (Ok.bd _ (e_blame (f := 1) R1) ?_)
      rintro _ u3 ⟨rfl, a1, a2, a3⟩
      exact Ok.ckT rfl (Ok.ret (PFx.l ep ⟨rfl, a1, a2, K1.dr.tr a3⟩))
  · rw [if_neg (by rw [hs]; decide)] at ep
    refine Ok.ifT rfl (Ok.bd _ (e_blame (f := 1) h) ?_)
    rintro _ u3 ⟨rfl, a1, a2, a3⟩
    exact Ok.ckT rfl (Ok.ret (PFx.l ep ⟨rfl, a1, a2, a3⟩))
theorem e_readHead {k : Nat} {bt : Nat → Nat} {t : St} {p : Nat} (h : RC k bt p t) : Ok (FX7_readHead t) (PFx t (if wrd k bt 110 101 116 p = true then sbn (num k bt 1 9 (tke k bt p)) (fun N => .inr (N, tke k bt (tke k bt p))) else .inl (1, tkb k bt p)) (fun v u => RC k bt v.2 u ∧ CN 6 v.1 0 (fun _ _ => 0) u ∧ (∀ i, i < 9 → u 8 i = nI i) ∧ 1 ≤ v.1 ∧ v.1 < 10 ∧ KE t u)) := by
  unfold FX7_readHead
  refine Ok.bd _ (e_word0 h (Q := fun r u => t = u ∧ ((r = 1 ∧ wrd k bt 110 101 116 p = true) ∨ (r = 0 ∧ wrd k bt 110 101 116 p = false))) (fun a => ⟨rfl, Or.inl ⟨rfl, a⟩⟩) (fun a => ⟨rfl, Or.inr ⟨rfl, a⟩⟩)) ?_
  rintro r _ ⟨rfl, ⟨rfl, hs⟩ | ⟨rfl, hs⟩⟩
  · skip
    rw [if_pos hs]
    refine Ok.ifF (by decide) (Ok.bd _ (e_nx h) ?_)
    rintro _ u1 ⟨R1, K1⟩
    refine Ok.bd _ (e_num (lo := 1) (hi := 9) R1 (by omega) (by omega)) ?_
    intro r u2 hr2
    cases e : num k bt 1 9 (tke k bt p) with
    | inl f =>
      obtain ⟨rfl, a1, a2, a3⟩ := hr2.gl e
      exact Ok.ifT rfl (Ok.ret (PFx.l rfl ⟨rfl, a1, a2, K1.dr.tr a3⟩))
    | inr N =>
      obtain ⟨rfl, e7, R2, K2⟩ := hr2.gr e
      have hv := num_in e
      refine Ok.ifF (by decide) (Ok.rdE e7 (Ok.bd _ (e_begin n6) ?_))
      rintro _ u3 ⟨n3, h8, hf⟩
      have e5 := hf 5 (by decide) (by decide) (by decide) (by decide)
      have R3 : RC k bt (tke k bt p) u3 := R2.kd (hf 1 (by decide) (by decide) (by decide) (by decide)) (hf 2 (by decide) (by decide) (by decide) (by decide)) e5
      refine Ok.bd _ (e_nx R3) ?_
      rintro _ u4 ⟨R4, K4⟩
      refine Ok.ret (PFx.r rfl ⟨rfl, R4, K4.cn n3 (by omega), fun i hi => ?_, hv.1, by show N < 10; omega, ((K1.tr K2).ke.tr ⟨fun c hc => hf c (by omega) (by omega) (by omega) (by omega), by rw [e5], by rw [e5]⟩).tr K4.ke⟩)
      rw [K4.1 8 (by decide)]
      exact h8 i hi
  · rw [if_neg (c := wrd k bt 110 101 116 p = true) (by rw [hs]; decide)]
    refine Ok.ifT rfl (Ok.bd _ (e_blame (f := 1) h) ?_)
    rintro _ u3 ⟨rfl, a1, a2, a3⟩
    exact Ok.ckT rfl (Ok.ret (PFx.l rfl ⟨rfl, a1, a2, a3⟩))
/-- the class reads the tape -/
theorem e_readAll {k : Nat} {bt : Nat → Nat} {t : St} (h : CT k bt t) : Ok (FX7_readAll t) (PFx t (ptext k bt) (fun v u => u 5 1 = 0 ∧ u 5 2 = -1 ∧ CN 6 v.1 v.2.1 v.2.2.1 u ∧ (∀ i, i < v.1 → u 8 i = nI (v.2.2.2 i)) ∧ DR t u)) := by
  unfold FX7_readAll
  refine OkwrE (OkwrE (OkwrE ?_))
  have hC : CT k bt (wr (wr (wr t 5 1 0) 5 2 (-1)) 5 6 0) := h.fr (by rw [wr_off 1 (by decide), wr_off 1 (by decide), wr_off 1 (by decide)]) (by rw [wr_off 2 (by decide), wr_off 2 (by decide), wr_off 2 (by decide)])
  have e6 : wr (wr (wr t 5 1 0) 5 2 (-1)) 5 6 0 5 6 = nI 0 := wrs
  have e1 : wr (wr (wr t 5 1 0) 5 2 (-1)) 5 6 0 5 1 = 0 := by rw [wrn (by decide), wrn (by decide), wrs]
  have e2 : wr (wr (wr t 5 1 0) 5 2 (-1)) 5 6 0 5 2 = -1 := by rw [wrn (by decide), wrs]
  have hD : DR t (wr (wr (wr t 5 1 0) 5 2 (-1)) 5 6 0) := fun c hc => by rw [wr_off c (by omega), wr_off c (by omega), wr_off c (by omega)]
  generalize wr (wr (wr t 5 1 0) 5 2 (-1)) 5 6 0 = y at hC e6 e1 e2 hD ⊢
  refine Ok.bd _ (e_step hC (Nat.zero_le _) e6) ?_
  rintro _ u1 ⟨R1, K1⟩
  refine Ok.bd _ (e_readHead R1) ?_
  intro r u2 hr2
  by_cases hs : wrd k bt 110 101 116 0 = true
  · have ep : ptext k bt = sbn (num k bt 1 9 (tke k bt 0)) _ := if_pos hs
    cases e : num k bt 1 9 (tke k bt 0) with
    | inl f =>
      obtain ⟨rfl, a1, a2, a3⟩ := hr2.gl ((if_pos hs).trans (sbn_l e))
      exact Ok.ifT rfl (Ok.ret (PFx.l (ep.trans (sbn_l e)) ⟨rfl, a1, a2, (hD.tr K1.dr).tr a3⟩))
    | inr N =>
      obtain ⟨rfl, R2, n2, o2, hN, h9, K2⟩ := hr2.gr ((if_pos hs).trans (sbn_r e))
      rw [sbn_r e] at ep
      have kk := K1.ke.tr K2
      refine Ok.ifF (by decide) (Ok.bd _ (e_readLines R2 n2 hN h9) ?_)
      intro r u3 hr3
      cases e3 : plns k bt N (tke k bt (tke k bt 0)) with
      | inl f =>
        obtain ⟨rfl, a1, a2, a3⟩ := hr3.gl e3
        exact Ok.ifT rfl (Ok.ret (PFx.l (ep.trans (sbn_l e3)) ⟨rfl, a1, a2, (hD.tr kk.1).tr a3⟩))
      | inr v =>
        obtain ⟨rfl, R3, n3, K3⟩ := hr3.gr e3
        rw [sbn_r e3] at ep
        have kk3 := kk.tr K3.ke
        refine Ok.ifF (by decide) (Ok.bd _ (e_readRow R3 n3 hN h9 (fun i hi => by rw [K3.2.1]; exact o2 i hi)) ?_)
        intro r u4 hr4
        cases e4 : prow k bt N v.1 with
        | inl f =>
          obtain ⟨rfl, a1, a2, a3⟩ := hr4.gl e4
          exact Ok.ifT rfl (Ok.ret (PFx.l (ep.trans (sbn_l e4)) ⟨rfl, a1, a2, (hD.tr kk3.1).tr a3⟩))
        | inr o =>
          obtain ⟨rfl, n4, o4, K4⟩ := hr4.gr e4
          have kk4 := kk3.tr K4
          exact Ok.ifF (by decide) (Ok.ret (PFx.r (ep.trans (sbn_r e4)) ⟨rfl, by rw [kk4.2.1]; exact e1, by rw [kk4.2.2]; exact e2, n4, o4, hD.tr kk4.1⟩))
  · have ep : ptext k bt = .inl (1, tkb k bt 0) := if_neg hs
    obtain ⟨rfl, a1, a2, a3⟩ := hr2.gl (if_neg hs)
    exact Ok.ifT rfl (Ok.ret (PFx.l ep ⟨rfl, a1, a2, (hD.tr K1.dr).tr a3⟩))
end
section
/-! the reference's tape, tokens -/
theorem e_in {t : St} {a b c : Int64} {Q : Int32 → St → Prop} (q1 : b.toInt ≤ a.toInt → a.toInt ≤ c.toInt → Q 1 t) (q0 : ¬ (b.toInt ≤ a.toInt ∧ a.toInt ≤ c.toInt) → Q 0 t) : Ok (FX12_in a b c t) Q := by
  refine (xX12_in (t := t)).mono ?_
  rintro r _ ⟨rfl, ⟨rfl, h1, h2⟩ | ⟨rfl, h⟩⟩
  · exact q1 h1 h2
  · exact q0 h
theorem n64 {a : Nat} (h : a < 2147483648) : (nI a).toInt64.toInt = (a : Int) := by rw [Int32.toInt_toInt64, nI_toInt h]
theorem kd1 {b : Nat} : kd b = 1 ↔ 97 ≤ b ∧ b ≤ 122 := by
  unfold kd
  by_cases h : 97 ≤ b ∧ b ≤ 122
  · rw [if_pos h]; exact ⟨fun _ => h, fun _ => rfl⟩
  · rw [if_neg h]
    refine ⟨fun q => ?_, fun q => absurd q h⟩
    by_cases g : 48 ≤ b ∧ b ≤ 57
    · rw [if_pos g] at q; cases q
    · rw [if_neg g] at q; cases q
theorem kd2 {b : Nat} : kd b = 2 ↔ 48 ≤ b ∧ b ≤ 57 := by
  unfold kd
  by_cases h : 97 ≤ b ∧ b ≤ 122
  · rw [if_pos h]; exact ⟨fun q => (by cases q), fun q => by omega⟩
  · rw [if_neg h]
    by_cases g : 48 ≤ b ∧ b ≤ 57
    · rw [if_pos g]; exact ⟨fun _ => g, fun _ => rfl⟩
    · rw [if_neg g]; exact ⟨fun q => (by cases q), fun q => absurd q g⟩
/-- the reference's reader stands at the token from p on -/
def RM (k : Nat) (bt : Nat → Nat) (p : Nat) (t : St) : Prop := MT k bt t ∧ p ≤ k ∧ t 149 9 = nI (tkb k bt p) ∧ t 149 10 = nI (tkc k bt p) ∧ t 149 8 = nI (tke k bt p) ∧ t 149 11 = nI (if tkc k bt p = 2 then vl bt (tkb k bt p) (tke k bt p - tkb k bt p) else 0)
/-- only what is read changes -/
def KM (t u : St) : Prop := (∀ c, c ≠ 149 → u c = t c) ∧ ∀ i, i < 8 ∨ 11 < i → u 149 i = t 149 i
theorem KM.rf {t : St} : KM t t := ⟨fun _ _ => rfl, fun _ _ => rfl⟩
theorem KM.tr {t u v : St} (h : KM t u) (g : KM u v) : KM t v := ⟨fun c hc => (g.1 c hc).trans (h.1 c hc), fun i hi => (g.2 i hi).trans (h.2 i hi)⟩
theorem KM.mt {t u : St} (h : KM t u) {k : Nat} {bt : Nat → Nat} (g : MT k bt t) : MT k bt u := by
  unfold MT
  rw [h.2 5 (by omega), h.1 153 (by decide)]
  exact g
theorem KM.w {t : St} {i : Nat} {v : Int32} (hi : 8 ≤ i ∧ i ≤ 11) : KM t (wr t 149 i v) := ⟨fun c hc => wr_off c hc, fun j hj => wrn (by omega)⟩
theorem e_isAt {k : Nat} {bt : Nat → Nat} {t : St} (h : MT k bt t) {i lo hi : Nat} (e8 : t 149 8 = nI i) (hi2 : i ≤ k) (hlo : lo < 256) (hhi : hi < 256) {Q : Int32 → St → Prop} (q1 : i < k → lo ≤ bt i → bt i ≤ hi → Q 1 t) (q0 : ¬ (i < k ∧ lo ≤ bt i ∧ bt i ≤ hi) → Q 0 t) : Ok (FX12_isAt (nI lo) (nI hi) t) Q := by
  obtain ⟨hk, e5, hb⟩ := h
  unfold FX12_isAt
  refine Ok.rdE e8 (Ok.rdE e5 ?_)
  by_cases c : k ≤ i
  · exact Ok.ifT (by rw [nI_leP (by omega) (by omega)]; exact c) (Ok.ret (q0 (by omega)))
  · refine Ok.ifF (by rw [nI_leP (by omega) (by omega)]; exact c) (Ok.rdE e8 (Ok.ckT (inb_n (by omega) (by omega)) ?_))
    rw [nI_cl (by omega)]
    obtain ⟨hb1, hb2⟩ := hb i (by omega)
    refine Ok.rdE hb2 (Ok.bd (fun r u => t = u ∧ ((r = 1 ∧ lo ≤ bt i ∧ bt i ≤ hi) ∨ (r = 0 ∧ ¬ (lo ≤ bt i ∧ bt i ≤ hi)))) (e_in (fun a b => ?_) (fun a => ?_)) ?_)
    · rw [n64 (by omega), n64 (by omega)] at a b
      exact ⟨rfl, Or.inl ⟨rfl, by omega, by omega⟩⟩
    · rw [n64 (by omega), n64 (by omega), n64 (by omega)] at a
      exact ⟨rfl, Or.inr ⟨rfl, by omega⟩⟩
    rintro r _ ⟨rfl, ⟨rfl, a, b⟩ | ⟨rfl, a⟩⟩
    · exact Ok.ifF (by decide) (Ok.ret (q1 (by omega) a b))
    · exact Ok.ifT rfl (Ok.ret (q0 (fun q => a q.2)))
theorem m_next {k : Nat} {bt : Nat → Nat} {t : St} (h : MT k bt t) {p : Nat} (hp : p ≤ k) (e8 : t 149 8 = nI p) : Ok (FX12_next t) (fun _ u => RM k bt p u ∧ KM t u) := by
  have hk := h.1
  unfold FX12_next
  refine Ok.bd (fun _ s => s 149 8 = nI (tkb k bt p) ∧ KM t s) ?_ ?_
  · refine Ok.loop (fun m _ s => ∃ j, m = k - j ∧ p ≤ j ∧ j ≤ k ∧ (∀ i, p ≤ i → i < j → bl (bt i) = true) ∧ s 149 8 = nI j ∧ KM t s) ?_ (k - p) _ _ ⟨p, rfl, Nat.le_refl _, hp, fun i a b => by omega, e8, KM.rf⟩
    rintro m ⟨⟩ s ⟨j, rfl, h1, h2, h3, g8, hK⟩
    have hC := hK.mt h
    unfold SX12_next_0
    have go : bl (bt j) = true → j < k → Ok (rdb s 149 8 (fun v5 => (wrb s 149 8 (v5 + (1 : Int32)) (fun t7 => (some ((Sum.inl () : Unit ⊕ Unit), t7)))))) (fun x t_1 => Sum.elim (fun d => ∃ j_1, j_1 < k - j ∧ ∃ j, j_1 = k - j ∧ p ≤ j ∧ j ≤ k ∧ (∀ i, p ≤ i → i < j → bl (bt i) = true) ∧ t_1 149 8 = nI j ∧ KM t t_1) (fun r => t_1 149 8 = nI (tkb k bt p) ∧ KM t t_1) x) := by
      intro hb2 hj
      refine Ok.rdE g8 (OkwrE (Ok.ret ⟨k - (j + 1), by omega, j + 1, rfl, by omega, by omega, fun i a b => ?_, ?_, ?_⟩))
      · by_cases e : i = j
        · rw [e]; exact hb2
        · exact h3 i a (by omega)
      · rw [wrs, nI_1]
      · exact hK.tr (KM.w (by omega))
    refine Ok.bd (fun r u => s = u ∧ ((r = 1 ∧ j < k ∧ bt j = 32) ∨ (r = 0 ∧ ¬ (j < k ∧ bt j = 32)))) (e_isAt hC g8 h2 (lo := 32) (hi := 32) (by omega) (by omega) (fun a b c => ⟨rfl, Or.inl ⟨rfl, a, by omega⟩⟩) (fun a => ⟨rfl, Or.inr ⟨rfl, fun q => a ⟨q.1, by omega, by omega⟩⟩⟩)) ?_
    rintro r _ ⟨rfl, ⟨rfl, a, b⟩ | ⟨rfl, a⟩⟩
    · exact Ok.ifF (by decide) (go (by simp [bl, b]) a)
    · skip
      refine Ok.ifT rfl (Ok.bd (fun r u => s = u ∧ ((r = 1 ∧ j < k ∧ bt j = 10) ∨ (r = 0 ∧ ¬ (j < k ∧ bt j = 10)))) (e_isAt hC g8 h2 (lo := 10) (hi := 10) (by omega) (by omega) (fun a b c => ⟨rfl, Or.inl ⟨rfl, a, by omega⟩⟩) (fun a => ⟨rfl, Or.inr ⟨rfl, fun q => a ⟨q.1, by omega, by omega⟩⟩⟩)) ?_)
      rintro r _ ⟨rfl, ⟨rfl, a2, b2⟩ | ⟨rfl, a2⟩⟩
      · exact Ok.ifF (by decide) (go (by simp [bl, b2]) a2)
      · refine Ok.ifT rfl (Ok.ret ⟨?_, hK⟩)
        rw [g8]
        congr 1
        refine AV.uq (P := fun j => bl (bt j)) ⟨h1, h2, h3, fun q => ?_⟩ (tkb_AV hk hp)
        have n1 : ¬ bt j = 32 := fun e => a ⟨q, e⟩
        have n2 : ¬ bt j = 10 := fun e => a2 ⟨q, e⟩
        simp [bl, n1, n2]
  · rintro _ s ⟨g8, hK⟩
    have hC := hK.mt h
    have hle := tkb_le (bt := bt) hk hp
    refine Ok.rdE g8 (OkwrE (OkwrE ?_))
    have K3 : KM t (wr (wr s 149 9 (nI (tkb k bt p))) 149 11 0) := (hK.tr (KM.w (by omega))).tr (KM.w (by omega))
    have f8 : wr (wr s 149 9 (nI (tkb k bt p))) 149 11 0 149 8 = nI (tkb k bt p) := by rw [wrn (by decide), wrn (by decide)]; exact g8
    have f9 : wr (wr s 149 9 (nI (tkb k bt p))) 149 11 0 149 9 = nI (tkb k bt p) := by rw [wrn (by decide), wrs]
    have f11 : wr (wr s 149 9 (nI (tkb k bt p))) 149 11 0 149 11 = nI 0 := wrs
    generalize wr (wr s 149 9 (nI (tkb k bt p))) 149 11 0 = y at K3 f8 f9 f11 ⊢
    have hC3 := K3.mt h
    refine Ok.rdE f8 (Ok.rdE hC3.2.1 ?_)
    refine Ok.cv (nI_eqP (by omega) (by omega)) ?_
    by_cases ce : tkb k bt p = k
    · have c0 : tkc k bt p = 0 := by unfold tkc; rw [if_neg (by omega)]
      have he : tke k bt p = tkb k bt p := by unfold tke; rw [if_neg (by omega)]
      refine Ok.ifT ce (OkwrE (Ok.ret ⟨⟨(K3.tr (KM.w (by omega))).mt h, hp, ?_, ?_, ?_, ?_⟩, K3.tr (KM.w (by omega))⟩))
      · rw [wrn (by decide)]; exact f9
      · rw [wrs, c0]; rfl
      · rw [wrn (by decide), he]; exact f8
      · rw [wrn (by decide), if_neg (by omega)]; exact f11
    have hb : tkb k bt p < k := by omega
    have ec : tkc k bt p = kd (bt (tkb k bt p)) := by unfold tkc; rw [if_pos hb]
    refine Ok.ifF ce (Ok.bd (fun r u => y = u ∧ ((r = 1 ∧ tkc k bt p = 1) ∨ (r = 0 ∧ ¬ tkc k bt p = 1))) (e_isAt hC3 f8 hle.2 (lo := 97) (hi := 122) (by omega) (by omega) (fun a b c => ⟨rfl, Or.inl ⟨rfl, by rw [ec, kd1]; exact ⟨b, c⟩⟩⟩) (fun a => ⟨rfl, Or.inr ⟨rfl, fun q => a ⟨hb, by rw [ec, kd1] at q; exact q⟩⟩⟩)) ?_)
    rintro r _ ⟨rfl, ⟨rfl, c1⟩ | ⟨rfl, c1⟩⟩
    · skip
      refine Ok.ifF (by decide) (OkwrE (Ok.bd (fun _ u => RM k bt p u ∧ KM t u) ?_ (fun _ u hu => Ok.ret hu)))
      refine Ok.loop (fun m _ s => ∃ j, m = k - j ∧ tkb k bt p ≤ j ∧ j ≤ k ∧ (∀ i, tkb k bt p ≤ i → i < j → (kd (bt i) == kd (bt (tkb k bt p))) = true) ∧ s 149 8 = nI j ∧ s 149 9 = nI (tkb k bt p) ∧ s 149 10 = nI 1 ∧ s 149 11 = nI 0 ∧ KM t s) ?_ (k - tkb k bt p) _ _ ⟨_, rfl, Nat.le_refl _, by omega, fun i a b => by omega, by rw [wrn (by decide)]; exact f8, by rw [wrn (by decide)]; exact f9, wrs, by rw [wrn (by decide)]; exact f11, K3.tr (KM.w (by omega))⟩
      rintro m ⟨⟩ s ⟨j, rfl, h1, h2, h3, g8, g9, g10, g11, gK⟩
      unfold SX12_next_83
      refine Ok.bd (fun r u => s = u ∧ ((r = 1 ∧ j < k ∧ kd (bt j) = 1) ∨ (r = 0 ∧ ¬ (j < k ∧ kd (bt j) = 1)))) (e_isAt (gK.mt h) g8 h2 (lo := 97) (hi := 122) (by omega) (by omega) (fun a b c => ⟨rfl, Or.inl ⟨rfl, a, kd1.mpr ⟨b, c⟩⟩⟩) (fun a => ⟨rfl, Or.inr ⟨rfl, fun q => a ⟨q.1, kd1.mp q.2⟩⟩⟩)) ?_
      rintro r _ ⟨rfl, ⟨rfl, a, b⟩ | ⟨rfl, a⟩⟩
      · refine Ok.ifF (by decide) (Ok.rdE g8 (OkwrE (Ok.ret ⟨k - (j + 1), by omega, j + 1, rfl, by omega, by omega, fun i q1 q2 => ?_, ?_, ?_, ?_, ?_, gK.tr (KM.w (by omega))⟩)))
        · by_cases e : i = j
          · rw [e, b, ← ec, c1]; rfl
          · exact h3 i q1 (by omega)
        · rw [wrs, nI_1]
        · rw [wrn (by decide)]; exact g9
        · rw [wrn (by decide)]; exact g10
        · rw [wrn (by decide)]; exact g11
      · have hj : tkb k bt p + 1 ≤ j := by
          refine Decidable.byContradiction (fun q => a ?_)
          have : j = tkb k bt p := by omega
          rw [this, ← ec]
          exact ⟨hb, c1⟩
        refine Ok.ifT rfl (Ok.ret ⟨⟨gK.mt h, hp, g9, by rw [c1]; exact g10, ?_, by rw [if_neg (by omega)]; exact g11⟩, gK⟩)
        rw [g8]
        congr 1
        refine AV.uq (P := fun j => kd (bt j) == kd (bt (tkb k bt p))) ⟨hj, h2, fun i q1 q2 => h3 i (by omega) q2, fun q => ?_⟩ (tke_AV hk hp hb (by omega))
        refine beq_eq_false_iff_ne.mpr (fun e => a ⟨q, ?_⟩)
        rw [e, ← ec]
        exact c1
    · skip
      refine Ok.ifT rfl (Ok.bd (fun r u => y = u ∧ ((r = 1 ∧ tkc k bt p = 2) ∨ (r = 0 ∧ ¬ tkc k bt p = 2))) (e_isAt hC3 f8 hle.2 (lo := 48) (hi := 57) (by omega) (by omega) (fun a b c => ⟨rfl, Or.inl ⟨rfl, by rw [ec, kd2]; exact ⟨b, c⟩⟩⟩) (fun a => ⟨rfl, Or.inr ⟨rfl, fun q => a ⟨hb, by rw [ec, kd2] at q; exact q⟩⟩⟩)) ?_)
      rintro r _ ⟨rfl, ⟨rfl, c2⟩ | ⟨rfl, c2⟩⟩
      · skip
        refine Ok.ifF (by decide) (OkwrE (Ok.bd (fun _ u => RM k bt p u ∧ KM t u) ?_ (fun _ u hu => Ok.ret hu)))
        refine Ok.loop (fun m _ s => ∃ j, m = k - j ∧ tkb k bt p ≤ j ∧ j ≤ k ∧ (∀ i, tkb k bt p ≤ i → i < j → (kd (bt i) == kd (bt (tkb k bt p))) = true) ∧ s 149 8 = nI j ∧ s 149 9 = nI (tkb k bt p) ∧ s 149 10 = nI 2 ∧ s 149 11 = nI (vl bt (tkb k bt p) (j - tkb k bt p)) ∧ KM t s) ?_ (k - tkb k bt p) _ _ ⟨_, rfl, Nat.le_refl _, by omega, fun i a b => by omega, by rw [wrn (by decide)]; exact f8, by rw [wrn (by decide)]; exact f9, wrs, by rw [wrn (by decide), Nat.sub_self]; exact f11, K3.tr (KM.w (by omega))⟩
        rintro m ⟨⟩ s ⟨j, rfl, h1, h2, h3, g8, g9, g10, g11, gK⟩
        unfold SX12_next_123
        refine Ok.bd (fun r u => s = u ∧ ((r = 1 ∧ j < k ∧ kd (bt j) = 2) ∨ (r = 0 ∧ ¬ (j < k ∧ kd (bt j) = 2)))) (e_isAt (gK.mt h) g8 h2 (lo := 48) (hi := 57) (by omega) (by omega) (fun a b c => ⟨rfl, Or.inl ⟨rfl, a, kd2.mpr ⟨b, c⟩⟩⟩) (fun a => ⟨rfl, Or.inr ⟨rfl, fun q => a ⟨q.1, kd2.mp q.2⟩⟩⟩)) ?_
        rintro r _ ⟨rfl, ⟨rfl, a, b⟩ | ⟨rfl, a⟩⟩
        · have hd := kd2.mp b
          have hv := vl_le (bt := bt) (b := tkb k bt p) (j - tkb k bt p)
          refine Ok.ifF (by decide) (Ok.rdE g11 (Ok.rdE g8 (Ok.ckT (inb_n (by omega) (by omega)) ?_)))
          rw [nI_cl (by omega)]
          refine Ok.rdE ((gK.mt h).2.2 j a).2 ?_
          rw [li_10, li_48, li_1000, nI_mul, nI_add, nI_sub (by omega), mnI_n (by omega) (by omega)]
          refine OkwrE (Ok.rdE (x := nI j) (by rw [wrn (by decide)]; exact g8) (OkwrE (Ok.ret ⟨k - (j + 1), by omega, j + 1, rfl, by omega, by omega, fun i q1 q2 => ?_, ?_, ?_, ?_, ?_, (gK.tr (KM.w (by omega))).tr (KM.w (by omega))⟩)))
          · by_cases e : i = j
            · rw [e, b, ← ec, c2]; rfl
            · exact h3 i q1 (by omega)
          · rw [wrs, nI_1]
          · rw [wrn (by decide), wrn (by decide)]; exact g9
          · rw [wrn (by decide), wrn (by decide)]; exact g10
          · rw [wrn (by decide), wrs, show j + 1 - tkb k bt p = (j - tkb k bt p) + 1 by omega]
            congr 1
            show _ = Nat.min 1000 (10 * vl bt (tkb k bt p) (j - tkb k bt p) + bt (tkb k bt p + (j - tkb k bt p)) - 48)
            rw [show tkb k bt p + (j - tkb k bt p) = j by omega]
        · have hj : tkb k bt p + 1 ≤ j := by
            refine Decidable.byContradiction (fun q => a ?_)
            have : j = tkb k bt p := by omega
            rw [this, ← ec]
            exact ⟨hb, c2⟩
          have ee : j = tke k bt p := by
            refine AV.uq (P := fun j => kd (bt j) == kd (bt (tkb k bt p))) ⟨hj, h2, fun i q1 q2 => h3 i (by omega) q2, fun q => ?_⟩ (tke_AV hk hp hb (by omega))
            refine beq_eq_false_iff_ne.mpr (fun e => a ⟨q, ?_⟩)
            rw [e, ← ec]
            exact c2
          refine Ok.ifT rfl (Ok.ret ⟨⟨gK.mt h, hp, g9, by rw [c2]; exact g10, by rw [← ee]; exact g8, by rw [if_pos c2, ← ee]; exact g11⟩, gK⟩)
      · have c3 : tkc k bt p = 3 := by
          have := kd_r (bt (tkb k bt p))
          omega
        refine Ok.ifT rfl (OkwrE (Ok.rdE (x := nI (tkb k bt p)) (by rw [wrn (by decide)]; exact f8) (OkwrE (Ok.ret ⟨⟨((K3.tr (KM.w (by omega))).tr (KM.w (by omega))).mt h, hp, ?_, ?_, ?_, ?_⟩, (K3.tr (KM.w (by omega))).tr (KM.w (by omega))⟩))))
        · rw [wrn (by decide), wrn (by decide)]; exact f9
        · rw [wrn (by decide), wrs, c3]; rfl
        · rw [wrs, nI_1]
          congr 1
          unfold tke
          rw [if_pos hb, if_pos (by omega)]
        · rw [wrn (by decide), wrn (by decide), if_neg (by omega)]; exact f11
theorem RM.le {k : Nat} {bt : Nat → Nat} {p : Nat} {t : St} (h : RM k bt p t) : tkb k bt p ≤ k ∧ tke k bt p ≤ k ∧ tkb k bt p ≤ tke k bt p ∧ k < 401 := by
  have h1 := tkb_le (bt := bt) h.1.1 h.2.1
  have h2 := tke_le (bt := bt) h.1.1 h.2.1
  have h3 := h.1.1
  omega
theorem m_nx {k : Nat} {bt : Nat → Nat} {t : St} {p : Nat} (h : RM k bt p t) : Ok (FX12_next t) (fun _ u => RM k bt (tke k bt p) u ∧ KM t u) := m_next h.1 h.le.2.1 h.2.2.2.2.1
/-- a fault is told -/
def BD (f : Nat × Nat) (t : St) : Prop := t 149 12 = 1 ∧ t 149 6 = nI f.1 ∧ t 149 7 = nI f.2
/-- the reader's fields and the slots change -/
def FM (t u : St) : Prop := (∀ c, c ≠ 149 → c ≠ 150 → u c = t c) ∧ ∀ i, i < 6 ∨ 12 < i → u 149 i = t 149 i
theorem FM.rf {t : St} : FM t t := ⟨fun _ _ _ => rfl, fun _ _ => rfl⟩
theorem FM.tr {t u v : St} (h : FM t u) (g : FM u v) : FM t v := ⟨fun c h1 h2 => (g.1 c h1 h2).trans (h.1 c h1 h2), fun i hi => (g.2 i hi).trans (h.2 i hi)⟩
theorem KM.fm {t u : St} (h : KM t u) : FM t u := ⟨fun c h1 _ => h.1 c h1, fun i hi => h.2 i (by omega)⟩
theorem m_faults {k : Nat} {bt : Nat → Nat} {t : St} {p f : Nat} (h : RM k bt p t) (hb : t 149 12 = 0) : Ok (FX12_faults (nI f) t) (fun _ u => BD (f, tkb k bt p) u ∧ FM t u) := by
  unfold FX12_faults
  refine Ok.rdE hb (Ok.ifT rfl (OkwrE (OkwrE (Ok.rdE (x := nI (tkb k bt p)) ?_ (OkwrE (Ok.ret ⟨⟨?_, ?_, wrs⟩, fun c h1 _ => ?_, fun i hi => ?_⟩))))))
  · rw [wrn (by decide), wrn (by decide)]; exact h.2.2.1
  · rw [wrn (by decide), wrn (by decide), wrs]
  · rw [wrn (by decide), wrs]
  · rw [wr_off c h1, wr_off c h1, wr_off c h1]
  · rw [wrn (by omega), wrn (by omega), wrn (by omega)]
theorem b_faults {t : St} (hb : t 149 12 = 1) {a : Int32} {Q : Unit → St → Prop} (q : Q () t) : Ok (FX12_faults a t) Q := by
  unfold FX12_faults
  exact Ok.rdE hb (Ok.ifF (by decide) (Ok.ret q))
theorem b_passes {t : St} (hb : t 149 12 = 1) {Q : Unit → St → Prop} (q : Q () t) : Ok (FX12_passes t) Q := by
  unfold FX12_passes
  exact Ok.rdE hb (Ok.ifF (by decide) (Ok.ret q))
theorem m_passes {k : Nat} {bt : Nat → Nat} {t : St} {p : Nat} (h : RM k bt p t) (hb : t 149 12 = 0) : Ok (FX12_passes t) (fun _ u => RM k bt (tke k bt p) u ∧ KM t u) := by
  unfold FX12_passes
  exact Ok.rdE hb (Ok.ifT rfl (Ok.bd _ (m_nx h) (fun _ u hu => Ok.ret hu)))
theorem b_must {t : St} (hb : t 149 12 = 1) {a : Int32} {Q : Unit → St → Prop} (q : Q () t) : Ok (FX12_must a t) Q := by
  unfold FX12_must
  refine Ok.bd (fun _ u => t = u) (Ok.ite (fun _ => Ok.bd (fun _ u => t = u) (b_faults hb rfl) (fun _ u e => Ok.ret e)) (fun _ => Ok.ret rfl)) ?_
  rintro _ _ rfl
  exact Ok.bd (fun _ u => t = u) (b_passes hb rfl) (by rintro _ _ rfl; exact Ok.ret q)
/-- must(true) -/
theorem m_must1 {k : Nat} {bt : Nat → Nat} {t : St} {p : Nat} (h : RM k bt p t) (hb : t 149 12 = 0) : Ok (FX12_must 1 t) (fun _ u => RM k bt (tke k bt p) u ∧ KM t u) := by
  unfold FX12_must
  refine Ok.bd (fun _ u => t = u) (Ok.ifF (by decide) (Ok.ret rfl)) ?_
  rintro _ _ rfl
  exact Ok.bd _ (m_passes h hb) (fun _ u hu => Ok.ret hu)
/-- must(false) -/
theorem m_must0 {k : Nat} {bt : Nat → Nat} {t : St} {p : Nat} (h : RM k bt p t) (hb : t 149 12 = 0) : Ok (FX12_must 0 t) (fun _ u => BD (1, tkb k bt p) u ∧ FM t u) := by
  unfold FX12_must
  refine Ok.bd (fun _ u => BD (1, tkb k bt p) u ∧ FM t u) (Ok.ifT rfl (Ok.bd _ (m_faults (f := 1) h hb) (fun _ u hu => Ok.ret hu))) ?_
  rintro _ u ⟨h1, h2⟩
  exact Ok.bd (fun _ v => v = u) (b_passes h1.1 rfl) (by rintro _ _ rfl; exact Ok.ret ⟨h1, h2⟩)
theorem b_sign {t : St} (hb : t 149 12 = 1) {a : Int32} {Q : Int32 → St → Prop} (q : Q 0 t) : Ok (FX12_isSign a t) Q := by
  unfold FX12_isSign
  exact Ok.rdE hb (Ok.ifF (by decide) (Ok.ret q))
theorem m_sign {k : Nat} {bt : Nat → Nat} {t : St} {p c : Nat} (h : RM k bt p t) (hb : t 149 12 = 0) (hc : c < 256) {Q : Int32 → St → Prop} (q1 : sgn k bt c p = true → Q 1 t) (q0 : sgn k bt c p = false → Q 0 t) : Ok (FX12_isSign (nI c) t) Q := by
  have hle := h.le
  have hc4 := tkc_lt (k := k) (bt := bt) (p := p)
  unfold FX12_isSign
  refine Ok.rdE hb (Ok.ifT rfl (Ok.rdE h.2.2.2.1 ?_))
  by_cases c3 : tkc k bt p = 3
  · have hb : tkb k bt p < k := tk3 (by omega)
    refine Ok.ifT (by rw [c3]; rfl) (Ok.rdE h.2.2.1 (Ok.ckT (inb_n (by omega) (by omega)) ?_))
    rw [nI_cl (by omega)]
    have hb3 := h.1.2.2 _ hb
    refine Ok.rdE hb3.2 ?_
    refine Ok.cv (nI_eqP (by omega) (by omega)) ?_
    exact Ok.ite (fun q => Ok.ret (q1 (decide_eq_true ⟨c3, q⟩))) (fun q => Ok.ret (q0 (decide_eq_false (fun a => q a.2))))
  · exact Ok.ifF (by rw [li_3, nI_eqP (by omega) (by omega)]; exact c3) (Ok.ret (q0 (decide_eq_false (fun a => c3 a.1))))
theorem b_here {t : St} (hb : t 149 12 = 1) {a b : Int32} {Q : Int32 → St → Prop} (q : Q a t) : Ok (FX12_here a b t) Q := by
  unfold FX12_here
  exact Ok.rdE hb (Ok.ifF (by decide) (Ok.ret q))
theorem m_here {k : Nat} {bt : Nat → Nat} {t : St} {p lo hi : Nat} (h : RM k bt p t) (hb : t 149 12 = 0) (hlo : lo < 1001) (hhi : hi < 1001) : Ok (FX12_here (nI lo) (nI hi) t) (fun r u => Sum.elim (fun f => r = nI lo ∧ BD f u ∧ FM t u) (fun v => r = nI v ∧ t = u) (num k bt lo hi p)) := by
  have hc4 := tkc_lt (k := k) (bt := bt) (p := p)
  unfold FX12_here
  refine Ok.rdE hb (Ok.ifT rfl (Ok.rdE h.2.2.2.1 ?_))
  by_cases c2 : tkc k bt p = 2
  · have hv := vl_le (bt := bt) (b := tkb k bt p) (tke k bt p - tkb k bt p)
    have e11 := h.2.2.2.2.2
    rw [if_pos c2] at e11
    by_cases c : lo ≤ vl bt (tkb k bt p) (tke k bt p - tkb k bt p) ∧ vl bt (tkb k bt p) (tke k bt p - tkb k bt p) ≤ hi
    · have en : num k bt lo hi p = .inr (vl bt (tkb k bt p) (tke k bt p - tkb k bt p)) := by unfold num; rw [if_pos c2, if_pos c]
      rw [en]
      refine Ok.bd (fun _ u => t = u) (Ok.ifT (by rw [c2]; rfl) (Ok.rdE e11 (Ok.bd (fun r u => t = u ∧ r = 1) (e_in (fun _ _ => ⟨rfl, rfl⟩) (fun a => absurd ?_ a)) ?_))) ?_
      · rw [n64 (by omega), n64 (by omega), n64 (by omega)]
        omega
      · rintro _ _ ⟨rfl, rfl⟩
        exact Ok.ifF (by decide) (Ok.ret rfl)
      · rintro _ _ rfl
        exact Ok.rdE hb (Ok.ifT rfl (Ok.rdE e11 (Ok.ret ⟨rfl, rfl⟩)))
    · have en : num k bt lo hi p = .inl (2, tkb k bt p) := by unfold num; rw [if_pos c2, if_neg c]
      rw [en]
      refine Ok.bd (fun _ u => BD (2, tkb k bt p) u ∧ FM t u) (Ok.ifT (by rw [c2]; rfl) (Ok.rdE e11 (Ok.bd (fun r u => t = u ∧ r = 0) (e_in (fun a b => absurd ?_ c) (fun _ => ⟨rfl, rfl⟩)) ?_))) ?_
      · rw [n64 (by omega), n64 (by omega)] at a b
        omega
      · rintro _ _ ⟨rfl, rfl⟩
        exact Ok.ifT rfl (Ok.bd _ (m_faults (f := 2) h hb) (fun _ u hu => Ok.ret hu))
      · rintro _ u ⟨h1, h2⟩
        exact Ok.rdE h1.1 (Ok.ifF (by decide) (Ok.ret ⟨rfl, h1, h2⟩))
  · have en : num k bt lo hi p = .inl (1, tkb k bt p) := by unfold num; rw [if_neg c2]
    rw [en]
    refine Ok.bd (fun _ u => BD (1, tkb k bt p) u ∧ FM t u) (Ok.ifF (by rw [li_2, nI_eqP (by omega) (by omega)]; exact c2) (Ok.bd _ (m_faults (f := 1) h hb) (fun _ u hu => Ok.ret hu))) ?_
    rintro _ u ⟨h1, h2⟩
    exact Ok.rdE h1.1 (Ok.ifF (by decide) (Ok.ret ⟨rfl, h1, h2⟩))
end
