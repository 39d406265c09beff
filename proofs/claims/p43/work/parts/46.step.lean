/-! between two calls: places hold what they may, rows of the reference are rows, both tapes hold as much (wip/ext/g46.py) -/
def INV (t : St) : Prop := TY t ∧ PI t ∧ ∃ k, k < 401 ∧ t 1 1 = nI k ∧ t 149 5 = nI k
theorem INV.ro {σ u : St} (h : INV σ) (e : σ = u) : INV u := e ▸ h
theorem INV.gc {σ u : St} (h : INV σ) (g : GC σ u) : INV u := by
  obtain ⟨-, hp, k, hk, e1, e2⟩ := h
  refine ⟨g.1, ?_, k, hk, ?_, ?_⟩
  · unfold PI
    rw [g.2 150 (by omega), g.2 151 (by omega), g.2 152 (by omega)]
    exact hp
  · rw [g.2 1 (by omega)]; exact e1
  · rw [g.2 149 (by omega)]; exact e2
theorem INV.gm {σ u : St} (h : INV σ) (g : GM σ u) : INV u := by
  obtain ⟨-, -, k, hk, e1, e2⟩ := h
  refine ⟨g.1, g.2.2.2, k, hk, ?_, ?_⟩
  · rw [g.2.1 1 (by omega)]; exact e1
  · rw [g.2.2.1]; exact e2
theorem INV.mm {σ : St} (h : INV σ) : GM σ σ := ⟨h.1, fun _ _ => rfl, rfl, h.2.1⟩
theorem PI.al {t u : St} (h : PI t) (e : ∀ b, 150 ≤ b → b < 153 → u b = t b) : PI u := by
  unfold PI
  rw [e 150 (by omega) (by omega), e 151 (by omega) (by omega), e 152 (by omega) (by omega)]
  exact h
theorem s_feed {σ : St} (hI : INV σ) (a b c d e : Int32) : Ok (FX11_feed a b c d e σ) (fun r u => Ok (FX12_feed a b c d e u) (fun r2 w => INV w ∧ r = r2)) := by
  obtain ⟨hT, hP, k, hk, e1, e2⟩ := hI
  refine (gX11_feed hT e1 hk).mono ?_
  rintro r u (⟨h1, rfl, rfl⟩ | ⟨h1, rfl, hu⟩)
  · refine (nX12_feed hT hP e2 hk).mono ?_
    rintro r2 w (⟨-, rfl, rfl⟩ | ⟨h2, -⟩)
    · exact ⟨⟨hT, hP, k, hk, e1, e2⟩, rfl⟩
    · omega
  · have e3 : u 149 5 = nI k := by rw [hu.2.1 149 (by decide) (by decide)]; exact e2
    refine (nX12_feed hu.1 (hP.al (fun b h _ => hu.2.1 b (by omega) (by omega))) e3 hk).mono ?_
    rintro r2 w (⟨h2, -⟩ | ⟨-, rfl, hw, ho, hq, e5⟩)
    · omega
    · exact ⟨⟨hw, hq, k + 20, by omega, by rw [ho 1 (by omega)]; exact hu.2.2, e5⟩, rfl⟩
theorem s_end {σ : St} (hI : INV σ) (a : Int32) : Ok (FX11_end a σ) (fun r u => Ok (FX12_end a u) (fun r2 w => INV w ∧ r = r2)) := by
  obtain ⟨hT, hP, k, hk, e1, e2⟩ := hI
  refine (gX11_end hT e1 hk).mono ?_
  rintro r u (⟨rfl, rfl, hn⟩ | ⟨rfl, j, hj, rfl, hu⟩)
  · refine (nX12_end (INV.mm ⟨hT, hP, k, hk, e1, e2⟩)).mono ?_
    rintro r2 w (⟨rfl, rfl, -⟩ | ⟨rfl, hy, -⟩)
    · exact ⟨⟨hT, hP, k, hk, e1, e2⟩, rfl⟩
    · rw [e2, nI_toInt (by omega)] at hy
      exact absurd hy hn
  · have e3 : u 149 5 = nI k := by rw [hu.2.1 149 (by decide) (by decide)]; exact e2
    have hPu : PI u := hP.al (fun b h _ => hu.2.1 b (by omega) (by omega))
    refine (nX12_end (σ := u) ⟨hu.1, fun _ _ => rfl, rfl, hPu⟩).mono ?_
    rintro r2 w (⟨-, -, hn⟩ | ⟨rfl, hy, g⟩)
    · rw [e3, nI_toInt (by omega), nI_toInt (by omega)] at hn
      omega
    · refine ⟨⟨g.1, g.2.2.2, j, by omega, ?_, ?_⟩, rfl⟩
      · rw [g.2.1 1 (by omega), wr_off 1 (by decide)]; exact hu.2.2
      · rw [g.2.2.1, wr_at, pk_us]
theorem s_told {σ : St} (hI : INV σ) (a : Int32) : Ok (FX11_told a σ) (fun r u => Ok (FX12_told a u) (fun r2 w => INV w)) := by
  refine (gX11_told (GC.refl hI.1)).mono ?_
  rintro r u (⟨h1, rfl⟩ | ⟨h1, g⟩)
  · refine (nX12_told hI.mm).mono ?_
    rintro r2 w (⟨-, rfl⟩ | ⟨h2, -⟩)
    · exact hI
    · exact absurd h2 h1
  · have hPu : PI u := hI.2.1.al (fun b h _ => by rw [g.2 b (by omega), wr_off b (by omega)])
    refine (nX12_told (σ := u) ⟨g.1, fun _ _ => rfl, rfl, hPu⟩).mono ?_
    rintro r2 w (⟨h2, -⟩ | ⟨-, g2⟩)
    · exact absurd h1 h2
    · refine ⟨g2.1, g2.2.2.2, 0, by omega, ?_, ?_⟩
      · rw [g2.2.1 1 (by omega), wr_off 1 (by decide), g.2 1 (by omega), wr_at, pk_us]; rfl
      · rw [g2.2.2.1, wr_at, pk_us]; rfl
theorem s_fault {σ : St} (hI : INV σ) (a : Int32) : Ok (FX11_fault a σ) (fun r u => Ok (FX12_fault a u) (fun r2 w => INV w)) := by
  refine (rX11_fault hI.1 (a := a)).mono ?_
  rintro r u ⟨q, -⟩
  have hu : INV u := hI.ro q
  exact (rX12_fault hu.1 (a := a)).mono (fun _ _ q2 => hu.ro q2.1)
theorem s_count {σ : St} (hI : INV σ) (a : Int32) : Ok (FX11_count a σ) (fun r u => Ok (FX12_count a u) (fun r2 w => INV w)) := by
  refine (rX11_count hI.1 (a := a)).mono ?_
  rintro r u ⟨q, -⟩
  have hu : INV u := hI.ro q
  exact (rX12_count hu.1 (a := a)).mono (fun _ _ q2 => hu.ro q2.1)
theorem s_look {σ : St} (hI : INV σ) (a b : Int32) : Ok (FX11_look a b σ) (fun r u => Ok (FX12_look a b u) (fun r2 w => INV w)) := by
  refine (rX11_look hI.1 (a := a) (b := b)).mono ?_
  rintro r u ⟨q, -⟩
  have hu : INV u := hI.ro q
  exact (rX12_look hu.1 (a := a) (b := b)).mono (fun _ _ q2 => hu.ro q2.1)
theorem s_near {σ : St} (hI : INV σ) (a b : Int32) : Ok (FX11_near a b σ) (fun r u => Ok (FX12_near a b u) (fun r2 w => INV w)) := by
  refine (rX11_near hI.1 (a := a) (b := b)).mono ?_
  rintro r u ⟨q, -⟩
  have hu : INV u := hI.ro q
  exact (rX12_near hu.1 (a := a) (b := b)).mono (fun _ _ q2 => hu.ro q2.1)
theorem s_line {σ : St} (hI : INV σ) (a b c : Int32) : Ok (FX11_line a b c σ) (fun r u => Ok (FX12_line a b c u) (fun r2 w => INV w)) := by
  refine (rX11_line hI.1 (a := a) (b := b) (c := c)).mono ?_
  rintro r u ⟨q, -⟩
  have hu : INV u := hI.ro q
  exact (rX12_line hu.1 (a := a) (b := b) (c := c)).mono (fun _ _ q2 => hu.ro q2.1)
theorem s_far {σ : St} (hI : INV σ) (a b c : Int32) : Ok (FX11_far a b c σ) (fun r u => Ok (FX12_far a b c u) (fun r2 w => INV w)) := by
  refine (rX11_far hI.1 (a := a) (b := b) (c := c)).mono ?_
  rintro r u ⟨q, -⟩
  have hu : INV u := hI.ro q
  exact (rX12_far hu.1 (a := a) (b := b) (c := c)).mono (fun _ _ q2 => hu.ro q2.1)
theorem s_row {σ : St} (hI : INV σ) (a b : Int32) : Ok (FX11_row a b σ) (fun r u => Ok (FX12_row a b u) (fun r2 w => INV w)) := by
  refine (rX11_row hI.1 (a := a) (b := b)).mono ?_
  rintro r u ⟨q, -⟩
  have hu : INV u := hI.ro q
  exact (rX12_row hu.1 (a := a) (b := b)).mono (fun _ _ q2 => hu.ro q2.1)
theorem s_place {σ : St} (hI : INV σ) (a b : Int32) : Ok (FX11_place a b σ) (fun r u => Ok (FX12_place a b u) (fun r2 w => INV w)) := by
  refine (rX11_place hI.1 (a := a) (b := b)).mono ?_
  rintro r u ⟨q, -⟩
  have hu : INV u := hI.ro q
  exact (rX12_place hu.1 (h_pe := hu.2.1.1) (a := a) (b := b)).mono (fun _ _ q2 => hu.ro q2.1)
theorem s_value {σ : St} (hI : INV σ) (a b : Int32) : Ok (FX11_value a b σ) (fun r u => Ok (FX12_value a b u) (fun r2 w => INV w)) := by
  refine (rX11_value hI.1 (a := a) (b := b)).mono ?_
  rintro r u ⟨q, -⟩
  have hu : INV u := hI.ro q
  exact (nX12_value hu.mm (a := a) (b := b)).mono (fun _ _ q2 => hu.gm q2.1)
theorem s_price {σ : St} (hI : INV σ) (a b c : Int32) : Ok (FX11_price a b c σ) (fun r u => Ok (FX12_price a b c u) (fun r2 w => INV w)) := by
  refine (rX11_price hI.1 (a := a) (b := b) (c := c)).mono ?_
  rintro r u ⟨q, -⟩
  have hu : INV u := hI.ro q
  exact (rX12_price hu.1 (a := a) (b := b) (c := c)).mono (fun _ _ q2 => hu.ro q2.1)
theorem s_worst {σ : St} (hI : INV σ) (a b : Int32) : Ok (FX11_worst a b σ) (fun r u => Ok (FX12_worst a b u) (fun r2 w => INV w)) := by
  refine (rX11_worst hI.1 (a := a) (b := b)).mono ?_
  rintro r u ⟨q, -⟩
  have hu : INV u := hI.ro q
  exact (rX12_worst hu.1 (a := a) (b := b)).mono (fun _ _ q2 => hu.ro q2.1)
theorem s_longest {σ : St} (hI : INV σ) (a : Int32) : Ok (FX11_longest a σ) (fun r u => Ok (FX12_longest a u) (fun r2 w => INV w)) := by
  refine (rX11_longest hI.1 (a := a)).mono ?_
  rintro r u ⟨q, -⟩
  have hu : INV u := hI.ro q
  exact (rX12_longest hu.1 (hpe := hu.2.1.1) (a := a)).mono (fun _ _ q2 => hu.ro q2.1)
theorem s_least {σ : St} (hI : INV σ) (a b : Int32) : Ok (FX11_least a b σ) (fun r u => Ok (FX12_least a b u) (fun r2 w => INV w)) := by
  refine (gX11_least (GC.refl hI.1) (a := a) (b := b)).mono ?_
  rintro r u ⟨q, -⟩
  have hu : INV u := hI.gc q
  exact (nX12_least hu.mm (a := a) (b := b)).mono (fun _ _ q2 => hu.gm q2.1)
theorem s_best {σ : St} (hI : INV σ) (a b c : Int32) : Ok (FX11_best a b c σ) (fun r u => Ok (FX12_best a b c u) (fun r2 w => INV w)) := by
  refine (gX11_best (GC.refl hI.1) (a := a) (b := b) (c := c)).mono ?_
  rintro r u ⟨q, -⟩
  have hu : INV u := hI.gc q
  exact (nX12_best hu.mm (a := a) (b := b) (c := c)).mono (fun _ _ q2 => hu.gm q2.1)
theorem s_ways {σ : St} (hI : INV σ) (a b : Int32) : Ok (FX11_ways a b σ) (fun r u => Ok (FX12_ways a b u) (fun r2 w => INV w)) := by
  refine (gX11_ways (GC.refl hI.1) (a := a) (b := b)).mono ?_
  rintro r u ⟨q, -⟩
  have hu : INV u := hI.gc q
  exact (nX12_ways hu.mm (a := a) (b := b)).mono (fun _ _ q2 => hu.gm q2.1)
theorem s_within {σ : St} (hI : INV σ) (a b c : Int32) : Ok (FX11_within a b c σ) (fun r u => Ok (FX12_within a b c u) (fun r2 w => INV w)) := by
  refine (gX11_within (GC.refl hI.1) (a := a) (b := b) (c := c)).mono ?_
  rintro r u ⟨q, -⟩
  have hu : INV u := hI.gc q
  exact (nX12_within hu.mm (a := a) (b := b) (c := c)).mono (fun _ _ q2 => hu.gm q2.1)
theorem s_firsts {σ : St} (hI : INV σ) (a b : Int32) : Ok (FX11_firsts a b σ) (fun r u => Ok (FX12_firsts a b u) (fun r2 w => INV w)) := by
  refine (gX11_firsts (GC.refl hI.1) (a := a) (b := b)).mono ?_
  rintro r u ⟨q, -⟩
  have hu : INV u := hI.gc q
  exact (nX12_firsts hu.mm (a := a) (b := b)).mono (fun _ _ q2 => hu.gm q2.1)
theorem s_bound {σ : St} (hI : INV σ) (a b c : Int32) : Ok (FX11_bound a b c σ) (fun r u => Ok (FX12_bound a b c u) (fun r2 w => INV w)) := by
  refine (rX11_bound hI.1 (a := a) (b := b) (c := c)).mono ?_
  rintro r u ⟨q, -⟩
  have hu : INV u := hI.ro q
  exact (rX12_bound hu.1 (a := a) (b := b) (c := c)).mono (fun _ _ q2 => hu.ro q2.1)
theorem s_minor {σ : St} (hI : INV σ) (a : Int32) : Ok (FX11_minor a σ) (fun r u => Ok (FX12_minor a u) (fun r2 w => INV w)) := by
  refine (gX11_minor (GC.refl hI.1) (a := a)).mono ?_
  rintro r u ⟨q, -⟩
  have hu : INV u := hI.gc q
  exact (nX12_minor hu.mm (a := a)).mono (fun _ _ q2 => hu.gm q2.1)
theorem s_among {σ : St} (hI : INV σ) (a b c : Int32) : Ok (FX11_among a b c σ) (fun r u => Ok (FX12_among a b c u) (fun r2 w => INV w)) := by
  refine (gX11_among (GC.refl hI.1) (a := a) (b := b) (c := c)).mono ?_
  rintro r u ⟨q, -⟩
  have hu : INV u := hI.gc q
  exact (nX12_among hu.mm (a := a) (b := b) (c := c)).mono (fun _ _ q2 => hu.gm q2.1)
theorem s_split {σ : St} (hI : INV σ) (a b c : Int32) : Ok (FX11_split a b c σ) (fun r u => Ok (FX12_split a b c u) (fun r2 w => INV w)) := by
  refine (rX11_split hI.1 (a := a) (b := b) (c := c)).mono ?_
  rintro r u ⟨q, -⟩
  have hu : INV u := hI.ro q
  exact (rX12_split hu.1 (a := a) (b := b) (c := c)).mono (fun _ _ q2 => hu.ro q2.1)
theorem s_halve {σ : St} (hI : INV σ) (a : Int32) : Ok (FX11_halve a σ) (fun r u => Ok (FX12_halve a u) (fun r2 w => INV w)) := by
  refine (rX11_halve hI.1 (a := a)).mono ?_
  rintro r u ⟨q, -⟩
  have hu : INV u := hI.ro q
  exact (rX12_halve hu.1 (a := a)).mono (fun _ _ q2 => hu.ro q2.1)
theorem s_bag {σ : St} (hI : INV σ) (a b c : Int32) : Ok (FX11_bag a b c σ) (fun r u => Ok (FX12_bag a b c u) (fun r2 w => INV w)) := by
  refine (rX11_bag hI.1 (a := a) (b := b) (c := c)).mono ?_
  rintro r u ⟨q, -⟩
  have hu : INV u := hI.ro q
  exact (rX12_bag hu.1 (a := a) (b := b) (c := c)).mono (fun _ _ q2 => hu.ro q2.1)
theorem s_filled {σ : St} (hI : INV σ) (a b : Int32) : Ok (FX11_filled a b σ) (fun r u => Ok (FX12_filled a b u) (fun r2 w => INV w)) := by
  refine (rX11_filled hI.1 (a := a) (b := b)).mono ?_
  rintro r u ⟨q, -⟩
  have hu : INV u := hI.ro q
  exact (rX12_filled hu.1 (a := a) (b := b)).mono (fun _ _ q2 => hu.ro q2.1)
theorem s_gain {σ : St} (hI : INV σ) (a b c d : Int32) : Ok (FX11_gain a b c d σ) (fun r u => Ok (FX12_gain a b c d u) (fun r2 w => INV w)) := by
  refine (gX11_gain (GC.refl hI.1) (a := a) (b := b) (c := c) (d := d)).mono ?_
  rintro r u ⟨q, -⟩
  have hu : INV u := hI.gc q
  exact (nX12_gain hu.mm (a := a) (b := b) (c := c) (d := d)).mono (fun _ _ q2 => hu.gm q2.1)
theorem s_swaps {σ : St} (hI : INV σ) (a b c : Int32) : Ok (FX11_swaps a b c σ) (fun r u => Ok (FX12_swaps a b c u) (fun r2 w => INV w)) := by
  refine (gX11_swaps (GC.refl hI.1) (a := a) (b := b) (c := c)).mono ?_
  rintro r u ⟨q, -⟩
  have hu : INV u := hI.gc q
  exact (nX12_swaps hu.mm (a := a) (b := b) (c := c)).mono (fun _ _ q2 => hu.gm q2.1)
theorem s_moves {σ : St} (hI : INV σ) (a b c : Int32) : Ok (FX11_moves a b c σ) (fun r u => Ok (FX12_moves a b c u) (fun r2 w => INV w)) := by
  refine (gX11_moves (GC.refl hI.1) (a := a) (b := b) (c := c)).mono ?_
  rintro r u ⟨q, -⟩
  have hu : INV u := hI.gc q
  exact (nX12_moves hu.mm (a := a) (b := b) (c := c)).mono (fun _ _ q2 => hu.gm q2.1)
theorem s_reverse {σ : St} (hI : INV σ) (a : Int32) : Ok (FX11_reverse a σ) (fun r u => Ok (FX12_reverse a u) (fun r2 w => INV w)) := by
  refine (gX11_reverse (GC.refl hI.1) (a := a)).mono ?_
  rintro r u ⟨q, -⟩
  have hu : INV u := hI.gc q
  exact (nX12_reverse hu.mm (a := a)).mono (fun _ _ q2 => hu.gm q2.1)
theorem s_takes {σ : St} (hI : INV σ) (a b : Int32) : Ok (FX11_takes a b σ) (fun r u => Ok (FX12_takes a b u) (fun r2 w => INV w)) := by
  refine (gX11_takes (GC.refl hI.1) (a := a) (b := b)).mono ?_
  rintro r u ⟨q, -⟩
  have hu : INV u := hI.gc q
  exact (nX12_takes hu.mm (a := a) (b := b)).mono (fun _ _ q2 => hu.gm q2.1)
theorem s_polish {σ : St} (hI : INV σ) (a b : Int32) : Ok (FX11_polish a b σ) (fun r u => Ok (FX12_polish a b u) (fun r2 w => INV w)) := by
  refine (gX11_polish (GC.refl hI.1) (a := a) (b := b)).mono ?_
  rintro r u ⟨q, -⟩
  have hu : INV u := hI.gc q
  exact (nX12_polish hu.mm (a := a) (b := b)).mono (fun _ _ q2 => hu.gm q2.1)
theorem s_polished {σ : St} (hI : INV σ) (a b : Int32) : Ok (FX11_polished a b σ) (fun r u => Ok (FX12_polished a b u) (fun r2 w => INV w)) := by
  refine (gX11_polished (GC.refl hI.1) (a := a) (b := b)).mono ?_
  rintro r u ⟨q, -⟩
  have hu : INV u := hI.gc q
  exact (nX12_polished hu.mm (a := a) (b := b)).mono (fun _ _ q2 => hu.gm q2.1)
theorem s_greedy {σ : St} (hI : INV σ) (a b : Int32) : Ok (FX11_greedy a b σ) (fun r u => Ok (FX12_greedy a b u) (fun r2 w => INV w)) := by
  refine (gX11_greedy (GC.refl hI.1) (a := a) (b := b)).mono ?_
  rintro r u ⟨q, -⟩
  have hu : INV u := hI.gc q
  exact (nX12_greedy hu.mm (a := a) (b := b)).mono (fun _ _ q2 => hu.gm q2.1)
theorem s_layers {σ : St} (hI : INV σ) (a b : Int32) : Ok (FX11_layers a b σ) (fun r u => Ok (FX12_layers a b u) (fun r2 w => INV w)) := by
  refine (gX11_layers (GC.refl hI.1) (a := a) (b := b)).mono ?_
  rintro r u ⟨q, -⟩
  have hu : INV u := hI.gc q
  exact (nX12_layers hu.mm (a := a) (b := b)).mono (fun _ _ q2 => hu.gm q2.1)
theorem s_adds {σ : St} (hI : INV σ) (a b c d : Int32) : Ok (FX11_adds a b c d σ) (fun r u => Ok (FX12_adds a b c d u) (fun r2 w => INV w)) := by
  refine (gX11_adds (GC.refl hI.1) (a := a) (b := b) (c := c) (d := d)).mono ?_
  rintro r u ⟨q, -⟩
  have hu : INV u := hI.gc q
  exact (nX12_adds hu.mm (a := a) (b := b) (c := c) (d := d)).mono (fun _ _ q2 => hu.gm q2.1)
theorem s_cuts {σ : St} (hI : INV σ) (a b c : Int32) : Ok (FX11_cuts a b c σ) (fun r u => Ok (FX12_cuts a b c u) (fun r2 w => INV w)) := by
  refine (gX11_cuts (GC.refl hI.1) (a := a) (b := b) (c := c)).mono ?_
  rintro r u ⟨q, -⟩
  have hu : INV u := hI.gc q
  exact (nX12_cuts hu.mm (a := a) (b := b) (c := c)).mono (fun _ _ q2 => hu.gm q2.1)
theorem s_merges {σ : St} (hI : INV σ) (a b c : Int32) : Ok (FX11_merges a b c σ) (fun r u => Ok (FX12_merges a b c u) (fun r2 w => INV w)) := by
  refine (gX11_merges (GC.refl hI.1) (a := a) (b := b) (c := c)).mono ?_
  rintro r u ⟨q, -⟩
  have hu : INV u := hI.gc q
  exact (nX12_merges hu.mm (a := a) (b := b) (c := c)).mono (fun _ _ q2 => hu.gm q2.1)
theorem s_drops {σ : St} (hI : INV σ) (a : Int32) : Ok (FX11_drops a σ) (fun r u => Ok (FX12_drops a u) (fun r2 w => INV w)) := by
  refine (gX11_drops (GC.refl hI.1) (a := a)).mono ?_
  rintro r u ⟨q, -⟩
  have hu : INV u := hI.gc q
  exact (nX12_drops hu.mm (a := a)).mono (fun _ _ q2 => hu.gm q2.1)
theorem s_undo {σ : St} (hI : INV σ) : Ok (FX11_undo σ) (fun r u => Ok (FX12_undo u) (fun r2 w => INV w)) := by
  refine (gX11_undo (GC.refl hI.1)).mono ?_
  rintro r u ⟨q, -⟩
  have hu : INV u := hI.gc q
  exact (nX12_undo hu.mm).mono (fun _ _ q2 => hu.gm q2.1)
theorem s_tell {σ : St} (hI : INV σ) (a b : Int32) : Ok (FX11_tell a b σ) (fun r u => Ok (FX12_tell a b u) (fun r2 w => INV w)) := by
  refine (gX11_tell (GC.refl hI.1) (a := a) (b := b)).mono ?_
  rintro r u ⟨q, -⟩
  have hu : INV u := hI.gc q
  exact (nX12_tell hu.mm (a := a) (b := b)).mono (fun _ _ q2 => hu.gm q2.1)
theorem s_octet {σ : St} (hI : INV σ) (a : Int32) : Ok (FX11_octet a σ) (fun r u => Ok (FX12_octet a u) (fun r2 w => INV w)) := by
  refine (rX11_octet hI.1 (a := a)).mono ?_
  rintro r u ⟨q, -⟩
  have hu : INV u := hI.ro q
  exact (rX12_octet hu.1 (a := a)).mono (fun _ _ q2 => hu.ro q2.1)
