/-! between two calls: both tapes hold the same bytes, both tell the same fault (printed by wip/sim/g64.py) -/
def P0 (c i : Nat) : Prop := c = 1 ∨ c = 2 ∨ c = 5 ∨ c = 153 ∨ (c = 149 ∧ (i = 5 ∨ i = 6 ∨ i = 7))
def INV2 (t : St) : Prop := INV t ∧ (∃ k bt, CT k bt t ∧ MT k bt t) ∧ t 5 1 = t 149 6 ∧ t 5 2 = t 149 7
theorem INV2.fr {σ w : St} (h : INV2 σ) (hw : INV w) (f : ∀ c i, P0 c i → w c i = σ c i) : INV2 w := by
  obtain ⟨-, ⟨k, bt, hC, hM⟩, e1, e2⟩ := h
  refine ⟨hw, ⟨k, bt, ⟨hC.1, ?_, fun i hi => ?_⟩, hM.1, ?_, fun i hi => ?_⟩, ?_, ?_⟩
  · rw [f 1 1 (by unfold P0; omega)]; exact hC.2.1
  · rw [f 2 i (by unfold P0; omega)]; exact hC.2.2 i hi
  · rw [f 149 5 (by unfold P0; omega)]; exact hM.2.1
  · rw [f 153 i (by unfold P0; omega)]; exact hM.2.2 i hi
  · rw [f 5 1 (by unfold P0; omega), f 149 6 (by unfold P0; omega)]; exact e1
  · rw [f 5 2 (by unfold P0; omega), f 149 7 (by unfold P0; omega)]; exact e2
theorem fo_FX11_end {t : St} (a : Int32) : Fo (fun c i => ¬ (c = 1 ∧ i = 1)) t (FX11_end a t) := by
  unfold FX11_end
  exact Fo.ite Fo.ret (Fo.rd (fun _ => Fo.ite (Fo.wr (fun c j h e q => h ⟨e, q⟩) (fun _ => Fo.ret)) Fo.ret))
theorem fo_FX12_end {t : St} (a : Int32) : Fo (fun c i => ¬ (c = 149 ∧ i = 5)) t (FX12_end a t) := by
  unfold FX12_end
  exact Fo.rd (fun _ => Fo.bd (fo_FX12_in _ _ _) (fun _ _ => Fo.ite Fo.ret (Fo.wr (fun c j h e q => h ⟨e, q⟩) (fun _ => Fo.ret))))
theorem nI_cl2 {x : Int32} (h : IsR 256 x) : nI x.toNatClampNeg = x ∧ x.toNatClampNeg < 256 := by
  obtain ⟨j, hj, rfl⟩ := h
  rw [nI_cl (by omega)]
  exact ⟨rfl, hj⟩
theorem z_feed {σ : St} (hI : INV2 σ) (a b c d e : Int32) : Ok (FX11_feed a b c d e σ) (fun r u => Ok (FX12_feed a b c d e u) (fun r2 w => INV2 w ∧ r = r2)) := by
  obtain ⟨hI1, ⟨k, bt, hC, hM⟩, e1, e2⟩ := id hI
  obtain ⟨r, u, g1, r2, w, g2, hw, hr⟩ := s_feed hI1 a b c d e
  refine ⟨r, u, g1, r2, w, g2, ?_, hr⟩
  by_cases hk : k ≤ 380
  · obtain ⟨-, c1, c2, c3, c4⟩ := (f_feedC hC.2.1 hk).out g1
    obtain ⟨-, m1, m2, m3, m4⟩ := (f_feedM (t := u) (k := k) (by rw [c1 149 (by decide) (by decide)]; exact hM.2.1) hk).out g2
    have bb : ∀ i, nI (by20 (ff5 a b c d e) i).toNatClampNeg = by20 (ff5 a b c d e) i ∧ (by20 (ff5 a b c d e) i).toNatClampNeg < 256 := fun i => nI_cl2 (and255 _)
    refine ⟨hw, ⟨k + 20, fun i => if i < k then bt i else (by20 (ff5 a b c d e) (i - k)).toNatClampNeg, ⟨by omega, ?_, fun i hi => ?_⟩, by omega, ?_, fun i hi => ?_⟩, ?_, ?_⟩
    · rw [m1 1 (by decide) (by decide)]; exact c2
    · rw [m1 2 (by decide) (by decide)]
      dsimp only
      by_cases q : i < k
      · rw [if_pos q, c3 i q]; exact hC.2.2 i q
      · rw [if_neg q]
        have h4 := c4 (i - k) (by omega)
        rw [show k + (i - k) = i by omega] at h4
        exact ⟨(bb _).2, by rw [h4]; exact (bb _).1.symm⟩
    · rw [m2, pk_us]
    · dsimp only
      by_cases q : i < k
      · rw [if_pos q, m3 i q, c1 153 (by decide) (by decide)]; exact hM.2.2 i q
      · rw [if_neg q]
        have h4 := m4 (i - k) (by omega)
        rw [show k + (i - k) = i by omega] at h4
        exact ⟨(bb _).2, by rw [h4]; exact (bb _).1.symm⟩
    · rw [m1 5 (by decide) (by decide), c1 5 (by decide) (by decide), m2, pk_un (by decide), c1 149 (by decide) (by decide)]; exact e1
    · rw [m1 5 (by decide) (by decide), c1 5 (by decide) (by decide), m2, pk_un (by decide), c1 149 (by decide) (by decide)]; exact e2
  · have eu : σ = u := by
      rcases (gX11_feed hI1.1 hC.2.1 hC.1).out g1 with ⟨-, -, h⟩ | ⟨h, -⟩
      · exact h
      · omega
    subst eu
    have ew : σ = w := by
      rcases (nX12_feed hI1.1 hI1.2.1 hM.2.1 hM.1).out g2 with ⟨-, -, h⟩ | ⟨h, -⟩
      · exact h
      · omega
    subst ew
    exact hI
theorem z_end {σ : St} (hI : INV2 σ) (a : Int32) : Ok (FX11_end a σ) (fun r u => Ok (FX12_end a u) (fun r2 w => INV2 w ∧ r = r2)) := by
  obtain ⟨hI1, ⟨k, bt, hC, hM⟩, e1, e2⟩ := id hI
  obtain ⟨r, u, g1, r2, w, g2, hw, hr⟩ := s_end hI1 a
  refine ⟨r, u, g1, r2, w, g2, ?_, hr⟩
  have f1 := fo_FX11_end a r u g1
  have f2 := fo_FX12_end a r2 w g2
  have hj : ∃ j, j ≤ k ∧ u 1 1 = nI j := by
    rcases (gX11_end hI1.1 hC.2.1 hC.1).out g1 with ⟨-, rfl, -⟩ | ⟨-, j, hj, -, h⟩
    · exact ⟨k, Nat.le_refl _, hC.2.1⟩
    · exact ⟨j, hj, h.2.2⟩
  obtain ⟨j, hj, ej⟩ := hj
  obtain ⟨k2, hk2, w1, w2⟩ := hw.2.2
  have ek : k2 = j := by
    rw [f2 1 1 (by decide), ej] at w1
    have := hC.1
    exact (nI_inj w1 (by omega) (by omega)).symm
  subst ek
  refine ⟨hw, ⟨k2, bt, ⟨hk2, w1, fun i hi => ?_⟩, hk2, w2, fun i hi => ?_⟩, ?_, ?_⟩
  · rw [f2 2 i (by omega), f1 2 i (by omega)]; exact hC.2.2 i (by omega)
  · rw [f2 153 i (by omega), f1 153 i (by omega)]; exact hM.2.2 i (by omega)
  · rw [f2 5 1 (by decide), f1 5 1 (by decide), f2 149 6 (by decide), f1 149 6 (by decide)]; exact e1
  · rw [f2 5 2 (by decide), f1 5 2 (by decide), f2 149 7 (by decide), f1 149 7 (by decide)]; exact e2
theorem z_told {σ : St} (hI : INV2 σ) (a : Int32) : Ok (FX11_told a σ) (fun r u => Ok (FX12_told a u) (fun r2 w => INV2 w ∧ r = r2)) := by
  obtain ⟨hI1, ⟨k, bt, hC, hM⟩, e1, e2⟩ := id hI
  obtain ⟨r, u, g1, r2, w, g2, hw⟩ := s_told hI1 a
  refine ⟨r, u, g1, r2, w, g2, ?_⟩
  by_cases hs : IsR 3 a
  · obtain ⟨s, hs, rfl⟩ := hs
    obtain ⟨t1, u1⟩ := c_told hC hs r u g1
    have gc : GC (wr σ 1 1 0) u := by
      rcases (gX11_told (GC.refl hI1.1)).out g1 with ⟨h, -⟩ | ⟨-, h⟩
      · exact absurd ⟨s, hs, rfl⟩ h
      · exact h
    have pu : PI u := hI1.2.1.al (fun b h _ => by rw [gc.2 b (by omega), wr_off b (by omega)])
    have gm : GM (wr u 149 5 0) w := by
      rcases (nX12_told (σ := u) ⟨gc.1, fun _ _ => rfl, rfl, pu⟩).out g2 with ⟨h, -⟩ | ⟨-, h⟩
      · exact absurd ⟨s, hs, rfl⟩ h
      · exact h
    obtain ⟨m, hm, em⟩ := gc.1.rd ty_m3 (by omega)
    have mu : MT k bt u := ⟨hM.1, by rw [gc.2 149 (by omega), wrf (by decide)]; exact hM.2.1, fun i hi => by rw [gc.2 153 (by omega), wrf (by decide)]; exact hM.2.2 i hi⟩
    have t2 := m_told mu hs em hm r2 w g2
    have w5 : ∀ i, w 5 i = u 5 i := fun i => by rw [gm.2.1 5 (by omega), wrf (by decide)]
    obtain ⟨q1, q2, q3⟩ := t1.uq t2
    obtain ⟨k2, hk2, w1, w2⟩ := hw.2.2
    have ek : k2 = 0 := by
      rw [gm.2.1 1 (by omega), wrf (by decide), u1] at w1
      exact (nI_inj (a := 0) w1 (by omega) (by omega)).symm
    subst ek
    exact ⟨⟨hw, ⟨0, bt, ⟨by omega, w1, fun i hi => by omega⟩, by omega, w2, fun i hi => by omega⟩, by rw [w5]; exact q2, by rw [w5]; exact q3⟩, q1⟩
  · obtain ⟨rfl, rfl⟩ := c_told0 hs r u g1
    obtain ⟨rfl, rfl⟩ := m_told0 hs r2 w g2
    exact ⟨hI, rfl⟩
theorem z_fault {σ : St} (hI : INV2 σ) (a : Int32) : Ok (FX11_fault a σ) (fun r u => Ok (FX12_fault a u) (fun r2 w => INV2 w ∧ r = r2)) := by
  unfold FX11_fault FX12_fault
  refine Ok.ite (fun c => Ok.rdE rfl (Ok.ret (Ok.ifT c (Ok.rdE rfl (Ok.ret ⟨hI, hI.2.2.1⟩))))) (fun c => Ok.ite (fun c1 => Ok.rdE rfl (Ok.ret (Ok.ifF c (Ok.ifT c1 (Ok.rdE rfl (Ok.ret ⟨hI, hI.2.2.2⟩)))))) (fun c1 => Ok.ret (Ok.ifF c (Ok.ifF c1 (Ok.ret ⟨hI, rfl⟩)))))
theorem z_count {σ : St} (hI : INV2 σ) (a : Int32) : Ok (FX11_count a σ) (fun r u => Ok (FX12_count a u) (fun r2 w => INV2 w)) := by
  obtain ⟨r, u, e1, r2, w, e2, hw⟩ := s_count hI.1 a
  have f1 := fo_FX11_count (P := P0) a r u e1
  have f2 := fo_FX12_count (P := P0) a r2 w e2
  exact ⟨r, u, e1, r2, w, e2, hI.fr hw (fun c i h => (f2 c i h).trans (f1 c i h))⟩
theorem z_look {σ : St} (hI : INV2 σ) (a b : Int32) : Ok (FX11_look a b σ) (fun r u => Ok (FX12_look a b u) (fun r2 w => INV2 w)) := by
  obtain ⟨r, u, e1, r2, w, e2, hw⟩ := s_look hI.1 a b
  have f1 := fo_FX11_look (P := P0) a b r u e1
  have f2 := fo_FX12_look (P := P0) a b r2 w e2
  exact ⟨r, u, e1, r2, w, e2, hI.fr hw (fun c i h => (f2 c i h).trans (f1 c i h))⟩
theorem z_near {σ : St} (hI : INV2 σ) (a b : Int32) : Ok (FX11_near a b σ) (fun r u => Ok (FX12_near a b u) (fun r2 w => INV2 w)) := by
  obtain ⟨r, u, e1, r2, w, e2, hw⟩ := s_near hI.1 a b
  have f1 := fo_FX11_near (P := P0) a b r u e1
  have f2 := fo_FX12_near (P := P0) a b r2 w e2
  exact ⟨r, u, e1, r2, w, e2, hI.fr hw (fun c i h => (f2 c i h).trans (f1 c i h))⟩
theorem z_line {σ : St} (hI : INV2 σ) (a b c : Int32) : Ok (FX11_line a b c σ) (fun r u => Ok (FX12_line a b c u) (fun r2 w => INV2 w)) := by
  obtain ⟨r, u, e1, r2, w, e2, hw⟩ := s_line hI.1 a b c
  have f1 := fo_FX11_line (P := P0) a b c r u e1
  have f2 := fo_FX12_line (P := P0) a b c r2 w e2
  exact ⟨r, u, e1, r2, w, e2, hI.fr hw (fun c i h => (f2 c i h).trans (f1 c i h))⟩
theorem z_far {σ : St} (hI : INV2 σ) (a b c : Int32) : Ok (FX11_far a b c σ) (fun r u => Ok (FX12_far a b c u) (fun r2 w => INV2 w)) := by
  obtain ⟨r, u, e1, r2, w, e2, hw⟩ := s_far hI.1 a b c
  have f1 := fo_FX11_far (P := P0) a b c r u e1
  have f2 := fo_FX12_far (P := P0) a b c r2 w e2
  exact ⟨r, u, e1, r2, w, e2, hI.fr hw (fun c i h => (f2 c i h).trans (f1 c i h))⟩
theorem z_row {σ : St} (hI : INV2 σ) (a b : Int32) : Ok (FX11_row a b σ) (fun r u => Ok (FX12_row a b u) (fun r2 w => INV2 w)) := by
  obtain ⟨r, u, e1, r2, w, e2, hw⟩ := s_row hI.1 a b
  have f1 := fo_FX11_row (P := P0) a b r u e1
  have f2 := fo_FX12_row (P := P0) a b r2 w e2
  exact ⟨r, u, e1, r2, w, e2, hI.fr hw (fun c i h => (f2 c i h).trans (f1 c i h))⟩
theorem z_place {σ : St} (hI : INV2 σ) (a b : Int32) : Ok (FX11_place a b σ) (fun r u => Ok (FX12_place a b u) (fun r2 w => INV2 w)) := by
  obtain ⟨r, u, e1, r2, w, e2, hw⟩ := s_place hI.1 a b
  have f1 := fo_FX11_place (P := P0) a b r u e1
  have f2 := fo_FX12_place (P := P0) a b r2 w e2
  exact ⟨r, u, e1, r2, w, e2, hI.fr hw (fun c i h => (f2 c i h).trans (f1 c i h))⟩
theorem z_value {σ : St} (hI : INV2 σ) (a b : Int32) : Ok (FX11_value a b σ) (fun r u => Ok (FX12_value a b u) (fun r2 w => INV2 w)) := by
  obtain ⟨r, u, e1, r2, w, e2, hw⟩ := s_value hI.1 a b
  have f1 := fo_FX11_value (P := P0) a b r u e1
  have f2 := fo_FX12_value (P := P0) a b (fun c i h => by unfold P0 at h; omega) r2 w e2
  exact ⟨r, u, e1, r2, w, e2, hI.fr hw (fun c i h => (f2 c i h).trans (f1 c i h))⟩
theorem z_price {σ : St} (hI : INV2 σ) (a b c : Int32) : Ok (FX11_price a b c σ) (fun r u => Ok (FX12_price a b c u) (fun r2 w => INV2 w)) := by
  obtain ⟨r, u, e1, r2, w, e2, hw⟩ := s_price hI.1 a b c
  have f1 := fo_FX11_price (P := P0) a b c r u e1
  have f2 := fo_FX12_price (P := P0) a b c r2 w e2
  exact ⟨r, u, e1, r2, w, e2, hI.fr hw (fun c i h => (f2 c i h).trans (f1 c i h))⟩
theorem z_worst {σ : St} (hI : INV2 σ) (a b : Int32) : Ok (FX11_worst a b σ) (fun r u => Ok (FX12_worst a b u) (fun r2 w => INV2 w)) := by
  obtain ⟨r, u, e1, r2, w, e2, hw⟩ := s_worst hI.1 a b
  have f1 := fo_FX11_worst (P := P0) a b r u e1
  have f2 := fo_FX12_worst (P := P0) a b r2 w e2
  exact ⟨r, u, e1, r2, w, e2, hI.fr hw (fun c i h => (f2 c i h).trans (f1 c i h))⟩
theorem z_longest {σ : St} (hI : INV2 σ) (a : Int32) : Ok (FX11_longest a σ) (fun r u => Ok (FX12_longest a u) (fun r2 w => INV2 w)) := by
  obtain ⟨r, u, e1, r2, w, e2, hw⟩ := s_longest hI.1 a
  have f1 := fo_FX11_longest (P := P0) a r u e1
  have f2 := fo_FX12_longest (P := P0) a r2 w e2
  exact ⟨r, u, e1, r2, w, e2, hI.fr hw (fun c i h => (f2 c i h).trans (f1 c i h))⟩
theorem z_least {σ : St} (hI : INV2 σ) (a b : Int32) : Ok (FX11_least a b σ) (fun r u => Ok (FX12_least a b u) (fun r2 w => INV2 w)) := by
  obtain ⟨r, u, e1, r2, w, e2, hw⟩ := s_least hI.1 a b
  have f1 := fo_FX11_least (P := P0) a b (fun c i h => by unfold P0 at h; omega) r u e1
  have f2 := fo_FX12_least (P := P0) a b (fun c i h => by unfold P0 at h; omega) r2 w e2
  exact ⟨r, u, e1, r2, w, e2, hI.fr hw (fun c i h => (f2 c i h).trans (f1 c i h))⟩
theorem z_best {σ : St} (hI : INV2 σ) (a b c : Int32) : Ok (FX11_best a b c σ) (fun r u => Ok (FX12_best a b c u) (fun r2 w => INV2 w)) := by
  obtain ⟨r, u, e1, r2, w, e2, hw⟩ := s_best hI.1 a b c
  have f1 := fo_FX11_best (P := P0) a b c (fun c i h => by unfold P0 at h; omega) r u e1
  have f2 := fo_FX12_best (P := P0) a b c (fun c i h => by unfold P0 at h; omega) r2 w e2
  exact ⟨r, u, e1, r2, w, e2, hI.fr hw (fun c i h => (f2 c i h).trans (f1 c i h))⟩
theorem z_ways {σ : St} (hI : INV2 σ) (a b : Int32) : Ok (FX11_ways a b σ) (fun r u => Ok (FX12_ways a b u) (fun r2 w => INV2 w)) := by
  obtain ⟨r, u, e1, r2, w, e2, hw⟩ := s_ways hI.1 a b
  have f1 := fo_FX11_ways (P := P0) a b (fun c i h => by unfold P0 at h; omega) r u e1
  have f2 := fo_FX12_ways (P := P0) a b (fun c i h => by unfold P0 at h; omega) r2 w e2
  exact ⟨r, u, e1, r2, w, e2, hI.fr hw (fun c i h => (f2 c i h).trans (f1 c i h))⟩
theorem z_within {σ : St} (hI : INV2 σ) (a b c : Int32) : Ok (FX11_within a b c σ) (fun r u => Ok (FX12_within a b c u) (fun r2 w => INV2 w)) := by
  obtain ⟨r, u, e1, r2, w, e2, hw⟩ := s_within hI.1 a b c
  have f1 := fo_FX11_within (P := P0) a b c (fun c i h => by unfold P0 at h; omega) r u e1
  have f2 := fo_FX12_within (P := P0) a b c (fun c i h => by unfold P0 at h; omega) r2 w e2
  exact ⟨r, u, e1, r2, w, e2, hI.fr hw (fun c i h => (f2 c i h).trans (f1 c i h))⟩
theorem z_firsts {σ : St} (hI : INV2 σ) (a b : Int32) : Ok (FX11_firsts a b σ) (fun r u => Ok (FX12_firsts a b u) (fun r2 w => INV2 w)) := by
  obtain ⟨r, u, e1, r2, w, e2, hw⟩ := s_firsts hI.1 a b
  have f1 := fo_FX11_firsts (P := P0) a b (fun c i h => by unfold P0 at h; omega) r u e1
  have f2 := fo_FX12_firsts (P := P0) a b (fun c i h => by unfold P0 at h; omega) r2 w e2
  exact ⟨r, u, e1, r2, w, e2, hI.fr hw (fun c i h => (f2 c i h).trans (f1 c i h))⟩
theorem z_bound {σ : St} (hI : INV2 σ) (a b c : Int32) : Ok (FX11_bound a b c σ) (fun r u => Ok (FX12_bound a b c u) (fun r2 w => INV2 w)) := by
  obtain ⟨r, u, e1, r2, w, e2, hw⟩ := s_bound hI.1 a b c
  have f1 := fo_FX11_bound (P := P0) a b c r u e1
  have f2 := fo_FX12_bound (P := P0) a b c r2 w e2
  exact ⟨r, u, e1, r2, w, e2, hI.fr hw (fun c i h => (f2 c i h).trans (f1 c i h))⟩
theorem z_minor {σ : St} (hI : INV2 σ) (a : Int32) : Ok (FX11_minor a σ) (fun r u => Ok (FX12_minor a u) (fun r2 w => INV2 w)) := by
  obtain ⟨r, u, e1, r2, w, e2, hw⟩ := s_minor hI.1 a
  have f1 := fo_FX11_minor (P := P0) a (fun c i h => by unfold P0 at h; omega) r u e1
  have f2 := fo_FX12_minor (P := P0) a (fun c i h => by unfold P0 at h; omega) r2 w e2
  exact ⟨r, u, e1, r2, w, e2, hI.fr hw (fun c i h => (f2 c i h).trans (f1 c i h))⟩
theorem z_among {σ : St} (hI : INV2 σ) (a b c : Int32) : Ok (FX11_among a b c σ) (fun r u => Ok (FX12_among a b c u) (fun r2 w => INV2 w)) := by
  obtain ⟨r, u, e1, r2, w, e2, hw⟩ := s_among hI.1 a b c
  have f1 := fo_FX11_among (P := P0) a b c (fun c i h => by unfold P0 at h; omega) r u e1
  have f2 := fo_FX12_among (P := P0) a b c (fun c i h => by unfold P0 at h; omega) r2 w e2
  exact ⟨r, u, e1, r2, w, e2, hI.fr hw (fun c i h => (f2 c i h).trans (f1 c i h))⟩
theorem z_split {σ : St} (hI : INV2 σ) (a b c : Int32) : Ok (FX11_split a b c σ) (fun r u => Ok (FX12_split a b c u) (fun r2 w => INV2 w)) := by
  obtain ⟨r, u, e1, r2, w, e2, hw⟩ := s_split hI.1 a b c
  have f1 := fo_FX11_split (P := P0) a b c r u e1
  have f2 := fo_FX12_split (P := P0) a b c r2 w e2
  exact ⟨r, u, e1, r2, w, e2, hI.fr hw (fun c i h => (f2 c i h).trans (f1 c i h))⟩
theorem z_halve {σ : St} (hI : INV2 σ) (a : Int32) : Ok (FX11_halve a σ) (fun r u => Ok (FX12_halve a u) (fun r2 w => INV2 w)) := by
  obtain ⟨r, u, e1, r2, w, e2, hw⟩ := s_halve hI.1 a
  have f1 := fo_FX11_halve (P := P0) a r u e1
  have f2 := fo_FX12_halve (P := P0) a r2 w e2
  exact ⟨r, u, e1, r2, w, e2, hI.fr hw (fun c i h => (f2 c i h).trans (f1 c i h))⟩
theorem z_bag {σ : St} (hI : INV2 σ) (a b c : Int32) : Ok (FX11_bag a b c σ) (fun r u => Ok (FX12_bag a b c u) (fun r2 w => INV2 w)) := by
  obtain ⟨r, u, e1, r2, w, e2, hw⟩ := s_bag hI.1 a b c
  have f1 := fo_FX11_bag (P := P0) a b c r u e1
  have f2 := fo_FX12_bag (P := P0) a b c r2 w e2
  exact ⟨r, u, e1, r2, w, e2, hI.fr hw (fun c i h => (f2 c i h).trans (f1 c i h))⟩
theorem z_filled {σ : St} (hI : INV2 σ) (a b : Int32) : Ok (FX11_filled a b σ) (fun r u => Ok (FX12_filled a b u) (fun r2 w => INV2 w)) := by
  obtain ⟨r, u, e1, r2, w, e2, hw⟩ := s_filled hI.1 a b
  have f1 := fo_FX11_filled (P := P0) a b r u e1
  have f2 := fo_FX12_filled (P := P0) a b r2 w e2
  exact ⟨r, u, e1, r2, w, e2, hI.fr hw (fun c i h => (f2 c i h).trans (f1 c i h))⟩
theorem z_gain {σ : St} (hI : INV2 σ) (a b c d : Int32) : Ok (FX11_gain a b c d σ) (fun r u => Ok (FX12_gain a b c d u) (fun r2 w => INV2 w)) := by
  obtain ⟨r, u, e1, r2, w, e2, hw⟩ := s_gain hI.1 a b c d
  have f1 := fo_FX11_gain (P := P0) a b c d (fun c i h => by unfold P0 at h; omega) r u e1
  have f2 := fo_FX12_gain (P := P0) a b c d (fun c i h => by unfold P0 at h; omega) r2 w e2
  exact ⟨r, u, e1, r2, w, e2, hI.fr hw (fun c i h => (f2 c i h).trans (f1 c i h))⟩
theorem z_swaps {σ : St} (hI : INV2 σ) (a b c : Int32) : Ok (FX11_swaps a b c σ) (fun r u => Ok (FX12_swaps a b c u) (fun r2 w => INV2 w)) := by
  obtain ⟨r, u, e1, r2, w, e2, hw⟩ := s_swaps hI.1 a b c
  have f1 := fo_FX11_swaps (P := P0) a b c (fun c i h => by unfold P0 at h; omega) r u e1
  have f2 := fo_FX12_swaps (P := P0) a b c (fun c i h => by unfold P0 at h; omega) r2 w e2
  exact ⟨r, u, e1, r2, w, e2, hI.fr hw (fun c i h => (f2 c i h).trans (f1 c i h))⟩
theorem z_moves {σ : St} (hI : INV2 σ) (a b c : Int32) : Ok (FX11_moves a b c σ) (fun r u => Ok (FX12_moves a b c u) (fun r2 w => INV2 w)) := by
  obtain ⟨r, u, e1, r2, w, e2, hw⟩ := s_moves hI.1 a b c
  have f1 := fo_FX11_moves (P := P0) a b c (fun c i h => by unfold P0 at h; omega) r u e1
  have f2 := fo_FX12_moves (P := P0) a b c (fun c i h => by unfold P0 at h; omega) r2 w e2
  exact ⟨r, u, e1, r2, w, e2, hI.fr hw (fun c i h => (f2 c i h).trans (f1 c i h))⟩
theorem z_reverse {σ : St} (hI : INV2 σ) (a : Int32) : Ok (FX11_reverse a σ) (fun r u => Ok (FX12_reverse a u) (fun r2 w => INV2 w)) := by
  obtain ⟨r, u, e1, r2, w, e2, hw⟩ := s_reverse hI.1 a
  have f1 := fo_FX11_reverse (P := P0) a (fun c i h => by unfold P0 at h; omega) r u e1
  have f2 := fo_FX12_reverse (P := P0) a (fun c i h => by unfold P0 at h; omega) r2 w e2
  exact ⟨r, u, e1, r2, w, e2, hI.fr hw (fun c i h => (f2 c i h).trans (f1 c i h))⟩
theorem z_takes {σ : St} (hI : INV2 σ) (a b : Int32) : Ok (FX11_takes a b σ) (fun r u => Ok (FX12_takes a b u) (fun r2 w => INV2 w)) := by
  obtain ⟨r, u, e1, r2, w, e2, hw⟩ := s_takes hI.1 a b
  have f1 := fo_FX11_takes (P := P0) a b (fun c i h => by unfold P0 at h; omega) r u e1
  have f2 := fo_FX12_takes (P := P0) a b (fun c i h => by unfold P0 at h; omega) r2 w e2
  exact ⟨r, u, e1, r2, w, e2, hI.fr hw (fun c i h => (f2 c i h).trans (f1 c i h))⟩
theorem z_polish {σ : St} (hI : INV2 σ) (a b : Int32) : Ok (FX11_polish a b σ) (fun r u => Ok (FX12_polish a b u) (fun r2 w => INV2 w)) := by
  obtain ⟨r, u, e1, r2, w, e2, hw⟩ := s_polish hI.1 a b
  have f1 := fo_FX11_polish (P := P0) a b (fun c i h => by unfold P0 at h; omega) r u e1
  have f2 := fo_FX12_polish (P := P0) a b (fun c i h => by unfold P0 at h; omega) r2 w e2
  exact ⟨r, u, e1, r2, w, e2, hI.fr hw (fun c i h => (f2 c i h).trans (f1 c i h))⟩
theorem z_polished {σ : St} (hI : INV2 σ) (a b : Int32) : Ok (FX11_polished a b σ) (fun r u => Ok (FX12_polished a b u) (fun r2 w => INV2 w)) := by
  obtain ⟨r, u, e1, r2, w, e2, hw⟩ := s_polished hI.1 a b
  have f1 := fo_FX11_polished (P := P0) a b (fun c i h => by unfold P0 at h; omega) r u e1
  have f2 := fo_FX12_polished (P := P0) a b (fun c i h => by unfold P0 at h; omega) r2 w e2
  exact ⟨r, u, e1, r2, w, e2, hI.fr hw (fun c i h => (f2 c i h).trans (f1 c i h))⟩
theorem z_greedy {σ : St} (hI : INV2 σ) (a b : Int32) : Ok (FX11_greedy a b σ) (fun r u => Ok (FX12_greedy a b u) (fun r2 w => INV2 w)) := by
  obtain ⟨r, u, e1, r2, w, e2, hw⟩ := s_greedy hI.1 a b
  have f1 := fo_FX11_greedy (P := P0) a b (fun c i h => by unfold P0 at h; omega) r u e1
  have f2 := fo_FX12_greedy (P := P0) a b (fun c i h => by unfold P0 at h; omega) r2 w e2
  exact ⟨r, u, e1, r2, w, e2, hI.fr hw (fun c i h => (f2 c i h).trans (f1 c i h))⟩
theorem z_layers {σ : St} (hI : INV2 σ) (a b : Int32) : Ok (FX11_layers a b σ) (fun r u => Ok (FX12_layers a b u) (fun r2 w => INV2 w)) := by
  obtain ⟨r, u, e1, r2, w, e2, hw⟩ := s_layers hI.1 a b
  have f1 := fo_FX11_layers (P := P0) a b (fun c i h => by unfold P0 at h; omega) r u e1
  have f2 := fo_FX12_layers (P := P0) a b (fun c i h => by unfold P0 at h; omega) r2 w e2
  exact ⟨r, u, e1, r2, w, e2, hI.fr hw (fun c i h => (f2 c i h).trans (f1 c i h))⟩
theorem z_adds {σ : St} (hI : INV2 σ) (a b c d : Int32) : Ok (FX11_adds a b c d σ) (fun r u => Ok (FX12_adds a b c d u) (fun r2 w => INV2 w)) := by
  obtain ⟨r, u, e1, r2, w, e2, hw⟩ := s_adds hI.1 a b c d
  have f1 := fo_FX11_adds (P := P0) a b c d (fun c i h => by unfold P0 at h; omega) r u e1
  have f2 := fo_FX12_adds (P := P0) a b c d (fun c i h => by unfold P0 at h; omega) r2 w e2
  exact ⟨r, u, e1, r2, w, e2, hI.fr hw (fun c i h => (f2 c i h).trans (f1 c i h))⟩
theorem z_cuts {σ : St} (hI : INV2 σ) (a b c : Int32) : Ok (FX11_cuts a b c σ) (fun r u => Ok (FX12_cuts a b c u) (fun r2 w => INV2 w)) := by
  obtain ⟨r, u, e1, r2, w, e2, hw⟩ := s_cuts hI.1 a b c
  have f1 := fo_FX11_cuts (P := P0) a b c (fun c i h => by unfold P0 at h; omega) r u e1
  have f2 := fo_FX12_cuts (P := P0) a b c (fun c i h => by unfold P0 at h; omega) r2 w e2
  exact ⟨r, u, e1, r2, w, e2, hI.fr hw (fun c i h => (f2 c i h).trans (f1 c i h))⟩
theorem z_merges {σ : St} (hI : INV2 σ) (a b c : Int32) : Ok (FX11_merges a b c σ) (fun r u => Ok (FX12_merges a b c u) (fun r2 w => INV2 w)) := by
  obtain ⟨r, u, e1, r2, w, e2, hw⟩ := s_merges hI.1 a b c
  have f1 := fo_FX11_merges (P := P0) a b c (fun c i h => by unfold P0 at h; omega) r u e1
  have f2 := fo_FX12_merges (P := P0) a b c (fun c i h => by unfold P0 at h; omega) r2 w e2
  exact ⟨r, u, e1, r2, w, e2, hI.fr hw (fun c i h => (f2 c i h).trans (f1 c i h))⟩
theorem z_drops {σ : St} (hI : INV2 σ) (a : Int32) : Ok (FX11_drops a σ) (fun r u => Ok (FX12_drops a u) (fun r2 w => INV2 w)) := by
  obtain ⟨r, u, e1, r2, w, e2, hw⟩ := s_drops hI.1 a
  have f1 := fo_FX11_drops (P := P0) a (fun c i h => by unfold P0 at h; omega) r u e1
  have f2 := fo_FX12_drops (P := P0) a (fun c i h => by unfold P0 at h; omega) r2 w e2
  exact ⟨r, u, e1, r2, w, e2, hI.fr hw (fun c i h => (f2 c i h).trans (f1 c i h))⟩
theorem z_undo {σ : St} (hI : INV2 σ) : Ok (FX11_undo σ) (fun r u => Ok (FX12_undo u) (fun r2 w => INV2 w)) := by
  obtain ⟨r, u, e1, r2, w, e2, hw⟩ := s_undo hI.1
  have f1 := fo_FX11_undo (P := P0) (fun c i h => by unfold P0 at h; omega) r u e1
  have f2 := fo_FX12_undo (P := P0) (fun c i h => by unfold P0 at h; omega) r2 w e2
  exact ⟨r, u, e1, r2, w, e2, hI.fr hw (fun c i h => (f2 c i h).trans (f1 c i h))⟩
theorem z_tell {σ : St} (hI : INV2 σ) (a b : Int32) : Ok (FX11_tell a b σ) (fun r u => Ok (FX12_tell a b u) (fun r2 w => INV2 w)) := by
  obtain ⟨r, u, e1, r2, w, e2, hw⟩ := s_tell hI.1 a b
  have f1 := fo_FX11_tell (P := P0) a b (fun c i h => by unfold P0 at h; omega) r u e1
  have f2 := fo_FX12_tell (P := P0) a b (fun c i h => by unfold P0 at h; omega) r2 w e2
  exact ⟨r, u, e1, r2, w, e2, hI.fr hw (fun c i h => (f2 c i h).trans (f1 c i h))⟩
theorem z_octet {σ : St} (hI : INV2 σ) (a : Int32) : Ok (FX11_octet a σ) (fun r u => Ok (FX12_octet a u) (fun r2 w => INV2 w)) := by
  obtain ⟨r, u, e1, r2, w, e2, hw⟩ := s_octet hI.1 a
  have f1 := fo_FX11_octet (P := P0) a r u e1
  have f2 := fo_FX12_octet (P := P0) a r2 w e2
  exact ⟨r, u, e1, r2, w, e2, hI.fr hw (fun c i h => (f2 c i h).trans (f1 c i h))⟩
