/-! the reference reads a row, a net -/
theorem dm_lt10 {bt : Nat → Nat} {b : Nat} : ∀ {m : Nat}, (∀ i, i < m → bt (b + i) ≤ 57) → dm bt b m < 2 ^ 10
  | 0, _ => Nat.two_pow_pos 10
  | m + 1, h => by
    have h1 := dm_lt10 (bt := bt) (b := b) (m := m) (fun i hi => h i (by omega))
    have h2 := h m (by omega)
    have h3 : 2 ^ (bt (b + m) - 48) < 2 ^ 10 := Nat.pow_lt_pow_right (by decide) (by omega)
    exact Nat.or_lt_two_pow h1 h3
theorem shl_1c {k : Nat} (hk : k < 31) : shl 1 (nI k) = nI (2 ^ k) := by
  have h2 : 2 ^ k < 2 ^ 31 := Nat.pow_lt_pow_right (by decide) hk
  have := shl_n (a := 1) (k := k) (by omega) (by omega)
  rw [Nat.one_mul] at this
  exact this
/-- where the row goes on -/
def prw (k : Nat) (bt : Nat → Nat) (N q : Nat) : (Nat × Nat) ⊕ Nat := if tkc k bt q = 2 then (if digs k bt N q = true then (if sgn k bt 59 (tke k bt q) = true then .inr (tke k bt (tke k bt q)) else .inl (1, tkb k bt (tke k bt q))) else .inl (5, tkb k bt q)) else .inl (1, tkb k bt q)
theorem m_readsRow {k : Nat} {bt : Nat → Nat} {t : St} {p s N : Nat} {w : Nat → Nat → Nat} (h : RM k bt p t) (hb : t 149 12 = 0) (hN : RN s N w t) (hs : s < 3) (h1 : 1 ≤ N) (h9 : N < 10) : Ok (FX12_readsRow (nI s) t) (fun _ u => FM t u ∧ (∀ j, (j < 91 * s + 82 ∨ 91 * s + 82 + N ≤ j) → u 150 j = t 150 j) ∧ Sum.elim (fun f => BD f u) (fun v => RM k bt v u ∧ u 149 12 = 0 ∧ ∀ i, i < N → u 150 (91 * s + 82 + i) = nI (bt (tkb k bt (tke k bt p) + i) - 48)) (prw k bt N (tke k bt p))) := by
  unfold FX12_readsRow
  refine Ok.bd _ (m_nx h) ?_
  rintro _ t1 ⟨R1, K1⟩
  generalize eq : tke k bt p = q at R1 ⊢
  have hle := R1.le
  have hc4 := tkc_lt (k := k) (bt := bt) (p := q)
  have b1 : t1 149 12 = 0 := by rw [K1.2 12 (by omega)]; exact hb
  have hN1 : RN s N w t1 := hN.fr (K1.1 150 (by decide))
  refine Ok.rdE R1.2.2.2.2.1 (Ok.rdE R1.2.2.1 (Ok.bd (fun r u => t1 = u ∧ r = nI N) (m_points hN1 hs ⟨rfl, rfl⟩) ?_))
  rintro _ _ ⟨rfl, rfl⟩
  rw [nI_sub hle.2.2.1]
  refine Ok.bd (fun r u => t1 = u ∧ ((r = 1 ∧ tke k bt q - tkb k bt q = N) ∨ (r = 0 ∧ ¬ tke k bt q - tkb k bt q = N))) (Ok.cv (nI_eqP (by omega) (by omega)) (Ok.ite (fun c => Ok.ret ⟨rfl, Or.inl ⟨rfl, c⟩⟩) (fun c => Ok.ret ⟨rfl, Or.inr ⟨rfl, c⟩⟩))) ?_
  rintro v12 _ ⟨rfl, hv12⟩
  refine Ok.rdE R1.2.2.1 ?_
  refine Ok.bd (fun r u => t1 = u ∧ (tkc k bt q = 2 → ((r = 1 ∧ digs k bt N q = true) ∨ (r = 0 ∧ digs k bt N q = false)))) ?_ ?_
  · by_cases c2 : tkc k bt q = 2
    · obtain ⟨hbk, hd⟩ := tk2 R1.1.1 R1.2.1 c2
      refine Ok.count (tke k bt q - tkb k bt q) (fun j c s' => c.1 = nI (dm bt (tkb k bt q) j) ∧ c.2.2 = nI (tkb k bt q + j) ∧ t1 = s' ∧ ((c.2.1 = 1 ∧ tke k bt q - tkb k bt q = N ∧ dnew bt (tkb k bt q) N j) ∨ (c.2.1 = 0 ∧ ¬ (tke k bt q - tkb k bt q = N ∧ dnew bt (tkb k bt q) N j)))) ?_ ?_ (Nat.zero_le _) ⟨rfl, rfl, rfl, ?_⟩
      · rintro j ⟨c1, c3, c4⟩ s' hj ⟨e1, e2, rfl, hg⟩
        dsimp only at e1 e2 hg
        subst e1
        subst e2
        unfold SX12_readsRow_35
        dsimp only
        have hd2 := hd (tkb k bt q + j) (by omega) (by omega)
        have hb3 := R1.1.2.2 (tkb k bt q + j) (by omega)
        have hdm := dm_lt10 (bt := bt) (b := tkb k bt q) (m := j) (fun i hi => (hd (tkb k bt q + i) (by omega) (by omega)).2)
        refine Ok.rdE R1.2.2.2.2.1 (Ok.ifF (by rw [nI_leP (by omega) (by omega)]; omega) (Ok.rdE R1.2.2.2.1 (Ok.ifT (by rw [c2]; rfl) (Ok.ckT (inb_n (by omega) (by omega)) ?_))))
        rw [nI_cl (by omega)]
        refine Ok.rdE hb3.2 ?_
        rw [li_48, nI_sub (by omega), shl_1c (by omega)]
        refine Ok.bd (fun r u => t1 = u ∧ ((r = 1 ∧ tke k bt q - tkb k bt q = N ∧ dnew bt (tkb k bt q) N (j + 1)) ∨ (r = 0 ∧ ¬ (tke k bt q - tkb k bt q = N ∧ dnew bt (tkb k bt q) N (j + 1))))) ?_ ?_
        · rcases hg with ⟨rfl, g1, g2⟩ | ⟨rfl, g⟩
          · refine Ok.ifF (by decide) (Ok.bd (fun r u => t1 = u ∧ r = nI N) (m_points hN1 hs ⟨rfl, rfl⟩) ?_)
            rintro _ _ ⟨rfl, rfl⟩
            refine Ok.cv (nI_leP (by omega) (by omega)) ?_
            refine Ok.ite (fun c => Ok.ret ⟨rfl, Or.inr ⟨rfl, fun a => ?_⟩⟩) (fun c => ?_)
            · have := a.2.2.1
              omega
            · refine Ok.bd _ (xX12_has (by omega) (by omega)) ?_
              rintro _ _ ⟨rfl, rfl⟩
              cases e : (dm bt (tkb k bt q) j).testBit (bt (tkb k bt q + j) - 48)
              · exact Ok.ifT rfl (Ok.ret ⟨rfl, Or.inl ⟨rfl, g1, g2, by omega, e⟩⟩)
              · refine Ok.ifF (by decide) (Ok.ret ⟨rfl, Or.inr ⟨rfl, fun a => ?_⟩⟩)
                have := a.2.2.2
                rw [e] at this
                cases this
          · exact Ok.ifT rfl (Ok.ret ⟨rfl, Or.inr ⟨rfl, fun a => g ⟨a.1, a.2.1⟩⟩⟩)
        · rintro r _ ⟨rfl, hr⟩
          refine Ok.ret ⟨?_, ?_, rfl, hr⟩
          · show _ = nI (dm bt (tkb k bt q) j ||| 2 ^ (bt (tkb k bt q + j) - 48))
            rw [← nI_or]
          · show nI _ + 1 = _
            rw [nI_1]
            rfl
      · rintro ⟨c1, c3, c4⟩ s' ⟨e1, e2, rfl, hg⟩
        dsimp only at e1 e2 hg
        subst e1
        subst e2
        unfold SX12_readsRow_35
        dsimp only
        refine Ok.rdE R1.2.2.2.2.1 (Ok.ifT (by rw [nI_leP (by omega) (by omega)]; omega) (Ok.ret ⟨rfl, fun _ => ?_⟩))
        rcases hg with ⟨rfl, g1, g2⟩ | ⟨rfl, g⟩
        · rw [g1] at g2
          exact Or.inl ⟨rfl, (digs_iff h9).mpr ⟨by omega, g2⟩⟩
        · refine Or.inr ⟨rfl, ?_⟩
          cases e : digs k bt N q
          · rfl
          · obtain ⟨a1, a2⟩ := (digs_iff h9).mp e
            exact absurd ⟨by omega, by rw [show tke k bt q - tkb k bt q = N by omega]; exact a2⟩ g
      · rcases hv12 with ⟨rfl, e⟩ | ⟨rfl, e⟩
        · exact Or.inl ⟨rfl, e, trivial⟩
        · exact Or.inr ⟨rfl, fun a => e a.1⟩
    · refine Ok.count 0 (fun j c s' => t1 = s') (fun j _ _ h => by omega) ?_ (Nat.zero_le _) rfl
      rintro c s' rfl
      unfold SX12_readsRow_35
      refine Ok.rd (fun v _ => Ok.ite (fun _ => Ok.ret ⟨rfl, fun a => absurd a c2⟩) (fun _ => Ok.rdE R1.2.2.2.1 (Ok.ifF (by rw [li_2, nI_eqP (by omega) (by omega)]; exact c2) (Ok.ret ⟨rfl, fun a => absurd a c2⟩))))
  rintro e40 _ ⟨rfl, he⟩
  have bad : ∀ (f : Nat × Nat) (t2 : St), BD f t2 → FM t1 t2 → t2 150 = t1 150 → prw k bt N q = .inl f → Ok (bnd (wh (SX12_readsRow_134 (nI s)) (0 : Int32) t2) (fun e66 t67 => (bnd (FX12_passes t67) (fun v70 t71 => (bnd (FX12_isSign (59 : Int32) t71) (fun v73 t74 => (bnd (FX12_must v73 t74) (fun v76 t77 => (some ((), t77)))))))))) (fun _ u => FM t u ∧ (∀ j, (j < 91 * s + 82 ∨ 91 * s + 82 + N ≤ j) → u 150 j = t 150 j) ∧ Sum.elim (fun f => BD f u) (fun v => RM k bt v u ∧ u 149 12 = 0 ∧ ∀ i, i < N → u 150 (91 * s + 82 + i) = nI (bt (tkb k bt q + i) - 48)) (prw k bt N q)) := by
    intro f t2 B F e0 ep
    refine Ok.bd (fun _ u => t2 = u) ?_ ?_
    · refine Ok.count 0 (fun j c s' => c = nI 0 ∧ t2 = s') (fun j _ _ h => by omega) ?_ (Nat.zero_le _) ⟨rfl, rfl⟩
      rintro c s' ⟨rfl, rfl⟩
      unfold SX12_readsRow_134
      refine Ok.bd (fun r u => t2 = u ∧ r = nI N) (m_points (hN1.fr e0) hs ⟨rfl, rfl⟩) ?_
      rintro _ _ ⟨rfl, rfl⟩
      exact Ok.ifF (by rw [nI_leP (by omega) (by omega)]; omega) (Ok.rdE B.1 (Ok.ifF (by decide) (Ok.ret rfl)))
    rintro _ _ rfl
    refine Ok.bd (fun _ u => t2 = u) (b_passes B.1 rfl) ?_
    rintro _ _ rfl
    refine Ok.bd (fun _ u => t2 = u) (b_sign B.1 rfl) ?_
    rintro _ _ rfl
    refine Ok.bd (fun _ u => t2 = u) (b_must B.1 rfl) ?_
    rintro _ _ rfl
    refine Ok.ret ⟨K1.fm.tr F, fun j _ => by rw [e0, K1.1 150 (by decide)], ?_⟩
    rw [ep]
    exact B
  refine Ok.rdE R1.2.2.2.1 ?_
  by_cases c2 : tkc k bt q = 2
  · rcases he c2 with ⟨rfl, hd⟩ | ⟨rfl, hd⟩
    · refine Ok.bd (fun _ u => t1 = u) (Ok.ifT (by rw [c2]; rfl) (Ok.ifF (by decide) (Ok.ret rfl))) ?_
      rintro _ _ rfl
      obtain ⟨hbk, hdd⟩ := tk2 R1.1.1 R1.2.1 c2
      have hlen := ((digs_iff h9).mp hd).1
      refine Ok.bd (fun _ u => (∀ c, c ≠ 150 → u c = t1 c) ∧ (∀ i, i < N → u 150 (91 * s + 82 + i) = nI (bt (tkb k bt q + i) - 48)) ∧ ∀ j, (j < 91 * s + 82 ∨ 91 * s + 82 + N ≤ j) → u 150 j = t1 150 j) ?_ ?_
      · refine Ok.count N (fun j c u => c = nI j ∧ (∀ c, c ≠ 150 → u c = t1 c) ∧ (∀ i, i < j → u 150 (91 * s + 82 + i) = nI (bt (tkb k bt q + i) - 48)) ∧ ∀ i, (i < 91 * s + 82 ∨ 91 * s + 82 + j ≤ i) → u 150 i = t1 150 i) ?_ ?_ (Nat.zero_le _) ⟨rfl, fun _ _ => rfl, fun i hi => by omega, fun _ _ => rfl⟩
        · rintro j c u hj ⟨rfl, g1, g2, g3⟩
          unfold SX12_readsRow_134
          have e9 := g1 149 (by decide)
          have hNu : t1 150 (91 * s) = u 150 (91 * s) := (g3 _ (by omega)).symm
          refine Ok.bd (fun r v => u = v ∧ r = nI N) ?_ ?_
          · unfold FX12_points
            rw [li_91, nI_mul]
            refine Ok.ckT (inb_n (by omega) (by omega)) (Ok.rdE (x := nI N) ?_ (Ok.ret ⟨rfl, rfl⟩))
            rw [nI_cl (by omega), ← hNu]
            exact hN1.1
          rintro _ _ ⟨rfl, rfl⟩
          refine Ok.ifF (by rw [nI_leP (by omega) (by omega)]; omega) (Ok.rdE (x := 0) (by rw [e9]; exact b1) (Ok.ifT rfl (Ok.rdE (x := nI (tkb k bt q)) (by rw [e9]; exact R1.2.2.1) ?_)))
          rw [nI_add]
          refine Ok.ckT (inb_n (by omega) (by omega)) ?_
          have hd2 := hdd (tkb k bt q + j) (by omega) (by omega)
          have hb3 := R1.1.2.2 (tkb k bt q + j) (by omega)
          rw [nI_cl (by omega)]
          refine Ok.rdE (x := nI (bt (tkb k bt q + j))) (by rw [g1 153 (by decide)]; exact hb3.2) ?_
          rw [li_48, nI_sub (by omega)]
          refine Ok.bd (fun _ v => wr u 150 (91 * s + 82 + j) (nI (bt (tkb k bt q + j) - 48)) = v) (m_puts hs (by omega) rfl) ?_
          rintro _ _ rfl
          refine Ok.ret ⟨nI_1 j, fun c hc => by rw [wr_off c hc]; exact g1 c hc, fun i hi => ?_, fun i hi => by rw [wrn (by omega)]; exact g3 i (by omega)⟩
          by_cases e : i = j
          · subst e; rw [wrs]
          · rw [wrn (by omega)]; exact g2 i (by omega)
        · rintro c u ⟨rfl, g1, g2, g3⟩
          unfold SX12_readsRow_134
          have hNu : t1 150 (91 * s) = u 150 (91 * s) := (g3 _ (by omega)).symm
          refine Ok.bd (fun r v => u = v ∧ r = nI N) ?_ ?_
          · unfold FX12_points
            rw [li_91, nI_mul]
            refine Ok.ckT (inb_n (by omega) (by omega)) (Ok.rdE (x := nI N) ?_ (Ok.ret ⟨rfl, rfl⟩))
            rw [nI_cl (by omega), ← hNu]
            exact hN1.1
          rintro _ _ ⟨rfl, rfl⟩
          exact Ok.ifT (by rw [nI_leP (by omega) (by omega)]; omega) (Ok.ret ⟨g1, g2, g3⟩)
      rintro _ t2 ⟨g1, g2, g3⟩
      have R2 : RM k bt q t2 := R1.md (g1 149 (by decide)) (g1 153 (by decide))
      have b2 : t2 149 12 = 0 := by rw [g1 149 (by decide)]; exact b1
      refine Ok.bd _ (m_passes R2 b2) ?_
      rintro _ t3 ⟨R3, K3⟩
      have b3 : t3 149 12 = 0 := by rw [K3.2 12 (by omega)]; exact b2
      have F3 : FM t t3 := (K1.fm.tr ⟨fun c _ h2 => g1 c h2, fun i _ => by rw [g1 149 (by decide)]⟩).tr K3.fm
      have o3 : ∀ j, (j < 91 * s + 82 ∨ 91 * s + 82 + N ≤ j) → t3 150 j = t 150 j := fun j hj => by rw [K3.1 150 (by decide), g3 j hj, K1.1 150 (by decide)]
      refine Ok.bd (fun r u => t3 = u ∧ ((r = 1 ∧ sgn k bt 59 (tke k bt q) = true) ∨ (r = 0 ∧ sgn k bt 59 (tke k bt q) = false))) (m_sign (c := 59) R3 b3 (by omega) (fun a => ⟨rfl, Or.inl ⟨rfl, a⟩⟩) (fun a => ⟨rfl, Or.inr ⟨rfl, a⟩⟩)) ?_
      rintro r _ ⟨rfl, ⟨rfl, s59⟩ | ⟨rfl, s59⟩⟩
      · have ep : prw k bt N q = .inr (tke k bt (tke k bt q)) := by unfold prw; rw [if_pos c2, if_pos hd, if_pos s59]
        refine Ok.bd _ (m_must1 R3 b3) ?_
        rintro _ t4 ⟨R4, K4⟩
        refine Ok.ret ⟨F3.tr K4.fm, fun j hj => by rw [K4.1 150 (by decide)]; exact o3 j hj, ?_⟩
        rw [ep]
        refine ⟨R4, by rw [K4.2 12 (by omega)]; exact b3, fun i hi => ?_⟩
        rw [K4.1 150 (by decide), K3.1 150 (by decide)]
        exact g2 i hi
      · have ep : prw k bt N q = .inl (1, tkb k bt (tke k bt q)) := by unfold prw; rw [if_pos c2, if_pos hd, if_neg (by rw [s59]; decide)]
        refine Ok.bd _ (m_must0X R3 b3) ?_
        rintro _ t4 ⟨B, F, e0⟩
        refine Ok.ret ⟨F3.tr F, fun j hj => by rw [e0]; exact o3 j hj, ?_⟩
        rw [ep]
        exact B
    · have ep : prw k bt N q = .inl (5, tkb k bt q) := by unfold prw; rw [if_pos c2, if_neg (by rw [hd]; decide)]
      refine Ok.bd (fun _ u => BD (5, tkb k bt q) u ∧ FM t1 u ∧ u 150 = t1 150) (Ok.ifT (by rw [c2]; rfl) (Ok.ifT rfl (Ok.bd _ (m_faultsX (f := 5) R1 b1) (fun _ u hu => Ok.ret hu)))) ?_
      rintro _ t2 ⟨B, F, e0⟩
      exact bad _ t2 B F e0 ep
  · have ep : prw k bt N q = .inl (1, tkb k bt q) := by unfold prw; rw [if_neg c2]
    refine Ok.bd (fun _ u => BD (1, tkb k bt q) u ∧ FM t1 u ∧ u 150 = t1 150) (Ok.ifF (by rw [li_2, nI_eqP (by omega) (by omega)]; exact c2) (Ok.bd _ (m_faultsX (f := 1) R1 b1) (fun _ u hu => Ok.ret hu))) ?_
    rintro _ t2 ⟨B, F, e0⟩
    exact bad _ t2 B F e0 ep
