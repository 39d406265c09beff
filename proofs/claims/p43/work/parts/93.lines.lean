/-! lines that come, go; a net that goes; a net that is told -/
theorem m_fin {K K' : Nat → Nat → V4} {m m' s : Nat} {v : V4} {t t1 t2 : St} {a : Int32} (hG : GK K m) (hs : s < 3) (hv : GV v) (hN : NXT K m s v K' m') (hM : MST K m t) (r1 : ∀ c, c ≠ 151 → t1 c = t c) (r2 : ∀ k, k < 273 → t1 151 k = t 150 k) (f2 : ∀ c, c ≠ 150 → t2 c = t1 c) (h150 : RA 150 0 (upA (K m) s v) t2) : Ok (FX12_done a t2) (fun r u => r = a ∧ MST K' m' u ∧ ∀ c, c ≠ 149 → c ≠ 152 → u c = t2 c) := by
  refine (m_done (a := a) hG hs hv hN (by rw [f2 149 (by decide), r1 149 (by decide)]; exact hM.1) (fun k hk' => ?_) h150 (fun j hj => (hM.2.2 j hj).fr (fun k _ => by rw [f2 152 (by decide), r1 152 (by decide)]))).mono (fun r u h => ⟨h.1, h.2.1, h.2.2.1⟩)
  rw [f2 151 (by decide), Nat.zero_add, r2 k hk']
  have := hM.2.1 k hk'
  rw [Nat.zero_add] at this
  exact this
theorem m_fik {K K' : Nat → Nat → V4} {m m' s : Nat} {v : V4} {t t1 t2 : St} {a : Int32} (hG : GK K m) (hN : NXT K m s v K' m') (hne : v ≠ K m s) (hM : MST K m t) (r1 : ∀ c, c ≠ 151 → t1 c = t c) (r2 : ∀ k, k < 273 → t1 151 k = t 150 k) (f2 : ∀ c, c ≠ 150 → t2 c = t1 c) (h150 : RA 150 0 (upA (K m) s v) t2) : Ok (FX12_keeps a t2) (fun r u => r = a ∧ MST K' m' u ∧ ∀ c, c ≠ 149 → c ≠ 152 → u c = t2 c) := by
  refine (m_keeps (K := K) (m := m) (A := upA (K m) s v) (a := a) hG.1 (by rw [f2 149 (by decide), r1 149 (by decide)]; exact hM.1) (fun k hk' => ?_) (fun j hj => (hM.2.2 j hj).fr (fun k _ => by rw [f2 152 (by decide), r1 152 (by decide)]))).mono ?_
  · rw [f2 151 (by decide), Nat.zero_add, r2 k hk']
    have := hM.2.1 k hk'
    rw [Nat.zero_add] at this
    exact this
  · rintro r u ⟨rfl, u1, u2, u3, u4⟩
    rcases hN with ⟨q, -⟩ | ⟨-, rfl, rfl⟩
    · exact absurd q hne
    · refine ⟨rfl, ⟨u1, ?_, u2⟩, u3⟩
      rw [kpu_cur]
      exact h150.fr (fun k _ => by rw [u3 150 (by decide) (by decide)])
theorem setw_setw {w : Nat → Nat → Nat} {a b c d : Nat} : setw (setw w a b c) a b d = setw w a b d := by
  funext p q
  show (if (p = a ∧ q = b) ∨ (p = b ∧ q = a) then d else (if (p = a ∧ q = b) ∨ (p = b ∧ q = a) then c else w p q)) = (if (p = a ∧ q = b) ∨ (p = b ∧ q = a) then d else w p q)
  by_cases h : (p = a ∧ q = b) ∨ (p = b ∧ q = a)
  · rw [if_pos h, if_pos h]
  · rw [if_neg h, if_neg h, if_neg h]
theorem setw_self {n a b : Nat} {w : Nat → Nat → Nat} (hw : WF n w) : setw w a b (w a b) = w := by
  funext p q
  show (if (p = a ∧ q = b) ∨ (p = b ∧ q = a) then w a b else w p q) = w p q
  by_cases h : (p = a ∧ q = b) ∨ (p = b ∧ q = a)
  · rw [if_pos h]
    rcases h with ⟨e1, e2⟩ | ⟨e1, e2⟩
    · rw [e1, e2]
    · rw [e1, e2]; exact hw.2.1 a b
  · rw [if_neg h]
theorem dcn_set {n a b d : Nat} {w : Nat → Nat → Nat} (ha : a < n) (hb : b < n) (hn : n < 10) (hab : a ≠ b) : dcn n (setw w a b d) = dcn n (setw w a b 0) + (if 0 < d then 2 else 0) := by
  by_cases c : 0 < d
  · have := dcn_add (w := setw w a b 0) (v := d) ha hb hn hab setw_a setw_b c
    rw [setw_setw] at this
    rw [if_pos c]
    exact this
  · have : d = 0 := by omega
    subst this
    rw [if_neg c]
    rfl
theorem gn_set {n l a b d : Nat} {w : Nat → Nat → Nat} (G : GN n l w) (ha : a < n) (hb : b < n) (hab : a ≠ b) (hd : d < 10) : (0 < w a b → 0 < l) ∧ GN n (l - (if 0 < w a b then 1 else 0) + (if 0 < d then 1 else 0)) (setw w a b d) := by
  obtain ⟨hn, hw, hl⟩ := G
  have h1 := dcn_set (w := w) (d := w a b) ha hb hn hab
  rw [setw_self hw] at h1
  have h2 := dcn_set (w := w) (d := d) ha hb hn hab
  have h3 : (0 < w a b → 0 < l) := fun c => by rw [if_pos c] at h1; omega
  refine ⟨h3, hn, hw.set ha hb hab hd, ?_⟩
  rw [h2]
  by_cases c1 : 0 < w a b
  · rw [if_pos c1] at h1
    rw [if_pos c1]
    have := h3 c1
    by_cases c2 : 0 < d
    · rw [if_pos c2, if_pos c2]; omega
    · rw [if_neg c2, if_neg c2]; omega
  · rw [if_neg c1] at h1
    rw [if_neg c1]
    by_cases c2 : 0 < d
    · rw [if_pos c2, if_pos c2]; omega
    · rw [if_neg c2, if_neg c2]; omega
def vws (v : V4) (a b d : Nat) : V4 := (v.1, v.2.1 - (if 0 < v.2.2.1 a b then 1 else 0) + (if 0 < d then 1 else 0), setw v.2.2.1 a b d, v.2.2.2)
theorem GV.vws {v : V4} (h : GV v) {a b d : Nat} (ha : a < v.1) (hb : b < v.1) (hab : a ≠ b) (hd : d < 10) (h30 : v.2.1 - (if 0 < v.2.2.1 a b then 1 else 0) + (if 0 < d then 1 else 0) ≤ 30) : GV (vws v a b d) := ⟨(gn_set h.1 ha hb hab hd).2, h30, h.2.2⟩
section
variable {K K' : Nat → Nat → V4} {m m' s : Nat} {t : St}
theorem c_setW {a b d : Nat} {r0 : Int32} (hG : GK K m) (hs : s < 3) (hC : CST K m t) (ha : a < (K m s).1) (hb : b < (K m s).1) (hab : a ≠ b) (hd : d < 10) (h30 : (K m s).2.1 - (if 0 < (K m s).2.2.1 a b then 1 else 0) + (if 0 < d then 1 else 0) ≤ 30) : Ok (bnd (FX5_copyFrom 141 (12 + 24 * s) t) (fun _ t1 => bnd (FX5_setWeight (12 + 24 * s) (nI a) (nI b) (nI d) t1) (fun _ t2 => bnd (FX11_noteAct (nI s) t2) (fun _ t3 => some (r0, t3))))) (fun r u => r = r0 ∧ CNX K m s (vws (K m s) a b d) u ∧ AF s t u) := by
  have hv := hG.2 m (Nat.le_refl _) s hs
  have hn : (K m s).1 < 10 := hv.1.1
  have g := n_sl hs
  refine Ok.bd _ (e_kept hG hs hC) ?_
  rintro _ t1 ⟨k1, x1, f1⟩
  refine Ok.bd _ (e_setWeight x1.1 g (by omega) (by omega) hab hd (hv.1.2.1.1 a b) (gn_set hv.1 ha hb hab hd).1 (by have := hv.2.1; omega)) ?_
  rintro _ t2 ⟨c2, f2⟩
  refine Ok.bd _ (c_note (v := vws (K m s) a b d) hG hs (hv.vws ha hb hab hd h30) hC (fun c c1 c3 => by rw [f2 c (by omega) (by omega) (by omega)]; exact f1 c c3) (k1.fr4 (fun c c1 c3 => f2 c (by omega) (by omega) (by omega))) ⟨c2, fun i hi => by rw [f2 _ (by omega) (by omega) (by omega)]; exact x1.2 i hi⟩) ?_
  rintro _ u ⟨u1, u2, u3⟩
  exact Ok.ret ⟨rfl, u1, u3⟩
theorem q_hasTwo {x n a b : Nat} {t : St} (g : netAt x = true) (hn : n < 10) (h : t x 0 = nI n) (ha : a < n) (hb : b < n) (hab : a ≠ b) : FX5_hasTwo x (nI a) (nI b) t = some (1, t) := by
  refine Ok.eq ?_
  unfold FX5_hasTwo
  exact Ok.ckT g (Ok.bq (g_has g hn h ha) (Ok.ifF (by decide) (Ok.bq (g_has g hn h hb) (Ok.ifF (by decide) (Ok.ifF (by rw [nI_eqP (by omega) (by omega)]; exact hab) (Ok.ret ⟨rfl, rfl⟩))))))
theorem q_areTwo {n a b : Nat} {w : Nat → Nat → Nat} (hs : s < 3) (hn : n < 10) (h : RN s n w t) (ha : a < n) (hb : b < n) (hab : a ≠ b) : FX12_areTwo (nI s) (nI a) (nI b) t = some (1, t) := by
  refine Ok.eq ?_
  unfold FX12_areTwo
  exact Ok.bq (g_isPt hs hn h ha) (Ok.ifF (by decide) (Ok.bq (g_isPt hs hn h hb) (Ok.ifF (by decide) (Ok.ifF (by rw [nI_eqP (by omega) (by omega)]; exact hab) (Ok.ret ⟨rfl, rfl⟩)))))
theorem c_adds {a b d : Nat} (hG : GK K m) (hs : s < 3) (hC : CST K m t) (ha : a < (K m s).1) (hb : b < (K m s).1) (hab : a ≠ b) (h1 : 1 ≤ d) (hd : d < 10) (h30 : ¬ ((K m s).2.2.1 a b = 0 ∧ (K m s).2.1 = 30)) : Ok (FX11_adds (nI s) (nI a) (nI b) (nI d) t) (fun r u => r = nI ((K m s).2.2.1 a b) ∧ CNX K m s (vws (K m s) a b d) u ∧ AF s t u) := by
  have hv := hG.2 m (Nat.le_refl _) s hs
  have hn : (K m s).1 < 10 := hv.1.1
  have hx := hC.1 s hs
  have g := n_sl hs
  have h9 := hv.1.2.1.1 a b
  have hl := hv.2.1
  have hp := (gn_set (d := d) hv.1 ha hb hab hd).1
  unfold FX11_adds
  refine Ok.bq (g_netIn hs hn hx.1.1) ?_
  rw [if_neg (c := (K m s).1 = 0) (by omega)]
  refine Ok.ckT g (Ok.bq (q_hasTwo g hn hx.1.1 ha hb hab) (Ok.ifF (by decide) (Ok.ifF (by rw [li_1, nI_ltP (by omega) (by omega)]; omega) (Ok.ifT (by rw [li_9, nI_leP (by omega) (by omega)]; omega) (Ok.bq (q_weightOf hx.1 g (by omega) (by omega)) (Ok.cv (nI_q0 (by omega)) (Ok.ite (fun c => ?_) (fun c => ?_))))))))
  · refine Ok.rdE hx.1.2.1 (Ok.ifT (by rw [li_30, nI_ltP (by omega) (by omega)]; omega) ?_)
    exact c_setW hG hs hC ha hb hab hd (by rw [c, if_neg (by omega), if_pos (by omega)]; omega)
  · have := hp (by omega)
    exact c_setW hG hs hC ha hb hab hd (by rw [if_pos (by omega), if_pos (by omega)]; omega)
theorem c_adds0 {a b d : Nat} (hG : GK K m) (hs : s < 3) (hC : CST K m t) (ha : a < (K m s).1) (hb : b < (K m s).1) (hab : a ≠ b) (h1 : 1 ≤ d) (hd : d < 10) (h30 : (K m s).2.2.1 a b = 0 ∧ (K m s).2.1 = 30) : FX11_adds (nI s) (nI a) (nI b) (nI d) t = some (-5, t) := by
  have hv := hG.2 m (Nat.le_refl _) s hs
  have hn : (K m s).1 < 10 := hv.1.1
  have hx := hC.1 s hs
  have g := n_sl hs
  refine Ok.eq ?_
  unfold FX11_adds
  refine Ok.bq (g_netIn hs hn hx.1.1) ?_
  rw [if_neg (c := (K m s).1 = 0) (by omega)]
  refine Ok.ckT g (Ok.bq (q_hasTwo g hn hx.1.1 ha hb hab) (Ok.ifF (by decide) (Ok.ifF (by rw [li_1, nI_ltP (by omega) (by omega)]; omega) (Ok.ifT (by rw [li_9, nI_leP (by omega) (by omega)]; omega) (Ok.bq (q_weightOf hx.1 g (by omega) (by omega)) (Ok.ifT (by rw [h30.1]; rfl) ?_))))))
  exact Ok.rdE hx.1.2.1 (Ok.ifF (by rw [h30.2]; decide) (Ok.ret ⟨rfl, rfl⟩))
theorem c_cuts {a b : Nat} (hG : GK K m) (hs : s < 3) (hC : CST K m t) (ha : a < (K m s).1) (hb : b < (K m s).1) (hab : a ≠ b) (h0 : (K m s).2.2.1 a b ≠ 0) : Ok (FX11_cuts (nI s) (nI a) (nI b) t) (fun r u => r = nI ((K m s).2.2.1 a b) ∧ CNX K m s (vws (K m s) a b 0) u ∧ AF s t u) := by
  have hv := hG.2 m (Nat.le_refl _) s hs
  have hn : (K m s).1 < 10 := hv.1.1
  have hx := hC.1 s hs
  have g := n_sl hs
  have h9 := hv.1.2.1.1 a b
  have hl := hv.2.1
  unfold FX11_cuts
  refine Ok.bq (g_netIn hs hn hx.1.1) ?_
  rw [if_neg (c := (K m s).1 = 0) (by omega)]
  refine Ok.ckT g (Ok.bq (q_hasTwo g hn hx.1.1 ha hb hab) (Ok.ifF (by decide) (Ok.bq (q_weightOf hx.1 g (by omega) (by omega)) (Ok.ifF (by rw [nI_q0 (by omega)]; exact h0) ?_))))
  exact c_setW (d := 0) hG hs hC ha hb hab (by omega) (by rw [if_neg (c := 0 < 0) (by omega)]; omega)
theorem c_cuts0 {a b : Nat} (hG : GK K m) (hs : s < 3) (hC : CST K m t) (ha : a < (K m s).1) (hb : b < (K m s).1) (hab : a ≠ b) (h0 : (K m s).2.2.1 a b = 0) : FX11_cuts (nI s) (nI a) (nI b) t = some (-6, t) := by
  have hv := hG.2 m (Nat.le_refl _) s hs
  have hn : (K m s).1 < 10 := hv.1.1
  have hx := hC.1 s hs
  have g := n_sl hs
  refine Ok.eq ?_
  unfold FX11_cuts
  refine Ok.bq (g_netIn hs hn hx.1.1) ?_
  rw [if_neg (c := (K m s).1 = 0) (by omega)]
  exact Ok.ckT g (Ok.bq (q_hasTwo g hn hx.1.1 ha hb hab) (Ok.ifF (by decide) (Ok.bq (q_weightOf hx.1 g (by omega) (by omega)) (Ok.ifT (by rw [h0]; rfl) (Ok.ret ⟨rfl, rfl⟩)))))
theorem gv0 : GV (0, 0, (fun _ _ => 0), fun _ => 0) := ⟨⟨by show 0 < 10; omega, WF.z, rfl⟩, Nat.zero_le _, pfx_0, fun _ _ => rfl⟩
theorem c_drops (hG : GK K m) (hs : s < 3) (hC : CST K m t) (h1 : 1 ≤ (K m s).1) : Ok (FX11_drops (nI s) t) (fun r u => r = 1 ∧ CNX K m s (0, 0, (fun _ _ => 0), fun _ => 0) u ∧ AF s t u) := by
  have hv := hG.2 m (Nat.le_refl _) s hs
  have hn : (K m s).1 < 10 := hv.1.1
  have hx := hC.1 s hs
  have g := n_sl hs
  unfold FX11_drops
  refine Ok.bq (g_slot hs) (Ok.ifF (by decide) ?_)
  rw [el10 hs]
  refine Ok.ckT (inb_n hs (by omega)) (Ok.ckT g (Ok.rdE hx.1.1 (Ok.ifF (by rw [nI_q0 (by omega)]; omega) (Ok.bd _ (e_kept hG hs hC) ?_))))
  rintro _ t1 ⟨k1, x1, f1⟩
  refine Ok.bd _ (e_begin (n := 0) (t := t1) g) ?_
  rintro _ t2 ⟨c2, -, f2⟩
  refine Ok.bd _ (c_note (v := (0, 0, (fun _ _ => 0), fun _ => 0)) hG hs gv0 hC (fun c c1 c3 => by rw [f2 c (by omega) (by omega) (by omega) (by omega)]; exact f1 c c3) (k1.fr4 (fun c c1 c3 => f2 c (by omega) (by omega) (by omega) (by omega))) ⟨c2, fun i hi => absurd hi (Nat.not_lt_zero i)⟩) ?_
  rintro _ u ⟨u1, u2, u3⟩
  exact Ok.ret ⟨rfl, u1, u3⟩
theorem c_drops0 (hs : s < 3) (hC : CST K m t) (h1 : (K m s).1 = 0) : FX11_drops (nI s) t = some (0, t) := by
  have hx := (hC.1 s hs).1.1
  refine Ok.eq ?_
  unfold FX11_drops
  refine Ok.bq (g_slot hs) (Ok.ifF (by decide) ?_)
  rw [el10 hs]
  exact Ok.ckT (inb_n hs (by omega)) (Ok.ckT (n_sl hs) (Ok.rdE hx (Ok.ifT (by rw [h1]; rfl) (Ok.ret ⟨rfl, rfl⟩))))
/-! the reference -/
theorem m_setW {a b d : Nat} (hG : GK K m) (hs : s < 3) (hM : MST K m t) (ha : a < (K m s).1) (hb : b < (K m s).1) (hab : a ≠ b) (hv : GV (vws (K m s) a b d)) {t1 : St} (r1 : ∀ c, c ≠ 151 → t1 c = t c) : Ok (FX12_weighs (nI s) (nI a) (nI b) (nI d) t1) (fun _ t2 => (∀ c, c ≠ 150 → t2 c = t1 c) ∧ RA 150 0 (upA (K m) s (vws (K m s) a b d)) t2) := by
  have hv0 := hG.2 m (Nat.le_refl _) s hs
  have hn : (K m s).1 < 10 := hv0.1.1
  have hr := (hM.2.1.rn hs).fr (r1 150 (by decide))
  refine (m_weighs hr hs (by omega) (by omega) hab).mono ?_
  rintro _ t2 ⟨u1, u2, u3⟩
  refine ⟨u2, hM.2.1.up hs u1 (fun i hi => ?_) hv (fun j hj => ?_)⟩
  · rw [u3 _ (by omega), r1 150 (by decide)]
    exact hM.2.1.ro hs hv0 i hi
  · rw [u3 j (by omega), r1 150 (by decide)]
theorem q_in19 {d : Nat} (h1 : 1 ≤ d) (hd : d < 10) : FX12_in (nI d).toInt64 (1 : Int64) (9 : Int64) t = some (1, t) := by
  refine Ok.eq (e_in (fun _ _ => ⟨rfl, rfl⟩) (fun q => absurd ?_ q))
  rw [n64 (by omega), show (1 : Int64).toInt = 1 by decide, show (9 : Int64).toInt = 9 by decide]
  omega
theorem m_adds {a b d : Nat} (hG : GK K m) (hs : s < 3) (hM : MST K m t) (ha : a < (K m s).1) (hb : b < (K m s).1) (hab : a ≠ b) (h1 : 1 ≤ d) (hd : d < 10) (h30 : ¬ ((K m s).2.2.1 a b = 0 ∧ (K m s).2.1 = 30)) (hN : NXT K m s (vws (K m s) a b d) K' m') : Ok (FX12_adds (nI s) (nI a) (nI b) (nI d) t) (fun r u => r = nI ((K m s).2.2.1 a b) ∧ MST K' m' u) := by
  have hv := hG.2 m (Nat.le_refl _) s hs
  have hn : (K m s).1 < 10 := hv.1.1
  have hr := hM.2.1.rn hs
  have h9 := hv.1.2.1.1 a b
  have hl := hv.2.1
  have hp := (gn_set (d := d) hv.1 ha hb hab hd).1
  have hv' : GV (vws (K m s) a b d) := hv.vws ha hb hab hd (by
    rw [if_pos (c := 0 < d) (by omega)]
    by_cases c : 0 < (K m s).2.2.1 a b
    · rw [if_pos c]; have := hp c; omega
    · rw [if_neg c]; omega)
  have hl2 := hv.1.2.2
  have key : Ok (bnd (FX12_remembers t) (fun _ t1 => bnd (FX12_weighs (nI s) (nI a) (nI b) (nI d) t1) (fun _ t2 => bnd (FX12_done (nI ((K m s).2.2.1 a b)) t2) (fun v t3 => some (v, t3))))) (fun r u => r = nI ((K m s).2.2.1 a b) ∧ MST K' m' u) := by
    refine Ok.bd _ m_remembers ?_
    rintro _ t1 ⟨r1, r2⟩
    refine Ok.bd _ (m_setW hG hs hM ha hb hab hv' r1) ?_
    rintro _ t2 ⟨f2, h2⟩
    refine Ok.bd _ (m_fin hG hs hv' hN hM r1 r2 f2 h2) ?_
    rintro _ u ⟨rfl, u1, -⟩
    exact Ok.ret ⟨rfl, u1⟩
  unfold FX12_adds
  refine Ok.bq (q_areTwo hs hn hr ha hb hab) (Ok.ifF (by decide) (Ok.bq (q_in19 h1 hd) ?_))
  refine Ok.ifF (by decide) (Ok.bq (q_weight hr hs (by omega) (by omega)) (Ok.cv (nI_q0 (by omega)) (Ok.ite (fun c => ?_) (fun c => ?_))))
  · refine Ok.bd (fun r u => t = u ∧ r = nI (dcn (K m s).1 (K m s).2.2.1 / 2)) (m_lines hr hs hn hv.1.2.1 ⟨rfl, rfl⟩) ?_
    rintro _ _ ⟨rfl, rfl⟩
    refine Ok.ifF (by rw [li_30, nI_eqP (by omega) (by omega)]; omega) key
  · exact key
theorem m_adds0 {a b d : Nat} (hG : GK K m) (hs : s < 3) (hM : MST K m t) (ha : a < (K m s).1) (hb : b < (K m s).1) (hab : a ≠ b) (h1 : 1 ≤ d) (hd : d < 10) (h30 : (K m s).2.2.1 a b = 0 ∧ (K m s).2.1 = 30) : FX12_adds (nI s) (nI a) (nI b) (nI d) t = some (-5, t) := by
  have hv := hG.2 m (Nat.le_refl _) s hs
  have hn : (K m s).1 < 10 := hv.1.1
  have hr := hM.2.1.rn hs
  have hl2 := hv.1.2.2
  refine Ok.eq ?_
  unfold FX12_adds
  refine Ok.bq (q_areTwo hs hn hr ha hb hab) (Ok.ifF (by decide) (Ok.bq (q_in19 h1 hd) ?_))
  refine Ok.ifF (by decide) (Ok.bq (q_weight hr hs (by omega) (by omega)) (Ok.ifT (by rw [h30.1]; rfl) (Ok.bd (fun r u => t = u ∧ r = nI (dcn (K m s).1 (K m s).2.2.1 / 2)) (m_lines hr hs hn hv.1.2.1 ⟨rfl, rfl⟩) ?_)))
  rintro _ _ ⟨rfl, rfl⟩
  exact Ok.ifT (by rw [show dcn (K m s).1 (K m s).2.2.1 / 2 = 30 by omega]; rfl) (Ok.ret ⟨rfl, rfl⟩)
theorem m_cuts {a b : Nat} (hG : GK K m) (hs : s < 3) (hM : MST K m t) (ha : a < (K m s).1) (hb : b < (K m s).1) (hab : a ≠ b) (h0 : (K m s).2.2.1 a b ≠ 0) (hN : NXT K m s (vws (K m s) a b 0) K' m') : Ok (FX12_cuts (nI s) (nI a) (nI b) t) (fun r u => r = nI ((K m s).2.2.1 a b) ∧ MST K' m' u) := by
  have hv := hG.2 m (Nat.le_refl _) s hs
  have hn : (K m s).1 < 10 := hv.1.1
  have hr := hM.2.1.rn hs
  have h9 := hv.1.2.1.1 a b
  have hl := hv.2.1
  have hv' : GV (vws (K m s) a b 0) := hv.vws ha hb hab (by omega) (by rw [if_neg (c := 0 < 0) (by omega)]; omega)
  have hne : vws (K m s) a b 0 ≠ K m s := fun q => h0 (by
    have : (vws (K m s) a b 0).2.2.1 a b = (K m s).2.2.1 a b := by rw [q]
    rw [← this]
    exact setw_a)
  unfold FX12_cuts
  refine Ok.bq (q_areTwo hs hn hr ha hb hab) (Ok.ifF (by decide) (Ok.bq (q_weight hr hs (by omega) (by omega)) (Ok.ifF (by rw [nI_q0 (by omega)]; exact h0) (Ok.bd _ m_remembers ?_))))
  rintro _ t1 ⟨r1, r2⟩
  refine Ok.bd _ (m_setW (d := 0) hG hs hM ha hb hab hv' r1) ?_
  rintro _ t2 ⟨f2, h2⟩
  refine Ok.bd _ (m_fik hG hN hne hM r1 r2 f2 h2) ?_
  rintro _ u ⟨rfl, u1, -⟩
  exact Ok.ret ⟨rfl, u1⟩
theorem m_cuts0 {a b : Nat} (hG : GK K m) (hs : s < 3) (hM : MST K m t) (ha : a < (K m s).1) (hb : b < (K m s).1) (hab : a ≠ b) (h0 : (K m s).2.2.1 a b = 0) : FX12_cuts (nI s) (nI a) (nI b) t = some (-6, t) := by
  have hv := hG.2 m (Nat.le_refl _) s hs
  have hn : (K m s).1 < 10 := hv.1.1
  have hr := hM.2.1.rn hs
  refine Ok.eq ?_
  unfold FX12_cuts
  exact Ok.bq (q_areTwo hs hn hr ha hb hab) (Ok.ifF (by decide) (Ok.bq (q_weight hr hs (by omega) (by omega)) (Ok.ifT (by rw [h0]; rfl) (Ok.ret ⟨rfl, rfl⟩))))
theorem m_drops (hG : GK K m) (hs : s < 3) (hM : MST K m t) (h1 : 1 ≤ (K m s).1) (hN : NXT K m s (0, 0, (fun _ _ => 0), fun _ => 0) K' m') : Ok (FX12_drops (nI s) t) (fun r u => r = 1 ∧ MST K' m' u) := by
  have hv := hG.2 m (Nat.le_refl _) s hs
  have hn : (K m s).1 < 10 := hv.1.1
  have hr := hM.2.1.rn hs
  have hne : ((0, 0, (fun _ _ => 0), fun _ => 0) : V4) ≠ K m s := fun q => by
    have : (0 : Nat) = (K m s).1 := by rw [← q]
    omega
  unfold FX12_drops
  refine Ok.bq (g_slotM hs) (Ok.ifF (by decide) (Ok.bq (g_isNet hs hn hr) ?_))
  rw [if_neg (c := (K m s).1 = 0) (by omega)]
  refine Ok.ifF (by decide) (Ok.bd _ m_remembers ?_)
  rintro _ t1 ⟨r1, r2⟩
  refine Ok.bd _ (xX12_empties hs) ?_
  rintro _ t2 e2
  have f2 : ∀ c, c ≠ 150 → t2 c = t1 c := fun c hc => by rw [e2, stp_off hc]
  have z2 : ∀ k, 91 * s ≤ k → k < 91 * s + 91 → t2 150 k = 0 := fun k k1 k2 => by rw [e2, stp_at, if_pos ⟨k1, k2⟩]
  have o2 : ∀ j, (j < 91 * s ∨ 91 * s + 91 ≤ j) → t2 150 j = t 150 j := fun j hj => by rw [e2, stp_at, if_neg (by omega), r1 150 (by decide)]
  have h150 : RA 150 0 (upA (K m) s (0, 0, (fun _ _ => 0), fun _ => 0)) t2 := hM.2.1.up hs ⟨z2 _ (by omega) (by omega), fun a b ha hb => z2 _ (by omega) (by omega)⟩ (fun i hi => by rw [z2 _ (by omega) (by omega), if_neg (Nat.not_lt_zero i)]; rfl) gv0 o2
  refine Ok.bd _ (m_fik (a := 1) hG hN hne hM r1 r2 f2 h150) ?_
  rintro _ u ⟨rfl, u1, -⟩
  exact Ok.ret ⟨rfl, u1⟩
theorem m_drops0 (hG : GK K m) (hs : s < 3) (hM : MST K m t) (h1 : (K m s).1 = 0) : FX12_drops (nI s) t = some (0, t) := by
  have hv := hG.2 m (Nat.le_refl _) s hs
  refine Ok.eq ?_
  unfold FX12_drops
  refine Ok.bq (g_slotM hs) (Ok.ifF (by decide) (Ok.bq (g_isNet hs hv.1.1 (hM.2.1.rn hs)) ?_))
  rw [if_pos h1]
  exact Ok.ifT rfl (Ok.ret ⟨rfl, rfl⟩)
end
