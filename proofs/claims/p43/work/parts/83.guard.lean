/-! who may be asked -/
theorem r3 {a : Int32} : (∃ s, s < 3 ∧ a = nI s) ∨ ¬ IsR 3 a := Classical.em _
theorem g_netIn0 {a : Int32} {t : St} (h : ¬ IsR 3 a) : FX11_netIn a t = some (none, t) := by
  refine Ok.eq ?_
  unfold FX11_netIn
  refine Ok.bd (fun r u => t = u ∧ r = 0) (e_isSlot (fun s hs e => absurd ⟨s, hs, e⟩ h) (fun _ => ⟨rfl, rfl⟩)) ?_
  rintro _ _ ⟨rfl, rfl⟩
  exact Ok.ifT rfl (Ok.ret ⟨rfl, rfl⟩)
theorem g_slot {s : Nat} {t : St} (hs : s < 3) : FX11_isSlot (nI s) t = some (1, t) := Ok.eq (e_isSlot (fun _ _ _ => ⟨rfl, rfl⟩) (fun q => absurd ⟨s, hs, rfl⟩ q))
theorem g_slotM {s : Nat} {t : St} (hs : s < 3) : FX12_isSlot (nI s) t = some (1, t) := Ok.eq (m_isSlot (fun _ _ _ => ⟨rfl, rfl⟩) (fun q => absurd ⟨s, hs, rfl⟩ q))
theorem g_slot0 {a : Int32} {t : St} (h : ¬ IsR 3 a) : FX11_isSlot a t = some (0, t) := Ok.eq (e_isSlot (fun s hs e => absurd ⟨s, hs, e⟩ h) (fun _ => ⟨rfl, rfl⟩))
theorem g_slotM0 {a : Int32} {t : St} (h : ¬ IsR 3 a) : FX12_isSlot a t = some (0, t) := Ok.eq (m_isSlot (fun s hs e => absurd ⟨s, hs, e⟩ h) (fun _ => ⟨rfl, rfl⟩))
theorem g_netIn {s n : Nat} {t : St} (hs : s < 3) (hn : n < 10) (h : t (12 + 24 * s) 0 = nI n) : FX11_netIn (nI s) t = some (if n = 0 then none else some (12 + 24 * s), t) := by
  refine Ok.eq ?_
  unfold FX11_netIn
  have g := n_sl hs
  rw [el10 hs]
  refine Ok.bq (g_slot hs) (Ok.ifF (by decide) (Ok.ckT (inb_n hs (by omega)) (Ok.ckT g (Ok.rdE h (Ok.cv (nI_leP (b := 0) (by omega) (by omega)) (Ok.ite (fun c => Ok.ret ⟨rfl, ?_⟩) (fun c => Ok.ckT (inb_n hs (by omega)) (Ok.ckT g (Ok.ret ⟨rfl, ?_⟩)))))))))
  · rw [if_pos (by omega)]
  · rw [if_neg (by omega)]
theorem g_isNet0 {a : Int32} {t : St} (h : ¬ IsR 3 a) : FX12_isNet a t = some (0, t) := by
  refine Ok.eq ?_
  unfold FX12_isNet
  exact Ok.bq (g_slotM0 h) (Ok.ifT rfl (Ok.ret ⟨rfl, rfl⟩))
theorem g_isNet {s n : Nat} {w : Nat → Nat → Nat} {t : St} (hs : s < 3) (hn : n < 10) (h : RN s n w t) : FX12_isNet (nI s) t = some (if n = 0 then 0 else 1, t) := by
  refine Ok.eq ?_
  unfold FX12_isNet
  refine Ok.bq (g_slotM hs) (Ok.ifF (by decide) (Ok.bq (q_points h hs) (Ok.cv (nI_leP (b := 0) (by omega) (by omega)) (Ok.ite (fun c => Ok.ret ⟨rfl, ?_⟩) (fun c => Ok.ret ⟨rfl, ?_⟩)))))
  · rw [if_pos (by omega)]
  · rw [if_neg (by omega)]
theorem g_ms {m : Nat} {t : St} (hm : m < 7) : FX11_isMeasure (nI m) t = some (1, t) := by
  unfold FX11_isMeasure
  rw [if_neg (by rw [li_0, nI_ltP (by omega) (by omega)]; omega), if_neg (by rw [li_7, nI_leP (by omega) (by omega)]; omega)]
theorem g_ms0 {b : Int32} {t : St} (h : ¬ IsR 7 b) : FX11_isMeasure b t = some (0, t) := by
  unfold FX11_isMeasure
  by_cases c : b < 0
  · rw [if_pos c]
  · rw [if_neg c]
    obtain ⟨j, hj, rfl⟩ := nI_of c
    have : ¬ j < 7 := fun q => h ⟨j, q, rfl⟩
    rw [if_pos (by rw [li_7, nI_leP (by omega) (by omega)]; omega)]
theorem e_inN {t : St} {a : Int32} {n : Nat} (h1 : 1 ≤ n) (hn : n < 1000) {Q : Int32 → St → Prop} (q1 : ∀ j, j < n → a = nI j → Q 1 t) (q0 : ¬ IsR n a → Q 0 t) {b c : Int64} (hb : b.toInt = 0) (hc : c.toInt = (n : Int) - 1) : Ok (FX12_in a.toInt64 b c t) Q := by
  refine e_in (fun g1 g2 => ?_) (fun g => q0 (fun ⟨k, hk, e⟩ => g ?_))
  · obtain ⟨j, hj, e⟩ := in_R (m := n) ⟨g1, g2⟩ (by omega) (by omega)
    exact q1 j hj e
  · subst e
    rw [hb, hc, Int32.toInt_toInt64, nI_toInt (by omega)]
    omega
theorem g_msM {m : Nat} {t : St} (hm : m < 7) : FX12_isMeasure (nI m) t = some (1, t) := by
  refine Ok.eq ?_
  unfold FX12_isMeasure
  refine Ok.bd (fun r u => t = u ∧ r = 1) (e_inN (n := 7) (by omega) (by omega) (fun _ _ _ => ⟨rfl, rfl⟩) (fun q => absurd ⟨m, hm, rfl⟩ q) (by decide) (by decide)) ?_
  rintro _ _ ⟨rfl, rfl⟩
  exact Ok.ckT rfl (Ok.ret ⟨rfl, rfl⟩)
theorem g_msM0 {b : Int32} {t : St} (h : ¬ IsR 7 b) : FX12_isMeasure b t = some (0, t) := by
  refine Ok.eq ?_
  unfold FX12_isMeasure
  refine Ok.bd (fun r u => t = u ∧ r = 0) (e_inN (n := 7) (by omega) (by omega) (fun j hj e => absurd ⟨j, hj, e⟩ h) (fun q => ⟨rfl, rfl⟩) (by decide) (by decide)) ?_
  rintro _ _ ⟨rfl, rfl⟩
  exact Ok.ckT rfl (Ok.ret ⟨rfl, rfl⟩)
theorem g_has {x n a : Nat} {t : St} (g : netAt x = true) (hn : n < 10) (h : t x 0 = nI n) (ha : a < n) : FX5_has x (nI a) t = some (1, t) := by
  refine Ok.eq ?_
  unfold FX5_has
  exact Ok.ckT g (Ok.ifF (by rw [li_0, nI_ltP (by omega) (by omega)]; omega) (Ok.rdE h (Ok.ifF (by rw [nI_leP (by omega) (by omega)]; omega) (Ok.ret ⟨rfl, rfl⟩))))
theorem g_has0 {x n : Nat} {b : Int32} {t : St} (g : netAt x = true) (hn : n < 10) (h : t x 0 = nI n) (hb : ¬ IsR n b) : FX5_has x b t = some (0, t) := by
  refine Ok.eq ?_
  unfold FX5_has
  refine Ok.ckT g (Ok.ite (fun _ => Ok.ret ⟨rfl, rfl⟩) (fun c => ?_))
  obtain ⟨j, hj, rfl⟩ := nI_of c
  have : ¬ j < n := fun q => hb ⟨j, q, rfl⟩
  exact Ok.rdE h (Ok.ifT (by rw [nI_leP (by omega) (by omega)]; omega) (Ok.ret ⟨rfl, rfl⟩))
theorem in0 : (0 : Int64).toInt = 0 := by decide
theorem inn {n : Nat} (h1 : 1 ≤ n) (hn : n < 10) : (nI n - 1).toInt64.toInt = (n : Int) - 1 := by
  rw [nI_s1 h1, Int32.toInt_toInt64, nI_toInt (by omega)]
  omega
theorem g_isPt {s n a : Nat} {w : Nat → Nat → Nat} {t : St} (hs : s < 3) (hn : n < 10) (h : RN s n w t) (ha : a < n) : FX12_isPoint (nI s) (nI a) t = some (1, t) := by
  refine Ok.eq ?_
  unfold FX12_isPoint
  refine Ok.bq (g_isNet hs hn h) ?_
  rw [if_neg (c := n = 0) (by omega)]
  refine Ok.ifF (by decide) (Ok.bq (q_points h hs) (Ok.bd (fun r u => t = u ∧ r = 1) (e_inN (n := n) (by omega) (by omega) (fun _ _ _ => ⟨rfl, rfl⟩) (fun q => absurd ⟨a, ha, rfl⟩ q) in0 (inn (by omega) hn)) ?_))
  rintro _ _ ⟨rfl, rfl⟩
  exact Ok.ifF (by decide) (Ok.ret ⟨rfl, rfl⟩)
theorem g_isPt0 {s n : Nat} {b : Int32} {w : Nat → Nat → Nat} {t : St} (hs : s < 3) (hn : n < 10) (h : RN s n w t) (hb : ¬ IsR n b) : FX12_isPoint (nI s) b t = some (0, t) := by
  refine Ok.eq ?_
  unfold FX12_isPoint
  refine Ok.bq (g_isNet hs hn h) ?_
  by_cases e : n = 0
  · rw [if_pos e]
    exact Ok.ifT rfl (Ok.ret ⟨rfl, rfl⟩)
  · rw [if_neg e]
    refine Ok.ifF (by decide) (Ok.bq (q_points h hs) (Ok.bd (fun r u => t = u ∧ r = 0) (e_inN (n := n) (by omega) (by omega) (fun j hj e => absurd ⟨j, hj, e⟩ hb) (fun q => ⟨rfl, rfl⟩) in0 (inn (by omega) hn)) ?_))
    rintro _ _ ⟨rfl, rfl⟩
    exact Ok.ifT rfl (Ok.ret ⟨rfl, rfl⟩)
theorem g_isPtN {a b : Int32} {t : St} (h : ¬ IsR 3 a) : FX12_isPoint a b t = some (0, t) := by
  refine Ok.eq ?_
  unfold FX12_isPoint
  exact Ok.bq (g_isNet0 h) (Ok.ifT rfl (Ok.ret ⟨rfl, rfl⟩))
theorem g_pr {m : Nat} {t : St} (hm : m < 7) : FX11_isPriced (nI m) t = some (if m = 2 then 0 else 1, t) := by
  refine Ok.eq ?_
  unfold FX11_isPriced
  refine Ok.bq (g_ms hm) (Ok.ifF (by decide) ?_)
  rw [li_2]
  refine Ok.cv (nI_lit hm (by omega)) (Ok.ite (fun c => Ok.ret ⟨rfl, ?_⟩) (fun c => Ok.ret ⟨rfl, ?_⟩))
  · rw [if_pos c]
  · rw [if_neg c]
theorem g_pr0 {b : Int32} {t : St} (h : ¬ IsR 7 b) : FX11_isPriced b t = some (0, t) := by
  refine Ok.eq ?_
  unfold FX11_isPriced
  exact Ok.bq (g_ms0 h) (Ok.ifT rfl (Ok.ret ⟨rfl, rfl⟩))
theorem g_bd {m : Nat} {t : St} (hm : m < 7) : FX11_isBounded (nI m) t = some (if m = 0 ∨ m = 1 ∨ m = 2 ∨ m = 5 then 1 else 0, t) := by
  rcases (show m = 0 ∨ m = 1 ∨ m = 2 ∨ m = 3 ∨ m = 4 ∨ m = 5 ∨ m = 6 by omega) with rfl | rfl | rfl | rfl | rfl | rfl | rfl <;> rfl
theorem g_bd0 {b : Int32} {t : St} (h : ¬ IsR 7 b) : FX11_isBounded b t = some (0, t) := by
  unfold FX11_isBounded
  rw [if_neg (c := b = 0) (fun q => h ⟨0, by omega, q⟩), if_neg (c := b = 1) (fun q => h ⟨1, by omega, q⟩), if_neg (c := b = 2) (fun q => h ⟨2, by omega, q⟩), if_neg (c := b = 5) (fun q => h ⟨5, by omega, q⟩)]
