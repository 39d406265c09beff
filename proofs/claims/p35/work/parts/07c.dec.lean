/-! decode by bytes (printed by wip/ext/gdec.py) -/
/-- byte p of a code -/
def gB (c : ByteArray) (p o : Nat) : Prop := ∃ h : p < c.size, c[p].toNat = o
theorem gB_l {c : ByteArray} {L : List Nat} (e : c.data.toList.map UInt8.toNat = L) {p o : Nat} (h : L[p]? = some o) : gB c p o := by
  rw [← e, List.getElem?_map] at h
  obtain ⟨b, hb, rfl⟩ := Option.map_eq_some_iff.mp h
  obtain ⟨h1, h2⟩ := List.getElem?_eq_some_iff.mp hb
  have h3 : p < c.size := by rw [← ByteArray.size_data, ← Array.length_toList]; exact h1
  refine ⟨h3, ?_⟩
  rw [← h2]
  rfl
theorem chn {R A B : List Nat} {n k : Nat} (e : A.length = k) (h : ∀ i, R[n + i]? = (A ++ B)[i]?) (i : Nat) : R[n + k + i]? = B[i]? := by
  rw [Nat.add_assoc, h, List.getElem?_append_right (by omega), e, Nat.add_sub_cancel_left]
theorem ch0 {R : List Nat} (i : Nat) : R[0 + i]? = R[i]? := by rw [Nat.zero_add]
theorem gB_c {c : ByteArray} {R B : List Nat} (e : c.data.toList.map UInt8.toNat = R) {n : Nat} (h : ∀ i, R[n + i]? = B[i]?) (i : Nat) {o : Nat} (hi : B[i]? = some o) : gB c (n + i) o := gB_l e ((h i).trans hi)
theorem u1_e {c : ByteArray} {p o : Nat} (h : gB c p o) : (Jvm.ClassFile.Reader.u1 : Jvm.ClassFile.Decoder Nat) c p = .ok (o, p + 1) := by
  obtain ⟨h1, h2⟩ := h
  show (if h : p < c.size then (fun (_ : p < c.size) => (set (p + 1) >>= fun _ => pure c[p].toNat : Jvm.ClassFile.Decoder Nat)) h else throw (Jvm.ClassFile.HasTruncated.truncated p)) c p = _
  rw [dif_pos h1, ← h2]
  rfl
theorem bu1 {α : Type} {c : ByteArray} {p o : Nat} (f : Nat → Jvm.ClassFile.Decoder α) (h : gB c p o) : (Jvm.ClassFile.Reader.u1 >>= f) c p = f o c (p + 1) := by
  show (Jvm.ClassFile.Reader.u1 c p >>= fun q => f q.1 c q.2) = _
  rw [u1_e h]
  rfl
theorem u2_e {c : ByteArray} {p a b : Nat} (h : gB c p a) (h2 : gB c (p + 1) b) : (Jvm.ClassFile.Reader.u2 : Jvm.ClassFile.Decoder Nat) c p = .ok (a * 256 + b, p + 2) := (bu1 (α := Nat) (fun hi => Jvm.ClassFile.Reader.u1 >>= fun lo => pure (hi * 256 + lo)) h).trans (bu1 (α := Nat) (fun lo => pure (a * 256 + lo)) h2)
theorem bu2 {α : Type} {c : ByteArray} {p a b : Nat} (f : Nat → Jvm.ClassFile.Decoder α) (h : gB c p a) (h2 : gB c (p + 1) b) : (Jvm.ClassFile.Reader.u2 >>= f) c p = f (a * 256 + b) c (p + 2) := by
  show (Jvm.ClassFile.Reader.u2 c p >>= fun q => f q.1 c q.2) = _
  rw [u2_e h h2]
  rfl
theorem bs1 {α : Type} {c : ByteArray} {p o : Nat} (f : Int → Jvm.ClassFile.Decoder α) (h : gB c p o) : (Jvm.ClassFile.Reader.s1 >>= f) c p = f (Jvm.ClassFile.Reader.signed 8 o) c (p + 1) := by
  show ((Jvm.ClassFile.Reader.u1 c p >>= fun q => pure (Jvm.ClassFile.Reader.signed 8 q.1, q.2)) >>= fun q => f q.1 c q.2) = _
  rw [u1_e h]
  rfl
theorem bs2 {α : Type} {c : ByteArray} {p a b : Nat} (f : Int → Jvm.ClassFile.Decoder α) (h : gB c p a) (h2 : gB c (p + 1) b) : (Jvm.ClassFile.Reader.s2 >>= f) c p = f (Jvm.ClassFile.Reader.signed 16 (a * 256 + b)) c (p + 2) := by
  show ((Jvm.ClassFile.Reader.u2 c p >>= fun q => pure (Jvm.ClassFile.Reader.signed 16 q.1, q.2)) >>= fun q => f q.1 c q.2) = _
  rw [u2_e h h2]
  rfl
theorem dfin {c : ByteArray} {p n : Nat} {i : Instr} (h : Jvm.ClassFile.Decoder.instr p c p = .ok (i, p + n)) : decode c p = .ok (i, n) := by
  show (Jvm.ClassFile.Decoder.instr p c p >>= fun q => Except.ok (q.1, q.2 - p)) = _
  rw [h]
  show Except.ok (i, p + n - p) = _
  rw [Nat.add_sub_cancel_left]
theorem dc_1 {c : ByteArray} {p : Nat} (h : gB c p 1) : decode c p = .ok (.aconst_null, 1) := dfin (bu1 _ h)
theorem dc_2 {c : ByteArray} {p : Nat} (h : gB c p 2) : decode c p = .ok ((.iconst (-1)), 1) := dfin (bu1 _ h)
theorem dc_3 {c : ByteArray} {p : Nat} (h : gB c p 3) : decode c p = .ok ((.iconst 0), 1) := dfin (bu1 _ h)
theorem dc_4 {c : ByteArray} {p : Nat} (h : gB c p 4) : decode c p = .ok ((.iconst 1), 1) := dfin (bu1 _ h)
theorem dc_5 {c : ByteArray} {p : Nat} (h : gB c p 5) : decode c p = .ok ((.iconst 2), 1) := dfin (bu1 _ h)
theorem dc_6 {c : ByteArray} {p : Nat} (h : gB c p 6) : decode c p = .ok ((.iconst 3), 1) := dfin (bu1 _ h)
theorem dc_7 {c : ByteArray} {p : Nat} (h : gB c p 7) : decode c p = .ok ((.iconst 4), 1) := dfin (bu1 _ h)
theorem dc_8 {c : ByteArray} {p : Nat} (h : gB c p 8) : decode c p = .ok ((.iconst 5), 1) := dfin (bu1 _ h)
theorem dc_9 {c : ByteArray} {p : Nat} (h : gB c p 9) : decode c p = .ok ((.lconst 0), 1) := dfin (bu1 _ h)
theorem dc_10 {c : ByteArray} {p : Nat} (h : gB c p 10) : decode c p = .ok ((.lconst 1), 1) := dfin (bu1 _ h)
theorem dc_16 {c : ByteArray} {p a : Nat} {v : Int} (h : gB c p 16) (h1 : gB c (p + 1) a) (e : Jvm.ClassFile.Reader.signed 8 a = v) : decode c p = .ok ((.bipush v), 2) := by
  subst e
  exact dfin ((bu1 _ h).trans (bs1 _ h1))
theorem dc_17 {c : ByteArray} {p a b : Nat} {v : Int} (h : gB c p 17) (h1 : gB c (p + 1) a) (h2 : gB c (p + 2) b) (e : Jvm.ClassFile.Reader.signed 16 (a * 256 + b) = v) : decode c p = .ok ((.sipush v), 3) := by
  subst e
  exact dfin ((bu1 _ h).trans (bs2 _ h1 h2))
theorem dc_18 {c : ByteArray} {p a : Nat} (h : gB c p 18) (h1 : gB c (p + 1) a) : decode c p = .ok ((.ldc a), 2) := dfin ((bu1 _ h).trans (bu1 _ h1))
theorem dc_19 {c : ByteArray} {p a b v : Nat} (h : gB c p 19) (h1 : gB c (p + 1) a) (h2 : gB c (p + 2) b) (e : a * 256 + b = v) : decode c p = .ok ((.ldc_w v), 3) := by
  subst e
  exact dfin ((bu1 _ h).trans (bu2 _ h1 h2))
theorem dc_20 {c : ByteArray} {p a b v : Nat} (h : gB c p 20) (h1 : gB c (p + 1) a) (h2 : gB c (p + 2) b) (e : a * 256 + b = v) : decode c p = .ok ((.ldc2_w v), 3) := by
  subst e
  exact dfin ((bu1 _ h).trans (bu2 _ h1 h2))
theorem dc_21 {c : ByteArray} {p a : Nat} (h : gB c p 21) (h1 : gB c (p + 1) a) : decode c p = .ok ((.iload a), 2) := dfin ((bu1 _ h).trans (bu1 _ h1))
theorem dc_22 {c : ByteArray} {p a : Nat} (h : gB c p 22) (h1 : gB c (p + 1) a) : decode c p = .ok ((.lload a), 2) := dfin ((bu1 _ h).trans (bu1 _ h1))
theorem dc_25 {c : ByteArray} {p a : Nat} (h : gB c p 25) (h1 : gB c (p + 1) a) : decode c p = .ok ((.aload a), 2) := dfin ((bu1 _ h).trans (bu1 _ h1))
theorem dc_26 {c : ByteArray} {p : Nat} (h : gB c p 26) : decode c p = .ok ((.iload_n 0), 1) := dfin (bu1 _ h)
theorem dc_27 {c : ByteArray} {p : Nat} (h : gB c p 27) : decode c p = .ok ((.iload_n 1), 1) := dfin (bu1 _ h)
theorem dc_28 {c : ByteArray} {p : Nat} (h : gB c p 28) : decode c p = .ok ((.iload_n 2), 1) := dfin (bu1 _ h)
theorem dc_29 {c : ByteArray} {p : Nat} (h : gB c p 29) : decode c p = .ok ((.iload_n 3), 1) := dfin (bu1 _ h)
theorem dc_30 {c : ByteArray} {p : Nat} (h : gB c p 30) : decode c p = .ok ((.lload_n 0), 1) := dfin (bu1 _ h)
theorem dc_32 {c : ByteArray} {p : Nat} (h : gB c p 32) : decode c p = .ok ((.lload_n 2), 1) := dfin (bu1 _ h)
theorem dc_42 {c : ByteArray} {p : Nat} (h : gB c p 42) : decode c p = .ok ((.aload_n 0), 1) := dfin (bu1 _ h)
theorem dc_43 {c : ByteArray} {p : Nat} (h : gB c p 43) : decode c p = .ok ((.aload_n 1), 1) := dfin (bu1 _ h)
theorem dc_44 {c : ByteArray} {p : Nat} (h : gB c p 44) : decode c p = .ok ((.aload_n 2), 1) := dfin (bu1 _ h)
theorem dc_45 {c : ByteArray} {p : Nat} (h : gB c p 45) : decode c p = .ok ((.aload_n 3), 1) := dfin (bu1 _ h)
theorem dc_46 {c : ByteArray} {p : Nat} (h : gB c p 46) : decode c p = .ok (.iaload, 1) := dfin (bu1 _ h)
theorem dc_50 {c : ByteArray} {p : Nat} (h : gB c p 50) : decode c p = .ok (.aaload, 1) := dfin (bu1 _ h)
theorem dc_51 {c : ByteArray} {p : Nat} (h : gB c p 51) : decode c p = .ok (.baload, 1) := dfin (bu1 _ h)
theorem dc_54 {c : ByteArray} {p a : Nat} (h : gB c p 54) (h1 : gB c (p + 1) a) : decode c p = .ok ((.istore a), 2) := dfin ((bu1 _ h).trans (bu1 _ h1))
theorem dc_58 {c : ByteArray} {p a : Nat} (h : gB c p 58) (h1 : gB c (p + 1) a) : decode c p = .ok ((.astore a), 2) := dfin ((bu1 _ h).trans (bu1 _ h1))
theorem dc_59 {c : ByteArray} {p : Nat} (h : gB c p 59) : decode c p = .ok ((.istore_n 0), 1) := dfin (bu1 _ h)
theorem dc_60 {c : ByteArray} {p : Nat} (h : gB c p 60) : decode c p = .ok ((.istore_n 1), 1) := dfin (bu1 _ h)
theorem dc_61 {c : ByteArray} {p : Nat} (h : gB c p 61) : decode c p = .ok ((.istore_n 2), 1) := dfin (bu1 _ h)
theorem dc_62 {c : ByteArray} {p : Nat} (h : gB c p 62) : decode c p = .ok ((.istore_n 3), 1) := dfin (bu1 _ h)
theorem dc_76 {c : ByteArray} {p : Nat} (h : gB c p 76) : decode c p = .ok ((.astore_n 1), 1) := dfin (bu1 _ h)
theorem dc_77 {c : ByteArray} {p : Nat} (h : gB c p 77) : decode c p = .ok ((.astore_n 2), 1) := dfin (bu1 _ h)
theorem dc_78 {c : ByteArray} {p : Nat} (h : gB c p 78) : decode c p = .ok ((.astore_n 3), 1) := dfin (bu1 _ h)
theorem dc_79 {c : ByteArray} {p : Nat} (h : gB c p 79) : decode c p = .ok (.iastore, 1) := dfin (bu1 _ h)
theorem dc_83 {c : ByteArray} {p : Nat} (h : gB c p 83) : decode c p = .ok (.aastore, 1) := dfin (bu1 _ h)
theorem dc_84 {c : ByteArray} {p : Nat} (h : gB c p 84) : decode c p = .ok (.bastore, 1) := dfin (bu1 _ h)
theorem dc_87 {c : ByteArray} {p : Nat} (h : gB c p 87) : decode c p = .ok (.pop, 1) := dfin (bu1 _ h)
theorem dc_89 {c : ByteArray} {p : Nat} (h : gB c p 89) : decode c p = .ok (.dup, 1) := dfin (bu1 _ h)
theorem dc_92 {c : ByteArray} {p : Nat} (h : gB c p 92) : decode c p = .ok (.dup2, 1) := dfin (bu1 _ h)
theorem dc_96 {c : ByteArray} {p : Nat} (h : gB c p 96) : decode c p = .ok (.iadd, 1) := dfin (bu1 _ h)
theorem dc_100 {c : ByteArray} {p : Nat} (h : gB c p 100) : decode c p = .ok (.isub, 1) := dfin (bu1 _ h)
theorem dc_104 {c : ByteArray} {p : Nat} (h : gB c p 104) : decode c p = .ok (.imul, 1) := dfin (bu1 _ h)
theorem dc_108 {c : ByteArray} {p : Nat} (h : gB c p 108) : decode c p = .ok (.idiv, 1) := dfin (bu1 _ h)
theorem dc_112 {c : ByteArray} {p : Nat} (h : gB c p 112) : decode c p = .ok (.irem, 1) := dfin (bu1 _ h)
theorem dc_116 {c : ByteArray} {p : Nat} (h : gB c p 116) : decode c p = .ok (.ineg, 1) := dfin (bu1 _ h)
theorem dc_120 {c : ByteArray} {p : Nat} (h : gB c p 120) : decode c p = .ok (.ishl, 1) := dfin (bu1 _ h)
theorem dc_122 {c : ByteArray} {p : Nat} (h : gB c p 122) : decode c p = .ok (.ishr, 1) := dfin (bu1 _ h)
theorem dc_124 {c : ByteArray} {p : Nat} (h : gB c p 124) : decode c p = .ok (.iushr, 1) := dfin (bu1 _ h)
theorem dc_126 {c : ByteArray} {p : Nat} (h : gB c p 126) : decode c p = .ok (.iand, 1) := dfin (bu1 _ h)
theorem dc_128 {c : ByteArray} {p : Nat} (h : gB c p 128) : decode c p = .ok (.ior, 1) := dfin (bu1 _ h)
theorem dc_130 {c : ByteArray} {p : Nat} (h : gB c p 130) : decode c p = .ok (.ixor, 1) := dfin (bu1 _ h)
theorem dc_132 {c : ByteArray} {p a b : Nat} {v : Int} (h : gB c p 132) (h1 : gB c (p + 1) a) (h2 : gB c (p + 2) b) (e : Jvm.ClassFile.Reader.signed 8 b = v) : decode c p = .ok (.iinc a v, 3) := by
  subst e
  exact dfin ((bu1 _ h).trans ((bu1 _ h1).trans (bs1 _ h2)))
theorem dc_133 {c : ByteArray} {p : Nat} (h : gB c p 133) : decode c p = .ok (.i2l, 1) := dfin (bu1 _ h)
theorem dc_145 {c : ByteArray} {p : Nat} (h : gB c p 145) : decode c p = .ok (.i2b, 1) := dfin (bu1 _ h)
theorem dc_146 {c : ByteArray} {p : Nat} (h : gB c p 146) : decode c p = .ok (.i2c, 1) := dfin (bu1 _ h)
theorem dc_148 {c : ByteArray} {p : Nat} (h : gB c p 148) : decode c p = .ok (.lcmp, 1) := dfin (bu1 _ h)
theorem dc_153 {c : ByteArray} {p a b : Nat} {v : Int} (h : gB c p 153) (h1 : gB c (p + 1) a) (h2 : gB c (p + 2) b) (e : Jvm.ClassFile.Reader.signed 16 (a * 256 + b) = v) : decode c p = .ok ((.ifCond .eq v), 3) := by
  subst e
  exact dfin ((bu1 _ h).trans (bs2 _ h1 h2))
theorem dc_154 {c : ByteArray} {p a b : Nat} {v : Int} (h : gB c p 154) (h1 : gB c (p + 1) a) (h2 : gB c (p + 2) b) (e : Jvm.ClassFile.Reader.signed 16 (a * 256 + b) = v) : decode c p = .ok ((.ifCond .ne v), 3) := by
  subst e
  exact dfin ((bu1 _ h).trans (bs2 _ h1 h2))
theorem dc_155 {c : ByteArray} {p a b : Nat} {v : Int} (h : gB c p 155) (h1 : gB c (p + 1) a) (h2 : gB c (p + 2) b) (e : Jvm.ClassFile.Reader.signed 16 (a * 256 + b) = v) : decode c p = .ok ((.ifCond .lt v), 3) := by
  subst e
  exact dfin ((bu1 _ h).trans (bs2 _ h1 h2))
theorem dc_156 {c : ByteArray} {p a b : Nat} {v : Int} (h : gB c p 156) (h1 : gB c (p + 1) a) (h2 : gB c (p + 2) b) (e : Jvm.ClassFile.Reader.signed 16 (a * 256 + b) = v) : decode c p = .ok ((.ifCond .ge v), 3) := by
  subst e
  exact dfin ((bu1 _ h).trans (bs2 _ h1 h2))
theorem dc_157 {c : ByteArray} {p a b : Nat} {v : Int} (h : gB c p 157) (h1 : gB c (p + 1) a) (h2 : gB c (p + 2) b) (e : Jvm.ClassFile.Reader.signed 16 (a * 256 + b) = v) : decode c p = .ok ((.ifCond .gt v), 3) := by
  subst e
  exact dfin ((bu1 _ h).trans (bs2 _ h1 h2))
theorem dc_158 {c : ByteArray} {p a b : Nat} {v : Int} (h : gB c p 158) (h1 : gB c (p + 1) a) (h2 : gB c (p + 2) b) (e : Jvm.ClassFile.Reader.signed 16 (a * 256 + b) = v) : decode c p = .ok ((.ifCond .le v), 3) := by
  subst e
  exact dfin ((bu1 _ h).trans (bs2 _ h1 h2))
theorem dc_159 {c : ByteArray} {p a b : Nat} {v : Int} (h : gB c p 159) (h1 : gB c (p + 1) a) (h2 : gB c (p + 2) b) (e : Jvm.ClassFile.Reader.signed 16 (a * 256 + b) = v) : decode c p = .ok ((.if_icmp .eq v), 3) := by
  subst e
  exact dfin ((bu1 _ h).trans (bs2 _ h1 h2))
theorem dc_160 {c : ByteArray} {p a b : Nat} {v : Int} (h : gB c p 160) (h1 : gB c (p + 1) a) (h2 : gB c (p + 2) b) (e : Jvm.ClassFile.Reader.signed 16 (a * 256 + b) = v) : decode c p = .ok ((.if_icmp .ne v), 3) := by
  subst e
  exact dfin ((bu1 _ h).trans (bs2 _ h1 h2))
theorem dc_161 {c : ByteArray} {p a b : Nat} {v : Int} (h : gB c p 161) (h1 : gB c (p + 1) a) (h2 : gB c (p + 2) b) (e : Jvm.ClassFile.Reader.signed 16 (a * 256 + b) = v) : decode c p = .ok ((.if_icmp .lt v), 3) := by
  subst e
  exact dfin ((bu1 _ h).trans (bs2 _ h1 h2))
theorem dc_162 {c : ByteArray} {p a b : Nat} {v : Int} (h : gB c p 162) (h1 : gB c (p + 1) a) (h2 : gB c (p + 2) b) (e : Jvm.ClassFile.Reader.signed 16 (a * 256 + b) = v) : decode c p = .ok ((.if_icmp .ge v), 3) := by
  subst e
  exact dfin ((bu1 _ h).trans (bs2 _ h1 h2))
theorem dc_163 {c : ByteArray} {p a b : Nat} {v : Int} (h : gB c p 163) (h1 : gB c (p + 1) a) (h2 : gB c (p + 2) b) (e : Jvm.ClassFile.Reader.signed 16 (a * 256 + b) = v) : decode c p = .ok ((.if_icmp .gt v), 3) := by
  subst e
  exact dfin ((bu1 _ h).trans (bs2 _ h1 h2))
theorem dc_164 {c : ByteArray} {p a b : Nat} {v : Int} (h : gB c p 164) (h1 : gB c (p + 1) a) (h2 : gB c (p + 2) b) (e : Jvm.ClassFile.Reader.signed 16 (a * 256 + b) = v) : decode c p = .ok ((.if_icmp .le v), 3) := by
  subst e
  exact dfin ((bu1 _ h).trans (bs2 _ h1 h2))
theorem dc_167 {c : ByteArray} {p a b : Nat} {v : Int} (h : gB c p 167) (h1 : gB c (p + 1) a) (h2 : gB c (p + 2) b) (e : Jvm.ClassFile.Reader.signed 16 (a * 256 + b) = v) : decode c p = .ok ((.goto v), 3) := by
  subst e
  exact dfin ((bu1 _ h).trans (bs2 _ h1 h2))
theorem dc_172 {c : ByteArray} {p : Nat} (h : gB c p 172) : decode c p = .ok (.ireturn, 1) := dfin (bu1 _ h)
theorem dc_176 {c : ByteArray} {p : Nat} (h : gB c p 176) : decode c p = .ok (.areturn, 1) := dfin (bu1 _ h)
theorem dc_177 {c : ByteArray} {p : Nat} (h : gB c p 177) : decode c p = .ok (.return_, 1) := dfin (bu1 _ h)
theorem dc_178 {c : ByteArray} {p a b v : Nat} (h : gB c p 178) (h1 : gB c (p + 1) a) (h2 : gB c (p + 2) b) (e : a * 256 + b = v) : decode c p = .ok ((.getstatic v), 3) := by
  subst e
  exact dfin ((bu1 _ h).trans (bu2 _ h1 h2))
theorem dc_180 {c : ByteArray} {p a b v : Nat} (h : gB c p 180) (h1 : gB c (p + 1) a) (h2 : gB c (p + 2) b) (e : a * 256 + b = v) : decode c p = .ok ((.getfield v), 3) := by
  subst e
  exact dfin ((bu1 _ h).trans (bu2 _ h1 h2))
theorem dc_181 {c : ByteArray} {p a b v : Nat} (h : gB c p 181) (h1 : gB c (p + 1) a) (h2 : gB c (p + 2) b) (e : a * 256 + b = v) : decode c p = .ok ((.putfield v), 3) := by
  subst e
  exact dfin ((bu1 _ h).trans (bu2 _ h1 h2))
theorem dc_182 {c : ByteArray} {p a b v : Nat} (h : gB c p 182) (h1 : gB c (p + 1) a) (h2 : gB c (p + 2) b) (e : a * 256 + b = v) : decode c p = .ok ((.invokevirtual v), 3) := by
  subst e
  exact dfin ((bu1 _ h).trans (bu2 _ h1 h2))
theorem dc_183 {c : ByteArray} {p a b v : Nat} (h : gB c p 183) (h1 : gB c (p + 1) a) (h2 : gB c (p + 2) b) (e : a * 256 + b = v) : decode c p = .ok ((.invokespecial v), 3) := by
  subst e
  exact dfin ((bu1 _ h).trans (bu2 _ h1 h2))
theorem dc_184 {c : ByteArray} {p a b v : Nat} (h : gB c p 184) (h1 : gB c (p + 1) a) (h2 : gB c (p + 2) b) (e : a * 256 + b = v) : decode c p = .ok ((.invokestatic v), 3) := by
  subst e
  exact dfin ((bu1 _ h).trans (bu2 _ h1 h2))
theorem dc_187 {c : ByteArray} {p a b v : Nat} (h : gB c p 187) (h1 : gB c (p + 1) a) (h2 : gB c (p + 2) b) (e : a * 256 + b = v) : decode c p = .ok ((.new v), 3) := by
  subst e
  exact dfin ((bu1 _ h).trans (bu2 _ h1 h2))
theorem dc_189 {c : ByteArray} {p a b v : Nat} (h : gB c p 189) (h1 : gB c (p + 1) a) (h2 : gB c (p + 2) b) (e : a * 256 + b = v) : decode c p = .ok ((.anewarray v), 3) := by
  subst e
  exact dfin ((bu1 _ h).trans (bu2 _ h1 h2))
theorem dc_190 {c : ByteArray} {p : Nat} (h : gB c p 190) : decode c p = .ok (.arraylength, 1) := dfin (bu1 _ h)
theorem dc_191 {c : ByteArray} {p : Nat} (h : gB c p 191) : decode c p = .ok (.athrow, 1) := dfin (bu1 _ h)
theorem dc_198 {c : ByteArray} {p a b : Nat} {v : Int} (h : gB c p 198) (h1 : gB c (p + 1) a) (h2 : gB c (p + 2) b) (e : Jvm.ClassFile.Reader.signed 16 (a * 256 + b) = v) : decode c p = .ok ((.ifnull v), 3) := by
  subst e
  exact dfin ((bu1 _ h).trans (bs2 _ h1 h2))
theorem dc_199 {c : ByteArray} {p a b : Nat} {v : Int} (h : gB c p 199) (h1 : gB c (p + 1) a) (h2 : gB c (p + 2) b) (e : Jvm.ClassFile.Reader.signed 16 (a * 256 + b) = v) : decode c p = .ok ((.ifnonnull v), 3) := by
  subst e
  exact dfin ((bu1 _ h).trans (bs2 _ h1 h2))
theorem dn_8 {c : ByteArray} {p : Nat} (h : gB c p 188) (h1 : gB c (p + 1) 8) : decode c p = .ok (.newarray .byte, 2) := dfin ((bu1 _ h).trans (bu1 _ h1))
theorem dn_10 {c : ByteArray} {p : Nat} (h : gB c p 188) (h1 : gB c (p + 1) 10) : decode c p = .ok (.newarray .int, 2) := dfin ((bu1 _ h).trans (bu1 _ h1))
