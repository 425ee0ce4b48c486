section RU
variable {g : Gx} {l : Launch} {own : String} {cc : ByteArray} {nL fr lo ce : Nat} {V : VT} {ρ : Type} {P : ρ → Prop} {out out2 : Option ρ} {pc : Nat} {lv lv2 : List (Nat × Value)} {st : List Value} {h : MH}
theorem R_iconst (o : Ok g l own cc nL fr lo ce V) {n : Int} {v : Int32} (d : decode cc pc = .ok (.iconst n, 1)) (hv : Int32.ofInt n = v) (t : T P out (V (pc + 1) lv (.int v :: st) h)) : T P out (V pc lv st h) := by
  obtain ⟨p, e, R, s, m, args, below, meth, c, slots, Q, F, rfl⟩ := o
  intro r er pr H locs ls hP hz hS hl
  exact lv_iconst F.1 F.2.1 d hv (t r er pr H locs ls hP hz hS hl)
theorem R_bipush (o : Ok g l own cc nL fr lo ce V) {n : Int} {v : Int32} (d : decode cc pc = .ok (.bipush n, 2)) (hv : (Int8.ofInt n).toInt32 = v) (t : T P out (V (pc + 2) lv (.int v :: st) h)) : T P out (V pc lv st h) := by
  obtain ⟨p, e, R, s, m, args, below, meth, c, slots, Q, F, rfl⟩ := o
  intro r er pr H locs ls hP hz hS hl
  exact lv_bipush F.1 F.2.1 d hv (t r er pr H locs ls hP hz hS hl)
theorem R_sipush (o : Ok g l own cc nL fr lo ce V) {n : Int} {v : Int32} (d : decode cc pc = .ok (.sipush n, 3)) (hv : (Int16.ofInt n).toInt32 = v) (t : T P out (V (pc + 3) lv (.int v :: st) h)) : T P out (V pc lv st h) := by
  obtain ⟨p, e, R, s, m, args, below, meth, c, slots, Q, F, rfl⟩ := o
  intro r er pr H locs ls hP hz hS hl
  exact lv_sipush F.1 F.2.1 d hv (t r er pr H locs ls hP hz hS hl)
theorem R_lconst (o : Ok g l own cc nL fr lo ce V) {n : Fin 2} {v : Int64} (d : decode cc pc = .ok (.lconst n, 1)) (hv : Int64.ofNat (n : Nat) = v) (t : T P out (V (pc + 1) lv (.long v :: st) h)) : T P out (V pc lv st h) := by
  obtain ⟨p, e, R, s, m, args, below, meth, c, slots, Q, F, rfl⟩ := o
  intro r er pr H locs ls hP hz hS hl
  exact lv_lconst F.1 F.2.1 d hv (t r er pr H locs ls hP hz hS hl)
theorem R_ldc (o : Ok g l own cc nL fr lo ce V) {idx : Nat} {v : Int32} (d : decode cc pc = .ok (.ldc idx, 2)) (hw : Cond.constant own idx v ∈ TB) (t : T P out (V (pc + 2) lv (.int v :: st) h)) : T P out (V pc lv st h) := by
  obtain ⟨p, e, R, s, m, args, below, meth, c, slots, Q, F, rfl⟩ := o
  intro r er pr H locs ls hP hz hS hl
  exact lv_ldc F.1 F.2.1 F.2.2.2.1 (F.2.2.2.2.1 _ hw) d (t r er pr H locs ls hP hz hS hl)
theorem R_ldcw (o : Ok g l own cc nL fr lo ce V) {idx : Nat} {v : Int32} (d : decode cc pc = .ok (.ldc_w idx, 3)) (hw : Cond.constant own idx v ∈ TB) (t : T P out (V (pc + 3) lv (.int v :: st) h)) : T P out (V pc lv st h) := by
  obtain ⟨p, e, R, s, m, args, below, meth, c, slots, Q, F, rfl⟩ := o
  intro r er pr H locs ls hP hz hS hl
  exact lv_ldcw F.1 F.2.1 F.2.2.2.1 (F.2.2.2.2.1 _ hw) d (t r er pr H locs ls hP hz hS hl)
theorem R_ldc2 (o : Ok g l own cc nL fr lo ce V) {idx : Nat} {v : Int64} (d : decode cc pc = .ok (.ldc2_w idx, 3)) (hw : Cond.constantLong own idx v ∈ TB) (t : T P out (V (pc + 3) lv (.long v :: st) h)) : T P out (V pc lv st h) := by
  obtain ⟨p, e, R, s, m, args, below, meth, c, slots, Q, F, rfl⟩ := o
  intro r er pr H locs ls hP hz hS hl
  exact lv_ldc2 F.1 F.2.1 F.2.2.2.1 (F.2.2.2.2.1 _ hw) d (t r er pr H locs ls hP hz hS hl)
theorem R_iload_n (o : Ok g l own cc nL fr lo ce V) {k : Fin 4} {i : Nat} {x : Int32} (j : Nat) (d : decode cc pc = .ok (.iload_n k, 1)) (hi : (k : Nat) = i) (hk : lv[j]? = some (i, .int x)) (t : T P out (V (pc + 1) lv (.int x :: st) h)) : T P out (V pc lv st h) := by
  obtain ⟨p, e, R, s, m, args, below, meth, c, slots, Q, F, rfl⟩ := o
  intro r er pr H locs ls hP hz hS hl
  exact lv_iload_n F.1 F.2.1 d hi (lv_at hl j hk) (t r er pr H locs ls hP hz hS hl)
theorem R_iload (o : Ok g l own cc nL fr lo ce V) {i : Nat} {x : Int32} (j : Nat) (d : decode cc pc = .ok (.iload i, 2)) (hk : lv[j]? = some (i, .int x)) (t : T P out (V (pc + 2) lv (.int x :: st) h)) : T P out (V pc lv st h) := by
  obtain ⟨p, e, R, s, m, args, below, meth, c, slots, Q, F, rfl⟩ := o
  intro r er pr H locs ls hP hz hS hl
  exact lv_iload F.1 F.2.1 d (lv_at hl j hk) (t r er pr H locs ls hP hz hS hl)
theorem R_lload_n (o : Ok g l own cc nL fr lo ce V) {k : Fin 4} {i : Nat} {x : Int64} (j : Nat) (d : decode cc pc = .ok (.lload_n k, 1)) (hi : (k : Nat) = i) (hk : lv[j]? = some (i, .long x)) (t : T P out (V (pc + 1) lv (.long x :: st) h)) : T P out (V pc lv st h) := by
  obtain ⟨p, e, R, s, m, args, below, meth, c, slots, Q, F, rfl⟩ := o
  intro r er pr H locs ls hP hz hS hl
  exact lv_lload_n F.1 F.2.1 d hi (lv_at hl j hk) (t r er pr H locs ls hP hz hS hl)
theorem R_lload (o : Ok g l own cc nL fr lo ce V) {i : Nat} {x : Int64} (j : Nat) (d : decode cc pc = .ok (.lload i, 2)) (hk : lv[j]? = some (i, .long x)) (t : T P out (V (pc + 2) lv (.long x :: st) h)) : T P out (V pc lv st h) := by
  obtain ⟨p, e, R, s, m, args, below, meth, c, slots, Q, F, rfl⟩ := o
  intro r er pr H locs ls hP hz hS hl
  exact lv_lload F.1 F.2.1 d (lv_at hl j hk) (t r er pr H locs ls hP hz hS hl)
theorem R_aload_n (o : Ok g l own cc nL fr lo ce V) {k : Fin 4} {i x : Nat} (j : Nat) (d : decode cc pc = .ok (.aload_n k, 1)) (hi : (k : Nat) = i) (hk : lv[j]? = some (i, rA g x)) (t : T P out (V (pc + 1) lv (rA g x :: st) h)) : T P out (V pc lv st h) := by
  obtain ⟨p, e, R, s, m, args, below, meth, c, slots, Q, F, rfl⟩ := o
  intro r er pr H locs ls hP hz hS hl
  exact lv_aload_n F.1 F.2.1 d hi (lv_at hl j hk) (t r er pr H locs ls hP hz hS hl)
theorem R_aload (o : Ok g l own cc nL fr lo ce V) {i x : Nat} (j : Nat) (d : decode cc pc = .ok (.aload i, 2)) (hk : lv[j]? = some (i, rA g x)) (t : T P out (V (pc + 2) lv (rA g x :: st) h)) : T P out (V pc lv st h) := by
  obtain ⟨p, e, R, s, m, args, below, meth, c, slots, Q, F, rfl⟩ := o
  intro r er pr H locs ls hP hz hS hl
  exact lv_aload F.1 F.2.1 d (lv_at hl j hk) (t r er pr H locs ls hP hz hS hl)
theorem R_istore_n (o : Ok g l own cc nL fr lo ce V) {k : Fin 4} {i : Nat} {x : Int32} (d : decode cc pc = .ok (.istore_n k, 1)) (hi : (k : Nat) = i) (hn : i < nL) (hl2 : lvset i 1 (.int x) lv = lv2) (t : T P out (V (pc + 1) lv2 st h)) : T P out (V pc lv (.int x :: st) h) := by
  subst hl2
  obtain ⟨p, e, R, s, m, args, below, meth, c, slots, Q, F, rfl⟩ := o
  intro r er pr H locs ls hP hz hS hl
  exact lv_istore_n F.1 F.2.1 d hi hl hn rfl (fun ls2 hl3 => t r er pr H locs ls2 hP hz hS (lvset_1 hl3))
theorem R_istore (o : Ok g l own cc nL fr lo ce V) {i : Nat} {x : Int32} (d : decode cc pc = .ok (.istore i, 2))  (hn : i < nL) (hl2 : lvset i 1 (.int x) lv = lv2) (t : T P out (V (pc + 2) lv2 st h)) : T P out (V pc lv (.int x :: st) h) := by
  subst hl2
  obtain ⟨p, e, R, s, m, args, below, meth, c, slots, Q, F, rfl⟩ := o
  intro r er pr H locs ls hP hz hS hl
  exact lv_istore F.1 F.2.1 d hl hn rfl (fun ls2 hl3 => t r er pr H locs ls2 hP hz hS (lvset_1 hl3))
theorem R_lstore_n (o : Ok g l own cc nL fr lo ce V) {k : Fin 4} {i : Nat} {x : Int64} (d : decode cc pc = .ok (.lstore_n k, 1)) (hi : (k : Nat) = i) (hn : i + 1 < nL) (hl2 : lvset i 2 (.long x) lv = lv2) (t : T P out (V (pc + 1) lv2 st h)) : T P out (V pc lv (.long x :: st) h) := by
  subst hl2
  obtain ⟨p, e, R, s, m, args, below, meth, c, slots, Q, F, rfl⟩ := o
  intro r er pr H locs ls hP hz hS hl
  exact lv_lstore_n F.1 F.2.1 d hi hl hn rfl (fun ls2 hl3 => t r er pr H locs ls2 hP hz hS (lvset_2 hl3))
theorem R_lstore (o : Ok g l own cc nL fr lo ce V) {i : Nat} {x : Int64} (d : decode cc pc = .ok (.lstore i, 2))  (hn : i + 1 < nL) (hl2 : lvset i 2 (.long x) lv = lv2) (t : T P out (V (pc + 2) lv2 st h)) : T P out (V pc lv (.long x :: st) h) := by
  subst hl2
  obtain ⟨p, e, R, s, m, args, below, meth, c, slots, Q, F, rfl⟩ := o
  intro r er pr H locs ls hP hz hS hl
  exact lv_lstore F.1 F.2.1 d hl hn rfl (fun ls2 hl3 => t r er pr H locs ls2 hP hz hS (lvset_2 hl3))
theorem R_astore_n (o : Ok g l own cc nL fr lo ce V) {k : Fin 4} {i x : Nat} (d : decode cc pc = .ok (.astore_n k, 1)) (hi : (k : Nat) = i) (hn : i < nL) (hl2 : lvset i 1 (rA g x) lv = lv2) (t : T P out (V (pc + 1) lv2 st h)) : T P out (V pc lv (rA g x :: st) h) := by
  subst hl2
  obtain ⟨p, e, R, s, m, args, below, meth, c, slots, Q, F, rfl⟩ := o
  intro r er pr H locs ls hP hz hS hl
  exact lv_astore_n F.1 F.2.1 d hi hl hn rfl (fun ls2 hl3 => t r er pr H locs ls2 hP hz hS (lvset_1 hl3))
theorem R_astore (o : Ok g l own cc nL fr lo ce V) {i x : Nat} (d : decode cc pc = .ok (.astore i, 2))  (hn : i < nL) (hl2 : lvset i 1 (rA g x) lv = lv2) (t : T P out (V (pc + 2) lv2 st h)) : T P out (V pc lv (rA g x :: st) h) := by
  subst hl2
  obtain ⟨p, e, R, s, m, args, below, meth, c, slots, Q, F, rfl⟩ := o
  intro r er pr H locs ls hP hz hS hl
  exact lv_astore F.1 F.2.1 d hl hn rfl (fun ls2 hl3 => t r er pr H locs ls2 hP hz hS (lvset_1 hl3))
theorem R_iinc (o : Ok g l own cc nL fr lo ce V) {i : Nat} {n : Int} {x v : Int32} (j : Nat) (d : decode cc pc = .ok (.iinc i n, 3)) (hk : lv[j]? = some (i, .int x)) (hv : x + Int32.ofInt n = v) (hn : i < nL) (hl2 : lvset i 1 (.int v) lv = lv2) (t : T P out (V (pc + 3) lv2 st h)) : T P out (V pc lv st h) := by
  subst hl2
  obtain ⟨p, e, R, s, m, args, below, meth, c, slots, Q, F, rfl⟩ := o
  intro r er pr H locs ls hP hz hS hl
  exact lv_iinc F.1 F.2.1 d hl hk hv hn rfl (fun ls2 hl3 => t r er pr H locs ls2 hP hz hS (lvset_1 hl3))
theorem R_drop (o : Ok g l own cc nL fr lo ce V) (ks : List Nat) (hl2 : lv_pick lv ks = lv2) (t : T P out (V pc lv2 st h)) : T P out (V pc lv st h) := by
  obtain ⟨p, e, R, s, m, args, below, meth, c, slots, Q, F, rfl⟩ := o
  intro r er pr H locs ls hP hz hS hl
  exact t r er pr H locs ls hP hz hS (lv_sub hl ks hl2)
theorem R_iadd (o : Ok g l own cc nL fr lo ce V) {x y : Int32} (d : decode cc pc = .ok (.iadd, 1))  (t : T P out (V (pc + 1) lv (.int (x + y) :: st) h)) : T P out (V pc lv (.int y :: .int x :: st) h) := by
  obtain ⟨p, e, R, s, m, args, below, meth, c, slots, Q, F, rfl⟩ := o
  intro r er pr H locs ls hP hz hS hl
  exact lv_iadd F.1 F.2.1 d (t r er pr H locs ls hP hz hS hl)
theorem R_isub (o : Ok g l own cc nL fr lo ce V) {x y : Int32} (d : decode cc pc = .ok (.isub, 1))  (t : T P out (V (pc + 1) lv (.int (x - y) :: st) h)) : T P out (V pc lv (.int y :: .int x :: st) h) := by
  obtain ⟨p, e, R, s, m, args, below, meth, c, slots, Q, F, rfl⟩ := o
  intro r er pr H locs ls hP hz hS hl
  exact lv_isub F.1 F.2.1 d (t r er pr H locs ls hP hz hS hl)
theorem R_imul (o : Ok g l own cc nL fr lo ce V) {x y : Int32} (d : decode cc pc = .ok (.imul, 1))  (t : T P out (V (pc + 1) lv (.int (x * y) :: st) h)) : T P out (V pc lv (.int y :: .int x :: st) h) := by
  obtain ⟨p, e, R, s, m, args, below, meth, c, slots, Q, F, rfl⟩ := o
  intro r er pr H locs ls hP hz hS hl
  exact lv_imul F.1 F.2.1 d (t r er pr H locs ls hP hz hS hl)
theorem R_iand (o : Ok g l own cc nL fr lo ce V) {x y : Int32} (d : decode cc pc = .ok (.iand, 1))  (t : T P out (V (pc + 1) lv (.int (x &&& y) :: st) h)) : T P out (V pc lv (.int y :: .int x :: st) h) := by
  obtain ⟨p, e, R, s, m, args, below, meth, c, slots, Q, F, rfl⟩ := o
  intro r er pr H locs ls hP hz hS hl
  exact lv_iand F.1 F.2.1 d (t r er pr H locs ls hP hz hS hl)
theorem R_ior (o : Ok g l own cc nL fr lo ce V) {x y : Int32} (d : decode cc pc = .ok (.ior, 1))  (t : T P out (V (pc + 1) lv (.int (x ||| y) :: st) h)) : T P out (V pc lv (.int y :: .int x :: st) h) := by
  obtain ⟨p, e, R, s, m, args, below, meth, c, slots, Q, F, rfl⟩ := o
  intro r er pr H locs ls hP hz hS hl
  exact lv_ior F.1 F.2.1 d (t r er pr H locs ls hP hz hS hl)
theorem R_ixor (o : Ok g l own cc nL fr lo ce V) {x y : Int32} (d : decode cc pc = .ok (.ixor, 1))  (t : T P out (V (pc + 1) lv (.int (x ^^^ y) :: st) h)) : T P out (V pc lv (.int y :: .int x :: st) h) := by
  obtain ⟨p, e, R, s, m, args, below, meth, c, slots, Q, F, rfl⟩ := o
  intro r er pr H locs ls hP hz hS hl
  exact lv_ixor F.1 F.2.1 d (t r er pr H locs ls hP hz hS hl)
theorem R_ishl (o : Ok g l own cc nL fr lo ce V) {x y : Int32} (d : decode cc pc = .ok (.ishl, 1))  (t : T P out (V (pc + 1) lv (.int (shl x y) :: st) h)) : T P out (V pc lv (.int y :: .int x :: st) h) := by
  obtain ⟨p, e, R, s, m, args, below, meth, c, slots, Q, F, rfl⟩ := o
  intro r er pr H locs ls hP hz hS hl
  exact lv_ishl F.1 F.2.1 d (t r er pr H locs ls hP hz hS hl)
theorem R_ishr (o : Ok g l own cc nL fr lo ce V) {x y : Int32} (d : decode cc pc = .ok (.ishr, 1))  (t : T P out (V (pc + 1) lv (.int (shr x y) :: st) h)) : T P out (V pc lv (.int y :: .int x :: st) h) := by
  obtain ⟨p, e, R, s, m, args, below, meth, c, slots, Q, F, rfl⟩ := o
  intro r er pr H locs ls hP hz hS hl
  exact lv_ishr F.1 F.2.1 d (t r er pr H locs ls hP hz hS hl)
theorem R_iushr (o : Ok g l own cc nL fr lo ce V) {x y : Int32} (d : decode cc pc = .ok (.iushr, 1))  (t : T P out (V (pc + 1) lv (.int (ushr x y) :: st) h)) : T P out (V pc lv (.int y :: .int x :: st) h) := by
  obtain ⟨p, e, R, s, m, args, below, meth, c, slots, Q, F, rfl⟩ := o
  intro r er pr H locs ls hP hz hS hl
  exact lv_iushr F.1 F.2.1 d rfl (t r er pr H locs ls hP hz hS hl)
theorem R_ladd (o : Ok g l own cc nL fr lo ce V) {x y : Int64} (d : decode cc pc = .ok (.ladd, 1))  (t : T P out (V (pc + 1) lv (.long (x + y) :: st) h)) : T P out (V pc lv (.long y :: .long x :: st) h) := by
  obtain ⟨p, e, R, s, m, args, below, meth, c, slots, Q, F, rfl⟩ := o
  intro r er pr H locs ls hP hz hS hl
  exact lv_ladd F.1 F.2.1 d (t r er pr H locs ls hP hz hS hl)
theorem R_lsub (o : Ok g l own cc nL fr lo ce V) {x y : Int64} (d : decode cc pc = .ok (.lsub, 1))  (t : T P out (V (pc + 1) lv (.long (x - y) :: st) h)) : T P out (V pc lv (.long y :: .long x :: st) h) := by
  obtain ⟨p, e, R, s, m, args, below, meth, c, slots, Q, F, rfl⟩ := o
  intro r er pr H locs ls hP hz hS hl
  exact lv_lsub F.1 F.2.1 d (t r er pr H locs ls hP hz hS hl)
theorem R_lmul (o : Ok g l own cc nL fr lo ce V) {x y : Int64} (d : decode cc pc = .ok (.lmul, 1))  (t : T P out (V (pc + 1) lv (.long (x * y) :: st) h)) : T P out (V pc lv (.long y :: .long x :: st) h) := by
  obtain ⟨p, e, R, s, m, args, below, meth, c, slots, Q, F, rfl⟩ := o
  intro r er pr H locs ls hP hz hS hl
  exact lv_lmul F.1 F.2.1 d (t r er pr H locs ls hP hz hS hl)
theorem R_ineg (o : Ok g l own cc nL fr lo ce V) {x : Int32} (d : decode cc pc = .ok (.ineg, 1))  (t : T P out (V (pc + 1) lv (.int (-x) :: st) h)) : T P out (V pc lv (.int x :: st) h) := by
  obtain ⟨p, e, R, s, m, args, below, meth, c, slots, Q, F, rfl⟩ := o
  intro r er pr H locs ls hP hz hS hl
  exact lv_ineg F.1 F.2.1 d (t r er pr H locs ls hP hz hS hl)
theorem R_lneg (o : Ok g l own cc nL fr lo ce V) {x : Int64} (d : decode cc pc = .ok (.lneg, 1))  (t : T P out (V (pc + 1) lv (.long (-x) :: st) h)) : T P out (V pc lv (.long x :: st) h) := by
  obtain ⟨p, e, R, s, m, args, below, meth, c, slots, Q, F, rfl⟩ := o
  intro r er pr H locs ls hP hz hS hl
  exact lv_lneg F.1 F.2.1 d (t r er pr H locs ls hP hz hS hl)
theorem R_lshl (o : Ok g l own cc nL fr lo ce V) {x : Int64} {y : Int32} (d : decode cc pc = .ok (.lshl, 1))  (t : T P out (V (pc + 1) lv (.long (lshl x y) :: st) h)) : T P out (V pc lv (.int y :: .long x :: st) h) := by
  obtain ⟨p, e, R, s, m, args, below, meth, c, slots, Q, F, rfl⟩ := o
  intro r er pr H locs ls hP hz hS hl
  exact lv_lshl F.1 F.2.1 d rfl (t r er pr H locs ls hP hz hS hl)
theorem R_i2l (o : Ok g l own cc nL fr lo ce V) {x : Int32} (d : decode cc pc = .ok (.i2l, 1))  (t : T P out (V (pc + 1) lv (.long x.toInt64 :: st) h)) : T P out (V pc lv (.int x :: st) h) := by
  obtain ⟨p, e, R, s, m, args, below, meth, c, slots, Q, F, rfl⟩ := o
  intro r er pr H locs ls hP hz hS hl
  exact lv_i2l F.1 F.2.1 d rfl (t r er pr H locs ls hP hz hS hl)
theorem R_l2i (o : Ok g l own cc nL fr lo ce V) {x : Int64} (d : decode cc pc = .ok (.l2i, 1))  (t : T P out (V (pc + 1) lv (.int x.toInt32 :: st) h)) : T P out (V pc lv (.long x :: st) h) := by
  obtain ⟨p, e, R, s, m, args, below, meth, c, slots, Q, F, rfl⟩ := o
  intro r er pr H locs ls hP hz hS hl
  exact lv_l2i F.1 F.2.1 d rfl (t r er pr H locs ls hP hz hS hl)
theorem R_i2b (o : Ok g l own cc nL fr lo ce V) {x : Int32} (d : decode cc pc = .ok (.i2b, 1))  (t : T P out (V (pc + 1) lv (.int x.toInt8.toInt32 :: st) h)) : T P out (V pc lv (.int x :: st) h) := by
  obtain ⟨p, e, R, s, m, args, below, meth, c, slots, Q, F, rfl⟩ := o
  intro r er pr H locs ls hP hz hS hl
  exact lv_i2b F.1 F.2.1 d rfl (t r er pr H locs ls hP hz hS hl)
theorem R_dup (o : Ok g l own cc nL fr lo ce V) {a : Value} (d : decode cc pc = .ok (.dup, 1)) (ha : a.category = 1) (t : T P out (V (pc + 1) lv (a :: a :: st) h)) : T P out (V pc lv (a :: st) h) := by
  obtain ⟨p, e, R, s, m, args, below, meth, c, slots, Q, F, rfl⟩ := o
  intro r er pr H locs ls hP hz hS hl
  exact lv_dup F.1 F.2.1 d ha (t r er pr H locs ls hP hz hS hl)
theorem R_dup2 (o : Ok g l own cc nL fr lo ce V) {a b : Value} (d : decode cc pc = .ok (.dup2, 1)) (ha : a.category = 1) (hb : b.category = 1) (t : T P out (V (pc + 1) lv (a :: b :: a :: b :: st) h)) : T P out (V pc lv (a :: b :: st) h) := by
  obtain ⟨p, e, R, s, m, args, below, meth, c, slots, Q, F, rfl⟩ := o
  intro r er pr H locs ls hP hz hS hl
  exact lv_dup2_11 F.1 F.2.1 d ha hb (t r er pr H locs ls hP hz hS hl)
theorem R_pop (o : Ok g l own cc nL fr lo ce V) {a : Value} (d : decode cc pc = .ok (.pop, 1)) (ha : a.category = 1) (t : T P out (V (pc + 1) lv st h)) : T P out (V pc lv (a :: st) h) := by
  obtain ⟨p, e, R, s, m, args, below, meth, c, slots, Q, F, rfl⟩ := o
  intro r er pr H locs ls hP hz hS hl
  exact lv_pop F.1 F.2.1 d ha (t r er pr H locs ls hP hz hS hl)
theorem R_idiv_c (o : Ok g l own cc nL fr lo ce V) {x y : Int32} (d : decode cc pc = .ok (.idiv, 1)) (hy : ¬ y = 0) (t : T P out (V (pc + 1) lv (.int (x / y) :: st) h)) : T P out (V pc lv (.int y :: .int x :: st) h) := by
  obtain ⟨p, e, R, s, m, args, below, meth, c, slots, Q, F, rfl⟩ := o
  intro r er pr H locs ls hP hz hS hl
  exact lv_idiv F.1 F.2.1 d hy (t r er pr H locs ls hP hz hS hl)
theorem R_idiv (o : Ok g l own cc nL fr lo ce V) {x y : Int32} (d : decode cc pc = .ok (.idiv, 1)) (t : T P out (V (pc + 1) lv (.int (x / y) :: st) h)) : T P (gd (nz y) out) (V pc lv (.int y :: .int x :: st) h) :=
  T_gd (fun q => R_idiv_c o d (of_decide_eq_true q) t)
theorem R_irem_c (o : Ok g l own cc nL fr lo ce V) {x y : Int32} (d : decode cc pc = .ok (.irem, 1)) (hy : ¬ y = 0) (t : T P out (V (pc + 1) lv (.int (irm x y) :: st) h)) : T P out (V pc lv (.int y :: .int x :: st) h) := by
  obtain ⟨p, e, R, s, m, args, below, meth, c, slots, Q, F, rfl⟩ := o
  intro r er pr H locs ls hP hz hS hl
  exact lv_irem F.1 F.2.1 d hy (t r er pr H locs ls hP hz hS hl)
theorem R_irem (o : Ok g l own cc nL fr lo ce V) {x y : Int32} (d : decode cc pc = .ok (.irem, 1)) (t : T P out (V (pc + 1) lv (.int (irm x y) :: st) h)) : T P (gd (nz y) out) (V pc lv (.int y :: .int x :: st) h) :=
  T_gd (fun q => R_irem_c o d (of_decide_eq_true q) t)
theorem R_ldiv_c (o : Ok g l own cc nL fr lo ce V) {x y : Int64} (d : decode cc pc = .ok (.ldiv, 1)) (hy : ¬ y = 0) (t : T P out (V (pc + 1) lv (.long (x / y) :: st) h)) : T P out (V pc lv (.long y :: .long x :: st) h) := by
  obtain ⟨p, e, R, s, m, args, below, meth, c, slots, Q, F, rfl⟩ := o
  intro r er pr H locs ls hP hz hS hl
  exact lv_ldiv F.1 F.2.1 d hy (t r er pr H locs ls hP hz hS hl)
theorem R_ldiv (o : Ok g l own cc nL fr lo ce V) {x y : Int64} (d : decode cc pc = .ok (.ldiv, 1)) (t : T P out (V (pc + 1) lv (.long (x / y) :: st) h)) : T P (gd (nzL y) out) (V pc lv (.long y :: .long x :: st) h) :=
  T_gd (fun q => R_ldiv_c o d (of_decide_eq_true q) t)
theorem R_lrem_c (o : Ok g l own cc nL fr lo ce V) {x y : Int64} (d : decode cc pc = .ok (.lrem, 1)) (hy : ¬ y = 0) (t : T P out (V (pc + 1) lv (.long (lrm x y) :: st) h)) : T P out (V pc lv (.long y :: .long x :: st) h) := by
  obtain ⟨p, e, R, s, m, args, below, meth, c, slots, Q, F, rfl⟩ := o
  intro r er pr H locs ls hP hz hS hl
  exact lv_lrem F.1 F.2.1 d hy (t r er pr H locs ls hP hz hS hl)
theorem R_lrem (o : Ok g l own cc nL fr lo ce V) {x y : Int64} (d : decode cc pc = .ok (.lrem, 1)) (t : T P out (V (pc + 1) lv (.long (lrm x y) :: st) h)) : T P (gd (nzL y) out) (V pc lv (.long y :: .long x :: st) h) :=
  T_gd (fun q => R_lrem_c o d (of_decide_eq_true q) t)
theorem R_goto (o : Ok g l own cc nL fr lo ce V) {off : Int} (tgt : Nat) (d : decode cc pc = .ok (.goto off, 3)) (ht : (pc : Int) + off = (tgt : Int)) (t : T P out (V tgt lv st h)) : T P out (V pc lv st h) := by
  obtain ⟨p, e, R, s, m, args, below, meth, c, slots, Q, F, rfl⟩ := o
  intro r er pr H locs ls hP hz hS hl
  exact lv_goto F.1 F.2.1 d ht (t r er pr H locs ls hP hz hS hl)
theorem R_if_eq (o : Ok g l own cc nL fr lo ce V) {x : Int32} {off : Int} (tgt : Nat) (d : decode cc pc = .ok (.ifCond .eq off, 3)) (ht : (pc : Int) + off = (tgt : Int)) (t : T P out (V tgt lv st h)) (f : T P out2 (V (pc + 3) lv st h)) : T P (if x = 0 then out else out2) (V pc lv (.int x :: st) h) := by
  obtain ⟨p, e, R, s, m, args, below, meth, c, slots, Q, F, rfl⟩ := o
  refine T_ite (fun q => ?_) (fun q => ?_)
  · intro r er pr H locs ls hP hz hS hl
    exact lv_if_eq F.1 F.2.1 d ht (fun _ => t r er pr H locs ls hP hz hS hl) (fun z => absurd (q) z)
  · intro r er pr H locs ls hP hz hS hl
    exact lv_if_eq F.1 F.2.1 d ht (fun z => absurd z (q)) (fun _ => f r er pr H locs ls hP hz hS hl)
theorem R_if_ne (o : Ok g l own cc nL fr lo ce V) {x : Int32} {off : Int} (tgt : Nat) (d : decode cc pc = .ok (.ifCond .ne off, 3)) (ht : (pc : Int) + off = (tgt : Int)) (t : T P out (V (pc + 3) lv st h)) (f : T P out2 (V tgt lv st h)) : T P (if x = 0 then out else out2) (V pc lv (.int x :: st) h) := by
  obtain ⟨p, e, R, s, m, args, below, meth, c, slots, Q, F, rfl⟩ := o
  refine T_ite (fun q => ?_) (fun q => ?_)
  · intro r er pr H locs ls hP hz hS hl
    exact lv_if_ne F.1 F.2.1 d ht (fun z => absurd z (fun z => z q)) (fun _ => t r er pr H locs ls hP hz hS hl)
  · intro r er pr H locs ls hP hz hS hl
    exact lv_if_ne F.1 F.2.1 d ht (fun _ => f r er pr H locs ls hP hz hS hl) (fun z => absurd z (q))
theorem R_if_lt (o : Ok g l own cc nL fr lo ce V) {x : Int32} {off : Int} (tgt : Nat) (d : decode cc pc = .ok (.ifCond .lt off, 3)) (ht : (pc : Int) + off = (tgt : Int)) (t : T P out (V tgt lv st h)) (f : T P out2 (V (pc + 3) lv st h)) : T P (if x < 0 then out else out2) (V pc lv (.int x :: st) h) := by
  obtain ⟨p, e, R, s, m, args, below, meth, c, slots, Q, F, rfl⟩ := o
  refine T_ite (fun q => ?_) (fun q => ?_)
  · intro r er pr H locs ls hP hz hS hl
    exact lv_if_lt F.1 F.2.1 d ht (fun _ => t r er pr H locs ls hP hz hS hl) (fun z => absurd (q) z)
  · intro r er pr H locs ls hP hz hS hl
    exact lv_if_lt F.1 F.2.1 d ht (fun z => absurd z (q)) (fun _ => f r er pr H locs ls hP hz hS hl)
theorem R_if_ge (o : Ok g l own cc nL fr lo ce V) {x : Int32} {off : Int} (tgt : Nat) (d : decode cc pc = .ok (.ifCond .ge off, 3)) (ht : (pc : Int) + off = (tgt : Int)) (t : T P out (V (pc + 3) lv st h)) (f : T P out2 (V tgt lv st h)) : T P (if x < 0 then out else out2) (V pc lv (.int x :: st) h) := by
  obtain ⟨p, e, R, s, m, args, below, meth, c, slots, Q, F, rfl⟩ := o
  refine T_ite (fun q => ?_) (fun q => ?_)
  · intro r er pr H locs ls hP hz hS hl
    exact lv_if_ge F.1 F.2.1 d ht (fun z => absurd z (Int32.not_le.mpr q)) (fun _ => t r er pr H locs ls hP hz hS hl)
  · intro r er pr H locs ls hP hz hS hl
    exact lv_if_ge F.1 F.2.1 d ht (fun _ => f r er pr H locs ls hP hz hS hl) (fun z => absurd (Int32.not_lt.mp q) z)
theorem R_if_gt (o : Ok g l own cc nL fr lo ce V) {x : Int32} {off : Int} (tgt : Nat) (d : decode cc pc = .ok (.ifCond .gt off, 3)) (ht : (pc : Int) + off = (tgt : Int)) (t : T P out (V tgt lv st h)) (f : T P out2 (V (pc + 3) lv st h)) : T P (if 0 < x then out else out2) (V pc lv (.int x :: st) h) := by
  obtain ⟨p, e, R, s, m, args, below, meth, c, slots, Q, F, rfl⟩ := o
  refine T_ite (fun q => ?_) (fun q => ?_)
  · intro r er pr H locs ls hP hz hS hl
    exact lv_if_gt F.1 F.2.1 d ht (fun _ => t r er pr H locs ls hP hz hS hl) (fun z => absurd (q) z)
  · intro r er pr H locs ls hP hz hS hl
    exact lv_if_gt F.1 F.2.1 d ht (fun z => absurd z (q)) (fun _ => f r er pr H locs ls hP hz hS hl)
theorem R_if_le (o : Ok g l own cc nL fr lo ce V) {x : Int32} {off : Int} (tgt : Nat) (d : decode cc pc = .ok (.ifCond .le off, 3)) (ht : (pc : Int) + off = (tgt : Int)) (t : T P out (V (pc + 3) lv st h)) (f : T P out2 (V tgt lv st h)) : T P (if 0 < x then out else out2) (V pc lv (.int x :: st) h) := by
  obtain ⟨p, e, R, s, m, args, below, meth, c, slots, Q, F, rfl⟩ := o
  refine T_ite (fun q => ?_) (fun q => ?_)
  · intro r er pr H locs ls hP hz hS hl
    exact lv_if_le F.1 F.2.1 d ht (fun z => absurd z (Int32.not_le.mpr q)) (fun _ => t r er pr H locs ls hP hz hS hl)
  · intro r er pr H locs ls hP hz hS hl
    exact lv_if_le F.1 F.2.1 d ht (fun _ => f r er pr H locs ls hP hz hS hl) (fun z => absurd (Int32.not_lt.mp q) z)
theorem R_icmp_eq (o : Ok g l own cc nL fr lo ce V) {x y : Int32} {off : Int} (tgt : Nat) (d : decode cc pc = .ok (.if_icmp .eq off, 3)) (ht : (pc : Int) + off = (tgt : Int)) (t : T P out (V tgt lv st h)) (f : T P out2 (V (pc + 3) lv st h)) : T P (if x = y then out else out2) (V pc lv (.int y :: .int x :: st) h) := by
  obtain ⟨p, e, R, s, m, args, below, meth, c, slots, Q, F, rfl⟩ := o
  refine T_ite (fun q => ?_) (fun q => ?_)
  · intro r er pr H locs ls hP hz hS hl
    exact lv_icmp_eq F.1 F.2.1 d ht (fun _ => t r er pr H locs ls hP hz hS hl) (fun z => absurd (q) z)
  · intro r er pr H locs ls hP hz hS hl
    exact lv_icmp_eq F.1 F.2.1 d ht (fun z => absurd z (q)) (fun _ => f r er pr H locs ls hP hz hS hl)
theorem R_icmp_ne (o : Ok g l own cc nL fr lo ce V) {x y : Int32} {off : Int} (tgt : Nat) (d : decode cc pc = .ok (.if_icmp .ne off, 3)) (ht : (pc : Int) + off = (tgt : Int)) (t : T P out (V (pc + 3) lv st h)) (f : T P out2 (V tgt lv st h)) : T P (if x = y then out else out2) (V pc lv (.int y :: .int x :: st) h) := by
  obtain ⟨p, e, R, s, m, args, below, meth, c, slots, Q, F, rfl⟩ := o
  refine T_ite (fun q => ?_) (fun q => ?_)
  · intro r er pr H locs ls hP hz hS hl
    exact lv_icmp_ne F.1 F.2.1 d ht (fun z => absurd z (fun z => z q)) (fun _ => t r er pr H locs ls hP hz hS hl)
  · intro r er pr H locs ls hP hz hS hl
    exact lv_icmp_ne F.1 F.2.1 d ht (fun _ => f r er pr H locs ls hP hz hS hl) (fun z => absurd z (q))
theorem R_icmp_lt (o : Ok g l own cc nL fr lo ce V) {x y : Int32} {off : Int} (tgt : Nat) (d : decode cc pc = .ok (.if_icmp .lt off, 3)) (ht : (pc : Int) + off = (tgt : Int)) (t : T P out (V tgt lv st h)) (f : T P out2 (V (pc + 3) lv st h)) : T P (if x < y then out else out2) (V pc lv (.int y :: .int x :: st) h) := by
  obtain ⟨p, e, R, s, m, args, below, meth, c, slots, Q, F, rfl⟩ := o
  refine T_ite (fun q => ?_) (fun q => ?_)
  · intro r er pr H locs ls hP hz hS hl
    exact lv_icmp_lt F.1 F.2.1 d ht (fun _ => t r er pr H locs ls hP hz hS hl) (fun z => absurd (q) z)
  · intro r er pr H locs ls hP hz hS hl
    exact lv_icmp_lt F.1 F.2.1 d ht (fun z => absurd z (q)) (fun _ => f r er pr H locs ls hP hz hS hl)
theorem R_icmp_ge (o : Ok g l own cc nL fr lo ce V) {x y : Int32} {off : Int} (tgt : Nat) (d : decode cc pc = .ok (.if_icmp .ge off, 3)) (ht : (pc : Int) + off = (tgt : Int)) (t : T P out (V (pc + 3) lv st h)) (f : T P out2 (V tgt lv st h)) : T P (if x < y then out else out2) (V pc lv (.int y :: .int x :: st) h) := by
  obtain ⟨p, e, R, s, m, args, below, meth, c, slots, Q, F, rfl⟩ := o
  refine T_ite (fun q => ?_) (fun q => ?_)
  · intro r er pr H locs ls hP hz hS hl
    exact lv_icmp_ge F.1 F.2.1 d ht (fun z => absurd z (Int32.not_le.mpr q)) (fun _ => t r er pr H locs ls hP hz hS hl)
  · intro r er pr H locs ls hP hz hS hl
    exact lv_icmp_ge F.1 F.2.1 d ht (fun _ => f r er pr H locs ls hP hz hS hl) (fun z => absurd (Int32.not_lt.mp q) z)
theorem R_icmp_gt (o : Ok g l own cc nL fr lo ce V) {x y : Int32} {off : Int} (tgt : Nat) (d : decode cc pc = .ok (.if_icmp .gt off, 3)) (ht : (pc : Int) + off = (tgt : Int)) (t : T P out (V tgt lv st h)) (f : T P out2 (V (pc + 3) lv st h)) : T P (if y < x then out else out2) (V pc lv (.int y :: .int x :: st) h) := by
  obtain ⟨p, e, R, s, m, args, below, meth, c, slots, Q, F, rfl⟩ := o
  refine T_ite (fun q => ?_) (fun q => ?_)
  · intro r er pr H locs ls hP hz hS hl
    exact lv_icmp_gt F.1 F.2.1 d ht (fun _ => t r er pr H locs ls hP hz hS hl) (fun z => absurd (q) z)
  · intro r er pr H locs ls hP hz hS hl
    exact lv_icmp_gt F.1 F.2.1 d ht (fun z => absurd z (q)) (fun _ => f r er pr H locs ls hP hz hS hl)
theorem R_icmp_le (o : Ok g l own cc nL fr lo ce V) {x y : Int32} {off : Int} (tgt : Nat) (d : decode cc pc = .ok (.if_icmp .le off, 3)) (ht : (pc : Int) + off = (tgt : Int)) (t : T P out (V (pc + 3) lv st h)) (f : T P out2 (V tgt lv st h)) : T P (if y < x then out else out2) (V pc lv (.int y :: .int x :: st) h) := by
  obtain ⟨p, e, R, s, m, args, below, meth, c, slots, Q, F, rfl⟩ := o
  refine T_ite (fun q => ?_) (fun q => ?_)
  · intro r er pr H locs ls hP hz hS hl
    exact lv_icmp_le F.1 F.2.1 d ht (fun z => absurd z (Int32.not_le.mpr q)) (fun _ => t r er pr H locs ls hP hz hS hl)
  · intro r er pr H locs ls hP hz hS hl
    exact lv_icmp_le F.1 F.2.1 d ht (fun _ => f r er pr H locs ls hP hz hS hl) (fun z => absurd (Int32.not_lt.mp q) z)
theorem b2i_0 {b : Bool} : b2i b = 0 ↔ ¬ b = true := by cases b <;> decide
theorem b2i_n {b : Bool} (q : b = true) : ¬ b2i b = 0 := by subst q; decide
theorem R_bif_eq (o : Ok g l own cc nL fr lo ce V) {b : Bool} {off : Int} (tgt : Nat) (d : decode cc pc = .ok (.ifCond .eq off, 3)) (ht : (pc : Int) + off = (tgt : Int)) (t : T P out (V (pc + 3) lv st h)) (f : T P out2 (V tgt lv st h)) : T P (if b = true then out else out2) (V pc lv (.int (b2i b) :: st) h) := by
  obtain ⟨p, e, R, s, m, args, below, meth, c, slots, Q, F, rfl⟩ := o
  refine T_ite (fun q => ?_) (fun q => ?_)
  · intro r er pr H locs ls hP hz hS hl
    exact lv_if_eq F.1 F.2.1 d ht (fun z => absurd z (b2i_n q)) (fun _ => t r er pr H locs ls hP hz hS hl)
  · intro r er pr H locs ls hP hz hS hl
    exact lv_if_eq F.1 F.2.1 d ht (fun _ => f r er pr H locs ls hP hz hS hl) (fun z => absurd (b2i_0.mpr q) z)
theorem R_bif_ne (o : Ok g l own cc nL fr lo ce V) {b : Bool} {off : Int} (tgt : Nat) (d : decode cc pc = .ok (.ifCond .ne off, 3)) (ht : (pc : Int) + off = (tgt : Int)) (t : T P out (V tgt lv st h)) (f : T P out2 (V (pc + 3) lv st h)) : T P (if b = true then out else out2) (V pc lv (.int (b2i b) :: st) h) := by
  obtain ⟨p, e, R, s, m, args, below, meth, c, slots, Q, F, rfl⟩ := o
  refine T_ite (fun q => ?_) (fun q => ?_)
  · intro r er pr H locs ls hP hz hS hl
    exact lv_if_ne F.1 F.2.1 d ht (fun _ => t r er pr H locs ls hP hz hS hl) (fun z => absurd z (b2i_n q))
  · intro r er pr H locs ls hP hz hS hl
    exact lv_if_ne F.1 F.2.1 d ht (fun z => absurd (b2i_0.mpr q) z) (fun _ => f r er pr H locs ls hP hz hS hl)
theorem R_lcmp (o : Ok g l own cc nL fr lo ce V) {x y : Int64} (d : decode cc pc = .ok (.lcmp, 1)) (t : T P out (V (pc + 1) lv (.int (lg_cmp x y) :: st) h)) : T P out (V pc lv (.long y :: .long x :: st) h) := by
  obtain ⟨p, e, R, s, m, args, below, meth, c, slots, Q, F, rfl⟩ := o
  intro r er pr H locs ls hP hz hS hl
  exact W.lcmp F.1 F.2.1 d (t r er pr H locs ls hP hz hS hl)
theorem lg_lt0 (x y : Int64) : (lg_cmp x y < 0) ↔ x < y := by
  unfold lg_cmp
  simp only [gt_iff_lt, Int64.lt_iff_toInt_lt, ← Int64.toInt_inj]
  repeat' split
  all_goals first | (constructor <;> intro hh <;> first | omega | (exfalso; revert hh; decide) | decide) | omega
theorem lg_gt0 (x y : Int64) : (0 < lg_cmp x y) ↔ y < x := by
  unfold lg_cmp
  simp only [gt_iff_lt, Int64.lt_iff_toInt_lt, ← Int64.toInt_inj]
  repeat' split
  all_goals first | (constructor <;> intro hh <;> first | omega | (exfalso; revert hh; decide) | decide) | omega
theorem lg_eq0 (x y : Int64) : (lg_cmp x y = 0) ↔ x = y := by
  unfold lg_cmp
  simp only [gt_iff_lt, Int64.lt_iff_toInt_lt, ← Int64.toInt_inj]
  repeat' split
  all_goals first | (constructor <;> intro hh <;> first | omega | (exfalso; revert hh; decide) | decide) | omega
theorem R_lcmp_lt (o : Ok g l own cc nL fr lo ce V) {x y : Int64} {off : Int} (tgt : Nat) (d : decode cc pc = .ok (.lcmp, 1)) (d2 : decode cc (pc + 1) = .ok (.ifCond .lt off, 3)) (ht : ((pc + 1 : Nat) : Int) + off = (tgt : Int)) (t : T P out (V tgt lv st h)) (f : T P out2 (V (pc + 1 + 3) lv st h)) : T P (if x < y then out else out2) (V pc lv (.long y :: .long x :: st) h) := by
  have e : (if x < y then out else out2) = (if lg_cmp x y < 0 then out else out2) := by
    by_cases q : x < y
    · rw [if_pos q, if_pos ((lg_lt0 x y).mpr q)]
    · rw [if_neg q, if_neg (fun z => q ((lg_lt0 x y).mp z))]
  rw [e]
  exact R_lcmp o d (R_if_lt o tgt d2 ht t f)
theorem R_lcmp_ge (o : Ok g l own cc nL fr lo ce V) {x y : Int64} {off : Int} (tgt : Nat) (d : decode cc pc = .ok (.lcmp, 1)) (d2 : decode cc (pc + 1) = .ok (.ifCond .ge off, 3)) (ht : ((pc + 1 : Nat) : Int) + off = (tgt : Int)) (t : T P out (V (pc + 1 + 3) lv st h)) (f : T P out2 (V tgt lv st h)) : T P (if x < y then out else out2) (V pc lv (.long y :: .long x :: st) h) := by
  have e : (if x < y then out else out2) = (if lg_cmp x y < 0 then out else out2) := by
    by_cases q : x < y
    · rw [if_pos q, if_pos ((lg_lt0 x y).mpr q)]
    · rw [if_neg q, if_neg (fun z => q ((lg_lt0 x y).mp z))]
  rw [e]
  exact R_lcmp o d (R_if_ge o tgt d2 ht t f)
theorem R_lcmp_gt (o : Ok g l own cc nL fr lo ce V) {x y : Int64} {off : Int} (tgt : Nat) (d : decode cc pc = .ok (.lcmp, 1)) (d2 : decode cc (pc + 1) = .ok (.ifCond .gt off, 3)) (ht : ((pc + 1 : Nat) : Int) + off = (tgt : Int)) (t : T P out (V tgt lv st h)) (f : T P out2 (V (pc + 1 + 3) lv st h)) : T P (if y < x then out else out2) (V pc lv (.long y :: .long x :: st) h) := by
  have e : (if y < x then out else out2) = (if 0 < lg_cmp x y then out else out2) := by
    by_cases q : y < x
    · rw [if_pos q, if_pos ((lg_gt0 x y).mpr q)]
    · rw [if_neg q, if_neg (fun z => q ((lg_gt0 x y).mp z))]
  rw [e]
  exact R_lcmp o d (R_if_gt o tgt d2 ht t f)
theorem R_lcmp_le (o : Ok g l own cc nL fr lo ce V) {x y : Int64} {off : Int} (tgt : Nat) (d : decode cc pc = .ok (.lcmp, 1)) (d2 : decode cc (pc + 1) = .ok (.ifCond .le off, 3)) (ht : ((pc + 1 : Nat) : Int) + off = (tgt : Int)) (t : T P out (V (pc + 1 + 3) lv st h)) (f : T P out2 (V tgt lv st h)) : T P (if y < x then out else out2) (V pc lv (.long y :: .long x :: st) h) := by
  have e : (if y < x then out else out2) = (if 0 < lg_cmp x y then out else out2) := by
    by_cases q : y < x
    · rw [if_pos q, if_pos ((lg_gt0 x y).mpr q)]
    · rw [if_neg q, if_neg (fun z => q ((lg_gt0 x y).mp z))]
  rw [e]
  exact R_lcmp o d (R_if_le o tgt d2 ht t f)
theorem R_lcmp_eq (o : Ok g l own cc nL fr lo ce V) {x y : Int64} {off : Int} (tgt : Nat) (d : decode cc pc = .ok (.lcmp, 1)) (d2 : decode cc (pc + 1) = .ok (.ifCond .eq off, 3)) (ht : ((pc + 1 : Nat) : Int) + off = (tgt : Int)) (t : T P out (V tgt lv st h)) (f : T P out2 (V (pc + 1 + 3) lv st h)) : T P (if x = y then out else out2) (V pc lv (.long y :: .long x :: st) h) := by
  have e : (if x = y then out else out2) = (if lg_cmp x y = 0 then out else out2) := by
    by_cases q : x = y
    · rw [if_pos q, if_pos ((lg_eq0 x y).mpr q)]
    · rw [if_neg q, if_neg (fun z => q ((lg_eq0 x y).mp z))]
  rw [e]
  exact R_lcmp o d (R_if_eq o tgt d2 ht t f)
theorem R_lcmp_ne (o : Ok g l own cc nL fr lo ce V) {x y : Int64} {off : Int} (tgt : Nat) (d : decode cc pc = .ok (.lcmp, 1)) (d2 : decode cc (pc + 1) = .ok (.ifCond .ne off, 3)) (ht : ((pc + 1 : Nat) : Int) + off = (tgt : Int)) (t : T P out (V (pc + 1 + 3) lv st h)) (f : T P out2 (V tgt lv st h)) : T P (if x = y then out else out2) (V pc lv (.long y :: .long x :: st) h) := by
  have e : (if x = y then out else out2) = (if lg_cmp x y = 0 then out else out2) := by
    by_cases q : x = y
    · rw [if_pos q, if_pos ((lg_eq0 x y).mpr q)]
    · rw [if_neg q, if_neg (fun z => q ((lg_eq0 x y).mp z))]
  rw [e]
  exact R_lcmp o d (R_if_ne o tgt d2 ht t f)
/-- own's pool entry idx names field k of class ci -/
def Fl (own : String) (idx ci k : Nat) : Prop := ∃ (C : String) (Tt : u_T) (N : Nat), cls8[ci]? = some (C, Tt, N) ∧ k < N ∧ (∀ w ∈ u_ws C Tt N, w ∈ TB) ∧ (Tt k).1 = C ∧ (Cond.fieldLink own idx C (Tt k).2.1 (Tt k).2.2.1 ∈ TB ∨ ∃ host, Cond.fieldLinkNest own idx C (Tt k).2.1 (Tt k).2.2.1 host ∈ NB)
theorem getV (o : Ok g l own cc nL fr lo ce V) {idx ci k a t : Nat} (d : decode cc pc = .ok (.getfield idx, 3)) (hf : Fl own idx ci k) (hs : shp a = (ci, 0)) (hc : ci < 10) (ht : (fty ci)[k]? = some t) (kk : V (pc + 3) lv (fv g h a k t :: st) h) : V pc lv (rA g a :: st) h := by
  obtain ⟨p, e, R, s, m, args, below, meth, c, slots, Q, F, rfl⟩ := o
  intro H locs ls hP hz hS hl
  obtain ⟨C, Tt, N, h1, h2, h3, h4, h5⟩ := hf
  have ha : a < 87 := shp_lt (by rw [hs]; show ci ≠ 99; omega)
  have hw : (wld g h)[a]? = some (g.2.2 + a, .inr (ci, flds g h a (fty ci) 0)) := by rw [wld_at (by omega), cellE_obj hs hc]
  have hv : (flds g h a (fty ci) 0)[k]? = some (fv g h a k t) := by rw [flds_at (fty ci) 0 k t ht, Nat.zero_add]
  rcases h5 with h5 | ⟨host, h5⟩
  · exact va_get F.1 F.2.1 F.2.2.2.2.1 h3 F.2.2.2.1 F.2.2.2.2.2.1 hP a hw h1 k h2 (F.2.2.2.2.1 _ h5) (fun x hx => by rw [h4] at hx; exact hx) hv d (kk H locs ls hP hz hS hl)
  · exact va_getN F.1 F.2.1 F.2.2.2.2.1 h3 F.2.2.2.1 F.2.2.2.2.2.1 hP a hw h1 k h2 (va_Nw.use rfl (F.2.2.2.2.2.2.1 _ h5)) (fun x hx => by rw [h4] at hx; exact hx) hv d (kk H locs ls hP hz hS hl)
theorem R_getI (o : Ok g l own cc nL fr lo ce V) {idx ci k a : Nat} (d : decode cc pc = .ok (.getfield idx, 3)) (hf : Fl own idx ci k) (hs : shp a = (ci, 0)) (hc : ci < 10) (ht : (fty ci)[k]? = some 1) (t : T P out (V (pc + 3) lv (.int (h.1 a k) :: st) h)) : T P out (V pc lv (rA g a :: st) h) := fun r er pr => getV o d hf hs hc ht (t r er pr)
theorem R_getL (o : Ok g l own cc nL fr lo ce V) {idx ci k a : Nat} (d : decode cc pc = .ok (.getfield idx, 3)) (hf : Fl own idx ci k) (hs : shp a = (ci, 0)) (hc : ci < 10) (ht : (fty ci)[k]? = some 2) (t : T P out (V (pc + 3) lv (.long (h.2.1 a k) :: st) h)) : T P out (V pc lv (rA g a :: st) h) := fun r er pr => getV o d hf hs hc ht (t r er pr)
theorem R_getR (o : Ok g l own cc nL fr lo ce V) {idx ci k a a2 : Nat} (d : decode cc pc = .ok (.getfield idx, 3)) (hf : Fl own idx ci k) (hs : shp a = (ci, 0)) (hc : ci < 10) (ht : (fty ci)[k]? = some 0) (ha : rf a k = a2) (t : T P out (V (pc + 3) lv (rA g a2 :: st) h)) : T P out (V pc lv (rA g a :: st) h) := by
  subst ha
  exact fun r er pr => getV o d hf hs hc ht (t r er pr)
/-- own's pool entry idx names field k of class ci, which isn't final, of type ty -/
def Flp (own : String) (idx ci k : Nat) (ty : FieldType) : Prop := ∃ (C : String) (Tt : u_T) (N : Nat) (ty0 : Nat → FieldType), cls8[ci]? = some (C, Tt, N) ∧ k < N ∧ (∀ w ∈ u_ws C Tt N, w ∈ TB) ∧ (∀ k, k < N → parseFieldDescriptor (Tt k).2.2.1 = some (ty0 k)) ∧ (∀ a, a < N → ∀ b, b < N → a ≠ b → (Tt a).2.1 ≠ (Tt b).2.1) ∧ (Tt k).2.2.2 = false ∧ parseFieldDescriptor (Tt k).2.2.1 = some ty ∧ (Tt k).1 = C ∧ (Cond.fieldLink own idx C (Tt k).2.1 (Tt k).2.2.1 ∈ TB ∨ ∃ host, Cond.fieldLinkNest own idx C (Tt k).2.1 (Tt k).2.2.1 host ∈ NB)
theorem put_sz {p : Program} {e : Env} {R : Room} {s : State} {m : MethodId} {args : Array Value} {below : List Frame} {meth : Method} {c : Code} {slots : Nat} {Tt : State} {locs locs1 : List Loc} {H H1 : Heap} {h2 : MH} (X : Stand p l e R s m args below meth c Tt locs1 0 slots) (hT : Tt.heap = H1) (hS : va_S (AG g) s.heap H locs) (hw2 : h2.2.2 = h.2.2) (hz : h.2.2 = 0 → H.size = g.2.2 + 87) (hP1 : va_P g.1 cls8 (wld g h2) H1) : h2.2.2 = 0 → H1.size = g.2.2 + 87 := by
  intro q
  have h1 := X.heapSize
  rw [hT] at h1
  have h3 := hz (by omega)
  have h4 := hS.1
  have h5 := va_sz hP1
  omega
theorem putV (o : Ok g l own cc nL fr lo 0 V) {idx ci k a t : Nat} {ty : FieldType} {h2 : MH} (d : decode cc pc = .ok (.putfield idx, 3)) (hf : Flp own idx ci k ty) (hs : shp a = (ci, 0)) (hc : ci < 10) (ht : (fty ci)[k]? = some t) (hn : narrow ty (fv g h2 a k t) = fv g h2 a k t) (hfit : fits ty (fv g h2 a k t) = true) (hw2 : h2.2.2 = h.2.2) (ho : ∀ b, b ≠ a → h2.1 b = h.1 b ∧ h2.2.1 b = h.2.1 b) (hI : ∀ j, j ≠ k → h2.1 a j = h.1 a j) (hL : ∀ j, j ≠ k → h2.2.1 a j = h.2.1 a j) (kk : V (pc + 3) lv st h2) : V pc lv (fv g h2 a k t :: rA g a :: st) h := by
  obtain ⟨p, e, R, s, m, args, below, meth, c, slots, Q, F, rfl⟩ := o
  intro H locs ls hP hz hS hl
  obtain ⟨C, Tt, N, ty0, h1, h2', h3, h3a, h3b, h3c, h3d, h4, h5⟩ := hf
  have ha : a < 87 := shp_lt (by rw [hs]; show ci ≠ 99; omega)
  have hw : (wld g h)[a]? = some (g.2.2 + a, .inr (ci, flds g h a (fty ci) 0)) := by rw [wld_at (by omega), cellE_obj hs hc]
  have hlen : k < (flds g h a (fty ci) 0).length := by
    rw [flds_len]
    exact (List.getElem?_eq_some_iff.mp ht).1
  have hset : (wld g h).set a (g.2.2 + a, .inr (ci, (flds g h a (fty ci) 0).set k (fv g h2 a k t))) = wld g h2 := by
    refine wld_set (by omega) hw2 ho ?_
    rw [cellE_obj hs hc, flds_set hI hL hw2 (fty ci) 0 k t (by omega) ht]
  rcases h5 with h5 | ⟨host, h5⟩
  · refine va_put F.1 F.2.1 F.2.2.2.2.1 h3 ty0 h3a h3b F.2.2.2.1 F.2.2.2.2.2.1 hP (wld_D g h) hS a hw h1 k h2' (F.2.2.2.2.1 _ h5) (fun x hx => by rw [h4] at hx; exact hx) h3c h3d hn hfit hlen d ?_
    intro H1 locs1 hP1 hD1 hS1
    rw [hset] at hP1
    exact fun Tq hT X => kk H1 locs1 ls hP1 (put_sz X hT hS hw2 hz hP1) hS1 hl Tq hT X
  · refine va_putN F.1 F.2.1 F.2.2.2.2.1 h3 ty0 h3a h3b F.2.2.2.1 F.2.2.2.2.2.1 hP (wld_D g h) hS a hw h1 k h2' (va_Nw.use rfl (F.2.2.2.2.2.2.1 _ h5)) (fun x hx => by rw [h4] at hx; exact hx) h3c h3d hn hfit hlen d ?_
    intro H1 locs1 hP1 hD1 hS1
    rw [hset] at hP1
    exact fun Tq hT X => kk H1 locs1 ls hP1 (put_sz X hT hS hw2 hz hP1) hS1 hl Tq hT X
theorem uI_ne {h : MH} {a k : Nat} {v : Int32} {b : Nat} (hb : b ≠ a) : (uI h a k v).1 b = h.1 b := by
  funext j
  simp [uI, hb]
theorem uL_ne {h : MH} {a k : Nat} {v : Int64} {b : Nat} (hb : b ≠ a) : (uL h a k v).2.1 b = h.2.1 b := by
  funext j
  simp [uL, hb]
theorem R_putI (o : Ok g l own cc nL fr lo 0 V) {idx ci k a : Nat} {v : Int32} (d : decode cc pc = .ok (.putfield idx, 3)) (hf : Flp own idx ci k .int) (hs : shp a = (ci, 0)) (hc : ci < 10) (ht : (fty ci)[k]? = some 1) (t : T P out (V (pc + 3) lv st (uI h a k v))) : T P out (V pc lv (.int v :: rA g a :: st) h) := fun r er pr => by
  have e : fv g (uI h a k v) a k 1 = .int v := by simp [fv, uI]
  have := putV o (h := h) (h2 := uI h a k v) d hf hs hc ht (by rw [e]; rfl) (by rw [e]; rfl) rfl (fun b hb => ⟨uI_ne hb, rfl⟩) (fun j hj => by simp [uI, hj]) (fun j hj => rfl) (t r er pr)
  rw [e] at this
  exact this
theorem R_putL (o : Ok g l own cc nL fr lo 0 V) {idx ci k a : Nat} {v : Int64} (d : decode cc pc = .ok (.putfield idx, 3)) (hf : Flp own idx ci k .long) (hs : shp a = (ci, 0)) (hc : ci < 10) (ht : (fty ci)[k]? = some 2) (t : T P out (V (pc + 3) lv st (uL h a k v))) : T P out (V pc lv (.long v :: rA g a :: st) h) := fun r er pr => by
  have e : fv g (uL h a k v) a k 2 = .long v := by simp [fv, uL]
  have := putV o (h := h) (h2 := uL h a k v) d hf hs hc ht (by rw [e]; rfl) (by rw [e]; rfl) rfl (fun b hb => ⟨rfl, uL_ne hb⟩) (fun j hj => rfl) (fun j hj => by simp [uL, hj]) (t r er pr)
  rw [e] at this
  exact this
/-! arrays -/
theorem R_iald (o : Ok g l own cc nL fr lo ce V) {a n : Nat} {i : Int32} (d : decode cc pc = .ok (.iaload, 1)) (hs : shp a = (10, n)) (t : T P out (V (pc + 1) lv (.int (h.1 a i.toNatClampNeg) :: st) h)) : T P (gd (ix i n) out) (V pc lv (.int i :: rA g a :: st) h) := by
  obtain ⟨p, e, R, s, m, args, below, meth, c, slots, Q, F, rfl⟩ := o
  refine T_gd (fun q => ?_)
  intro r er pr H locs ls hP hz hS hl
  have ha : a < 87 := shp_lt (by rw [hs]; simp)
  have hw : (wld g h)[a]? = some (g.2.2 + a, .inl (g.2.1 0, n, .inl (h.1 a))) := by rw [wld_at (by omega), cellE_arr hs (by simp)]; rfl
  exact va_iald F.1 F.2.1 F.2.2.2.2.2.1 hP a 0 hw rfl (ix_in q) d (t r er pr H locs ls hP hz hS hl)
theorem R_zald (o : Ok g l own cc nL fr lo ce V) {a n : Nat} {i : Int32} (d : decode cc pc = .ok (.baload, 1)) (hs : shp a = (11, n)) (t : T P out (V (pc + 1) lv (.int (h.1 a i.toNatClampNeg) :: st) h)) : T P (gd (ix i n) out) (V pc lv (.int i :: rA g a :: st) h) := by
  obtain ⟨p, e, R, s, m, args, below, meth, c, slots, Q, F, rfl⟩ := o
  refine T_gd (fun q => ?_)
  intro r er pr H locs ls hP hz hS hl
  have ha : a < 87 := shp_lt (by rw [hs]; simp)
  have hw : (wld g h)[a]? = some (g.2.2 + a, .inl (g.2.1 1, n, .inl (h.1 a))) := by rw [wld_at (by omega), cellE_arr hs (by simp)]; rfl
  exact va_zald F.1 F.2.1 F.2.2.2.2.2.1 hP a 1 hw rfl (ix_in q) d (t r er pr H locs ls hP hz hS hl)
/-- a long row: of the world, or the one that Mark has made -/
def LgS (h : MH) (a n : Nat) : Prop := shp a = (12, n) ∨ (a = 87 ∧ n = 5101 ∧ h.2.2 = 1)
theorem LgS_at {a n : Nat} (hs : LgS h a n) : (wld g h)[a]? = some (g.2.2 + a, .inl (g.2.1 2, n, .inr (.inl (h.2.1 a)))) ∧ a < 87 + h.2.2 := by
  rcases hs with hs | ⟨rfl, rfl, hw⟩
  · have ha : a < 87 := shp_lt (by rw [hs]; simp)
    exact ⟨by rw [wld_at (by omega), cellE_arr hs (by simp)]; rfl, by omega⟩
  · exact ⟨by rw [wld_at (by omega)]; rfl, by omega⟩
theorem R_lald (o : Ok g l own cc nL fr lo ce V) {a n : Nat} {i : Int32} (d : decode cc pc = .ok (.laload, 1)) (hs : LgS h a n) (t : T P out (V (pc + 1) lv (.long (h.2.1 a i.toNatClampNeg) :: st) h)) : T P (gd (ix i n) out) (V pc lv (.int i :: rA g a :: st) h) := by
  obtain ⟨p, e, R, s, m, args, below, meth, c, slots, Q, F, rfl⟩ := o
  refine T_gd (fun q => ?_)
  intro r er pr H locs ls hP hz hS hl
  exact va_lald F.1 F.2.1 F.2.2.2.2.2.1 hP a 2 (LgS_at hs).1 rfl (ix_in q) d (t r er pr H locs ls hP hz hS hl)
theorem wld_uA {a : Nat} {f : Nat → Int32} {x : va_E} (ha : a < 87 + h.2.2) (e : cellE g (uA h a f) a = x) : (wld g h).set a (g.2.2 + a, x) = wld g (uA h a f) := wld_set ha rfl (fun b hb => ⟨by funext j; simp [uA, hb], rfl⟩) e
theorem uI_uA {a k : Nat} {v : Int32} : uA h a (upd (h.1 a) k v) = uI h a k v := by
  unfold uA uI upd
  congr 1
  funext b j
  by_cases hb : b = a
  · subst hb
    simp
  · simp [hb]
theorem R_iast (o : Ok g l own cc nL fr lo 0 V) {a n : Nat} {i x : Int32} (d : decode cc pc = .ok (.iastore, 1)) (hs : shp a = (10, n)) (t : T P out (V (pc + 1) lv st (uI h a i.toNatClampNeg x))) : T P (gd (ix i n) out) (V pc lv (.int x :: .int i :: rA g a :: st) h) := by
  obtain ⟨p, e, R, s, m, args, below, meth, c, slots, Q, F, rfl⟩ := o
  refine T_gd (fun q => ?_)
  intro r er pr H locs ls hP hz hS hl
  have ha : a < 87 := shp_lt (by rw [hs]; simp)
  have hw : (wld g h)[a]? = some (g.2.2 + a, .inl (g.2.1 0, n, .inl (h.1 a))) := by rw [wld_at (by omega), cellE_arr hs (by simp)]; rfl
  refine va_iast F.1 F.2.1 F.2.2.2.2.2.1 hP (wld_D g h) hS a 0 hw rfl (ix_in q) d ?_
  intro H1 locs1 hP1 hD1 hS1
  rw [wld_uA (f := upd (h.1 a) i.toNatClampNeg x) (by omega) (by rw [cellE_arr hs (by simp)]; simp [cellT, uA]), uI_uA] at hP1
  exact fun Tq hT X => t r er pr H1 locs1 ls hP1 (put_sz X hT hS rfl hz hP1) hS1 hl Tq hT X
theorem nar_b (b : Bool) : vp_nar .boolean (b2i b) = b2i b := by cases b <;> rfl
theorem R_zast (o : Ok g l own cc nL fr lo 0 V) {a n : Nat} {i x : Int32} (d : decode cc pc = .ok (.bastore, 1)) (hs : shp a = (11, n)) (hx : vp_nar .boolean x = x) (t : T P out (V (pc + 1) lv st (uI h a i.toNatClampNeg x))) : T P (gd (ix i n) out) (V pc lv (.int x :: .int i :: rA g a :: st) h) := by
  obtain ⟨p, e, R, s, m, args, below, meth, c, slots, Q, F, rfl⟩ := o
  refine T_gd (fun q => ?_)
  intro r er pr H locs ls hP hz hS hl
  have ha : a < 87 := shp_lt (by rw [hs]; simp)
  have hw : (wld g h)[a]? = some (g.2.2 + a, .inl (g.2.1 1, n, .inl (h.1 a))) := by rw [wld_at (by omega), cellE_arr hs (by simp)]; rfl
  refine va_zast F.1 F.2.1 F.2.2.2.2.2.1 hP (wld_D g h) hS a 1 hw rfl (ix_in q) d ?_
  intro H1 locs1 hP1 hD1 hS1
  rw [hx, wld_uA (f := upd (h.1 a) i.toNatClampNeg x) (by omega) (by rw [cellE_arr hs (by simp)]; simp [cellT, uA]), uI_uA] at hP1
  exact fun Tq hT X => t r er pr H1 locs1 ls hP1 (put_sz X hT hS rfl hz hP1) hS1 hl Tq hT X
theorem wld_uL {a n k : Nat} {v : Int64} (hs : LgS h a n) : (wld g h).set a (g.2.2 + a, .inl (g.2.1 2, n, .inr (.inl (vp_updL (h.2.1 a) k v)))) = wld g (uL h a k v) := by
  refine wld_set (LgS_at (g := g) hs).2 rfl (fun b hb => ⟨rfl, uL_ne hb⟩) ?_
  have hf : (uL h a k v).2.1 a = vp_updL (h.2.1 a) k v := by
    funext j
    simp [uL, vp_updL]
  have hs2 : LgS (uL h a k v) a n := hs
  have h1 := (LgS_at (g := g) hs2).1
  rw [wld_at (LgS_at (g := g) hs2).2, hf] at h1
  exact (Prod.mk.inj (Option.some.inj h1)).2
theorem R_last (o : Ok g l own cc nL fr lo 0 V) {a n : Nat} {i : Int32} {x : Int64} (d : decode cc pc = .ok (.lastore, 1)) (hs : LgS h a n) (t : T P out (V (pc + 1) lv st (uL h a i.toNatClampNeg x))) : T P (gd (ix i n) out) (V pc lv (.long x :: .int i :: rA g a :: st) h) := by
  obtain ⟨p, e, R, s, m, args, below, meth, c, slots, Q, F, rfl⟩ := o
  refine T_gd (fun q => ?_)
  intro r er pr H locs ls hP hz hS hl
  refine va_last F.1 F.2.1 F.2.2.2.2.2.1 hP (wld_D g h) hS a 2 (LgS_at hs).1 rfl (ix_in q) d ?_
  intro H1 locs1 hP1 hD1 hS1
  rw [wld_uL hs] at hP1
  exact fun Tq hT X => t r er pr H1 locs1 ls hP1 (put_sz X hT hS rfl hz hP1) hS1 hl Tq hT X
theorem R_alenI (o : Ok g l own cc nL fr lo ce V) {a tg n : Nat} (d : decode cc pc = .ok (.arraylength, 1)) (hs : shp a = (tg, n)) (hc : tg = 10 ∨ tg = 11 ∨ tg = 13 ∨ tg = 14 ∨ tg = 15) {v : Int32} (hv : Int32.ofNat n = v) (t : T P out (V (pc + 1) lv (.int v :: st) h)) : T P out (V pc lv (rA g a :: st) h) := by
  obtain ⟨p, e, R, s, m, args, below, meth, c, slots, Q, F, rfl⟩ := o
  intro r er pr H locs ls hP hz hS hl
  have ha : a < 87 := shp_lt (by rw [hs]; show tg ≠ 99; omega)
  have hw : (wld g h)[a]? = some (g.2.2 + a, cellT g h a (tg, n)) := by rw [wld_at (by omega), cellE_arr hs (by show tg ≠ 99; omega)]
  rcases hc with rfl | rfl | rfl | rfl | rfl
  · exact va_alen F.1 F.2.1 F.2.2.2.2.2.1 hP a 0 hw rfl hv d (t r er pr H locs ls hP hz hS hl)
  · exact va_alen F.1 F.2.1 F.2.2.2.2.2.1 hP a 1 hw rfl hv d (t r er pr H locs ls hP hz hS hl)
  · exact va_alen F.1 F.2.1 F.2.2.2.2.2.1 hP a 3 hw rfl hv d (t r er pr H locs ls hP hz hS hl)
  · exact va_alen F.1 F.2.1 F.2.2.2.2.2.1 hP a 4 hw rfl hv d (t r er pr H locs ls hP hz hS hl)
  · exact va_alen F.1 F.2.1 F.2.2.2.2.2.1 hP a 5 hw rfl hv d (t r er pr H locs ls hP hz hS hl)
theorem R_alenL (o : Ok g l own cc nL fr lo ce V) {a n : Nat} (d : decode cc pc = .ok (.arraylength, 1)) (hs : LgS h a n) {v : Int32} (hv : Int32.ofNat n = v) (t : T P out (V (pc + 1) lv (.int v :: st) h)) : T P out (V pc lv (rA g a :: st) h) := by
  obtain ⟨p, e, R, s, m, args, below, meth, c, slots, Q, F, rfl⟩ := o
  intro r er pr H locs ls hP hz hS hl
  exact va_alen F.1 F.2.1 F.2.2.2.2.2.1 hP a 2 (LgS_at hs).1 rfl hv d (t r er pr H locs ls hP hz hS hl)
theorem R_aald (o : Ok g l own cc nL fr lo ce V) {a tg n : Nat} {i : Int32} (d : decode cc pc = .ok (.aaload, 1)) (hs : shp a = (tg, n)) (hc : tg = 13 ∨ tg = 14 ∨ tg = 15) (t : ix i n = true → T P out (V (pc + 1) lv (rA g (rf a i.toNatClampNeg) :: st) h)) : T P (gd (ix i n) out) (V pc lv (.int i :: rA g a :: st) h) := by
  obtain ⟨p, e, R, s, m, args, below, meth, c, slots, Q, F, rfl⟩ := o
  refine T_gd (fun q => ?_)
  intro r er pr H locs ls hP hz hS hl
  have ha : a < 87 := shp_lt (by rw [hs]; show tg ≠ 99; omega)
  have hw : (wld g h)[a]? = some (g.2.2 + a, cellT g h a (tg, n)) := by rw [wld_at (by omega), cellE_arr hs (by show tg ≠ 99; omega)]
  rcases hc with rfl | rfl | rfl
  · exact va_aldq F.1 F.2.1 F.2.2.2.2.2.1 hP a 3 hw rfl (ix_in q) d (t q r er pr H locs ls hP hz hS hl)
  · exact va_aldq F.1 F.2.1 F.2.2.2.2.2.1 hP a 4 hw rfl (ix_in q) d (t q r er pr H locs ls hP hz hS hl)
  · exact va_aldq F.1 F.2.1 F.2.2.2.2.2.1 hP a 5 hw rfl (ix_in q) d (t q r er pr H locs ls hP hz hS hl)

theorem R_nmI {k : Int32 → Option ρ} {e : Int32} (t : ∀ v : Int32, T P (k v) (V pc lv (.int v :: st) h)) : T P (nm e k) (V pc lv (.int e :: st) h) := t e
theorem R_nmL {k : Int64 → Option ρ} {e : Int64} (t : ∀ v : Int64, T P (k v) (V pc lv (.long v :: st) h)) : T P (nm e k) (V pc lv (.long e :: st) h) := t e
theorem R_nmH {k : MH → Option ρ} (t : ∀ v : MH, T P (k v) (V pc lv st v)) : T P (nm h k) (V pc lv st h) := t h
end RU
