/-- names of the tables by number -/
def zon : Nat → String
  | 0 => RX0 | 1 => RX1 | 2 => RX2 | 3 => RX3 | 4 => RX4 | 5 => RX5 | 6 => RX6 | 7 => RX7 | 8 => RX8 | 9 => RX9 | 10 => RX10 | 11 => RX11 | 12 => RX12
  | 13 => "WordLinksLaw" | 14 => "java/lang/Integer" | 15 => "java/lang/Long" | 16 => "java/lang/Math" | _ => "java/util/Arrays"
/-- the links of all methods, by numbers: fields, methods, constants, new objects, new arrays of arrays, static arrays, Object's constructor, arraycopy; and the methods -/
abbrev zTabs : Type := List (Nat × Nat × Nat × Nat × Nat) × List (Nat × Nat × Nat) × List (Nat × Nat × Bool × Int) × List (Nat × Nat × Nat) × List (Nat × Nat × Nat) × List (Nat × Nat × Nat) × List (Nat × Nat) × List (Nat × Nat) × (Nat → zMi × Nat × Nat × Nat)
/-- of a method: its own table's number, how it answers, whether it is a constructor, its rank -/
abbrev zMe : Type := Nat × Nat × Bool × Nat
/-- the tag that a store into a field asks for -/
def zpt : FieldType → Nat
  | .boolean => 5
  | .int => 0
  | .long => 1
  | .object _ => 2
  | .array _ => 2
  | _ => 9
def zck (X : zTabs) (M : zMe) (tp : Nat → Nat) (pc : Nat) (ji : Instr) (len : Nat) (i : zI) : Bool := match ji with
  | .iconst k => decide (i = (0, 0, 0, k, [])) && len == 1
  | .bipush k => decide (i = (0, 0, 0, k, [])) && len == 2 && decide (-128 ≤ k ∧ k ≤ 127)
  | .sipush k => decide (i = (0, 0, 0, k, [])) && len == 3 && decide (-32768 ≤ k ∧ k ≤ 32767)
  | .ldc ix => len == 2 && X.2.2.1.any (fun e => e.1 == M.1 && e.2.1 == ix && e.2.2.1 == false && decide (i = (0, 0, 0, e.2.2.2, [])))
  | .ldc_w ix => len == 3 && X.2.2.1.any (fun e => e.1 == M.1 && e.2.1 == ix && e.2.2.1 == false && decide (i = (0, 0, 0, e.2.2.2, [])))
  | .ldc2_w ix => len == 3 && X.2.2.1.any (fun e => e.1 == M.1 && e.2.1 == ix && e.2.2.1 == true && decide (i = (0, 1, 0, e.2.2.2, [])))
  | .lconst k => decide (i = (0, 1, 0, ((k : Nat) : Int), [])) && len == 1
  | .iload k => decide (i = (1, k, 0, 0, [])) && len == 2
  | .iload_n k => decide (i = (1, (k : Nat), 0, 0, [])) && len == 1
  | .lload k => decide (i = (1, k, 1, 0, [])) && len == 2
  | .lload_n k => decide (i = (1, (k : Nat), 1, 0, [])) && len == 1
  | .aload k => decide (i = (1, k, 2, 0, [])) && len == 2
  | .aload_n k => decide (i = (1, (k : Nat), 2, 0, [])) && len == 1
  | .istore k => decide (i = (2, k, 0, 0, [])) && len == 2
  | .istore_n k => decide (i = (2, (k : Nat), 0, 0, [])) && len == 1
  | .astore k => decide (i = (2, k, 2, 0, [])) && len == 2
  | .astore_n k => decide (i = (2, (k : Nat), 2, 0, [])) && len == 1
  | .lstore k => decide (i = (3, k, 0, 0, [])) && len == 2
  | .lstore_n k => decide (i = (3, (k : Nat), 0, 0, [])) && len == 1
  | .iinc k n => decide (i = (4, k, 0, n, [])) && len == 3
  | .iadd => decide (i = (5, 0, 0, 0, [])) && len == 1
  | .isub => decide (i = (5, 1, 0, 0, [])) && len == 1
  | .imul => decide (i = (5, 2, 0, 0, [])) && len == 1
  | .iand => decide (i = (5, 3, 0, 0, [])) && len == 1
  | .ior => decide (i = (5, 4, 0, 0, [])) && len == 1
  | .ixor => decide (i = (5, 5, 0, 0, [])) && len == 1
  | .ishl => decide (i = (5, 6, 0, 0, [])) && len == 1
  | .ishr => decide (i = (5, 7, 0, 0, [])) && len == 1
  | .iushr => decide (i = (5, 8, 0, 0, [])) && len == 1
  | .idiv => decide (i = (6, 0, 0, 0, [])) && len == 1
  | .irem => decide (i = (6, 1, 0, 0, [])) && len == 1
  | .ineg => decide (i = (7, 0, 0, 0, [])) && len == 1
  | .ladd => decide (i = (8, 0, 0, 0, [])) && len == 1
  | .lsub => decide (i = (8, 1, 0, 0, [])) && len == 1
  | .lmul => decide (i = (8, 2, 0, 0, [])) && len == 1
  | .land => decide (i = (8, 3, 0, 0, [])) && len == 1
  | .lor => decide (i = (8, 4, 0, 0, [])) && len == 1
  | .ldiv => decide (i = (9, 0, 0, 0, [])) && len == 1
  | .lrem => decide (i = (9, 1, 0, 0, [])) && len == 1
  | .lshl => decide (i = (10, 0, 0, 0, [])) && len == 1
  | .lushr => decide (i = (10, 1, 0, 0, [])) && len == 1
  | .lcmp => decide (i = (11, 0, 0, 0, [])) && len == 1
  | .i2l => decide (i = (12, 0, 0, 0, [])) && len == 1
  | .l2i => decide (i = (12, 1, 0, 0, [])) && len == 1
  | .i2b => decide (i = (12, 2, 0, 0, [])) && len == 1
  | .dup => decide (i = (13, 0, 0, 0, [])) && len == 1
  | .dup2 => decide (i = (14, 0, 0, 0, [])) && len == 1
  | .pop => decide (i = (15, 0, 0, 0, [])) && len == 1
  | .iaload => decide (i = (24, 20, 0, 0, [])) && len == 1
  | .laload => decide (i = (24, 21, 0, 0, [])) && len == 1
  | .baload => decide (i = (24, 22, 0, 0, [])) && len == 1
  | .iastore => decide (i = (25, 20, 0, 0, [])) && len == 1
  | .lastore => decide (i = (25, 21, 0, 0, [])) && len == 1
  | .bastore => decide (i = (25, 22, 0, 0, [])) && len == 1
  | .arraylength => decide (i = (26, 0, 0, 0, [])) && len == 1
  | .aaload => (decide (i = (24, 23, 0, 0, [])) || decide (i = (24, 24, 0, 0, []))) && len == 1
  | .ifCond .eq off => decide (i = (16, 0, i.2.2.1, 0, [])) && len == 3 && decide ((pc : Int) + off = (tp i.2.2.1 : Int))
  | .if_icmp .eq off => decide (i = (17, 0, i.2.2.1, 0, [])) && len == 3 && decide ((pc : Int) + off = (tp i.2.2.1 : Int))
  | .ifCond .ne off => decide (i = (16, 1, i.2.2.1, 0, [])) && len == 3 && decide ((pc : Int) + off = (tp i.2.2.1 : Int))
  | .if_icmp .ne off => decide (i = (17, 1, i.2.2.1, 0, [])) && len == 3 && decide ((pc : Int) + off = (tp i.2.2.1 : Int))
  | .ifCond .lt off => decide (i = (16, 2, i.2.2.1, 0, [])) && len == 3 && decide ((pc : Int) + off = (tp i.2.2.1 : Int))
  | .if_icmp .lt off => decide (i = (17, 2, i.2.2.1, 0, [])) && len == 3 && decide ((pc : Int) + off = (tp i.2.2.1 : Int))
  | .ifCond .ge off => decide (i = (16, 3, i.2.2.1, 0, [])) && len == 3 && decide ((pc : Int) + off = (tp i.2.2.1 : Int))
  | .if_icmp .ge off => decide (i = (17, 3, i.2.2.1, 0, [])) && len == 3 && decide ((pc : Int) + off = (tp i.2.2.1 : Int))
  | .ifCond .gt off => decide (i = (16, 4, i.2.2.1, 0, [])) && len == 3 && decide ((pc : Int) + off = (tp i.2.2.1 : Int))
  | .if_icmp .gt off => decide (i = (17, 4, i.2.2.1, 0, [])) && len == 3 && decide ((pc : Int) + off = (tp i.2.2.1 : Int))
  | .ifCond .le off => decide (i = (16, 5, i.2.2.1, 0, [])) && len == 3 && decide ((pc : Int) + off = (tp i.2.2.1 : Int))
  | .if_icmp .le off => decide (i = (17, 5, i.2.2.1, 0, [])) && len == 3 && decide ((pc : Int) + off = (tp i.2.2.1 : Int))
  | .goto off => decide (i = (18, i.2.1, 0, 0, [])) && len == 3 && decide ((pc : Int) + off = (tp i.2.1 : Int))
  | .tableswitch dflt lo hi offs => decide (i = (19, i.2.1, 0, 0, i.2.2.2.2)) && decide ((pc : Int) + dflt = (tp i.2.1 : Int)) && decide ((i.2.2.2.2.length : Int) = hi - lo + 1) && (List.range i.2.2.2.2.length).all (fun n => decide ((i.2.2.2.2.getD n (0, 0)).1 = lo + n) && (match offs[n]? with
      | some off => decide ((pc : Int) + off = (tp (i.2.2.2.2.getD n (0, 0)).2 : Int))
      | none => false))
  | .lookupswitch dflt ps => decide (i = (19, i.2.1, 0, 0, i.2.2.2.2)) && decide ((pc : Int) + dflt = (tp i.2.1 : Int)) && (ps.toList.zip (ps.toList.drop 1)).all (fun (a, next) => a.1 < next.1) && decide (i.2.2.2.2.length = ps.toList.length) && (List.range i.2.2.2.2.length).all (fun n => decide ((i.2.2.2.2.getD n (0, 0)).1 = (ps.toList.getD n (0, 0)).1) && decide ((pc : Int) + (ps.toList.getD n (0, 0)).2 = (tp (i.2.2.2.2.getD n (0, 0)).2 : Int)))
  | .return_ => decide (i = (20, 0, 0, 0, [])) && len == 1 && M.2.1 == 0
  | .ireturn => len == 1 && ((decide (i = (20, 1, 0, 0, [])) && M.2.1 == 1) || (decide (i = (20, 3, 0, 0, [])) && M.2.1 == 3))
  | .lreturn => decide (i = (20, 2, 0, 0, [])) && len == 1 && M.2.1 == 2
  | .getfield ix => len == 3 && X.1.any (fun e => e.1 == M.1 && e.2.1 == ix && decide (i = (21, e.2.2.2.1, ztg (zTy e.2.2.1 e.2.2.2.1), (e.2.2.1 : Int), [])))
  | .putfield ix => len == 3 && X.1.any (fun e => e.1 == M.1 && e.2.1 == ix && (e.2.2.2.2 == 0 || (e.2.2.2.2 == 1 && M.2.2.1)) && decide (i = (22, e.2.2.2.1, zpt (zTy e.2.2.1 e.2.2.2.1), (e.2.2.1 : Int), [])))
  | .getstatic ix => len == 3 && X.2.2.2.2.2.1.any (fun e => e.1 == M.1 && e.2.1 == ix && decide (i = (23, e.2.2, 0, 0, [])) && decide (e.2.2 ≤ 3))
  | .new ix => len == 3 && X.2.2.2.1.any (fun e => e.1 == M.1 && e.2.1 == ix && decide (i = (27, e.2.2, zNf e.2.2, 0, i.2.2.2.2)) && decide (e.2.2 < 13) && (List.range (zNf e.2.2)).all (fun n => match zTy e.2.2 n with
      | .int => decide ((i.2.2.2.2.getD n (0, 0)).1 = 0)
      | .long => decide ((i.2.2.2.2.getD n (0, 0)).1 = 0)
      | .boolean => decide ((i.2.2.2.2.getD n (0, 0)).1 = 0)
      | .object _ => decide ((i.2.2.2.2.getD n (0, 0)).1 = -1)
      | .array _ => decide ((i.2.2.2.2.getD n (0, 0)).1 = -1)
      | _ => false))
  | .newarray .int => decide (i = (28, 20, 0, 0, [])) && len == 2
  | .newarray .long => decide (i = (28, 21, 0, 0, [])) && len == 2
  | .newarray .byte => decide (i = (28, 22, 0, 0, [])) && len == 2
  | .multianewarray ix d => len == 4 && d == 2 && X.2.2.2.2.1.any (fun e => e.1 == M.1 && e.2.1 == ix && decide (i = (29, e.2.2, 0, 0, [])) && (e.2.2 == 23 || e.2.2 == 24))
  | .invokespecial ix => len == 3 && ((decide (i = (30, 0, 0, 0, [])) && X.2.2.2.2.2.2.1.any (fun e => e.1 == M.1 && e.2 == ix) && decide (1 ≤ M.2.2.2)) ||
      X.2.1.any (fun e => e.1 == M.1 && e.2.1 == ix && (X.2.2.2.2.2.2.2.2 e.2.2).2.2.1 == 2 && decide ((X.2.2.2.2.2.2.2.2 e.2.2).1.2.2.2.2.1 < M.2.2.2) && decide (i = (33, e.2.2, (X.2.2.2.2.2.2.2.2 e.2.2).2.1 + 1, 0, [(0, (X.2.2.2.2.2.2.2.2 e.2.2).1.2.2.2.2.2.1), (0, (X.2.2.2.2.2.2.2.2 e.2.2).1.2.2.2.2.2.2)]))))
  | .invokevirtual ix => len == 3 && X.2.1.any (fun e => e.1 == M.1 && e.2.1 == ix && (X.2.2.2.2.2.2.2.2 e.2.2).2.2.1 == 0 && decide ((X.2.2.2.2.2.2.2.2 e.2.2).1.2.2.2.2.1 < M.2.2.2) && decide (i = (31, e.2.2, (X.2.2.2.2.2.2.2.2 e.2.2).2.1 + 1, ((X.2.2.2.2.2.2.2.2 e.2.2).2.2.2 : Int), [])))
  | .invokestatic ix => len == 3 && ((X.2.2.2.2.2.1.any (fun e => e.1 == M.1 && e.2.1 == ix && ((e.2.2 == 10 && decide (i = (35, 0, 0, 0, []))) || (e.2.2 == 11 && decide (i = (36, 0, 0, 0, []))) || (e.2.2 == 12 && decide (i = (36, 1, 0, 0, []))))) && decide (1 ≤ M.2.2.2)) || (X.2.2.2.2.2.2.2.1.any (fun e => e.1 == M.1 && e.2 == ix) && (decide (i = (32, 20, 0, 0, [])) || decide (i = (32, 21, 0, 0, []))) && decide (1 ≤ M.2.2.2)) ||
      X.2.1.any (fun e => e.1 == M.1 && e.2.1 == ix && (X.2.2.2.2.2.2.2.2 e.2.2).2.2.1 == 1 && decide ((X.2.2.2.2.2.2.2.2 e.2.2).1.2.2.2.2.1 < M.2.2.2) && decide (i = (34, e.2.2, (X.2.2.2.2.2.2.2.2 e.2.2).2.1, 0, []))))
  | _ => false
/-- the whole code of a method: each instruction decodes to what the abstract machine does there -/
def zckL (X : zTabs) (M : zMe) (cc : ByteArray) (pcs : List Nat) : Nat → Nat → List zI → Bool
  | _, _, [] => true
  | idx, pc, i :: r => decide (pcs.getD idx 0 = pc) && (match decode cc pc with
    | .ok (ji, len) => zck X M (fun t => pcs.getD t 0) pc ji len i && zckL X M cc pcs (idx + 1) (pc + len) r
    | _ => false)
theorem zckL_drop {X : zTabs} {M : zMe} {cc : ByteArray} {pcs : List Nat} : ∀ {l : List zI} {idx pc : Nat}, zckL X M cc pcs idx pc l = true → ∀ k, k < l.length → zckL X M cc pcs (idx + k) (pcs.getD (idx + k) 0) (l.drop k) = true
  | [], _, _, _, k, hk => by simp at hk
  | i :: r, idx, pc, h, 0, hk => by
    have h1 := h
    unfold zckL at h1
    rw [Bool.and_eq_true, decide_eq_true_iff] at h1
    rw [Nat.add_zero, h1.1]
    exact h
  | i :: r, idx, pc, h, k + 1, hk => by
    unfold zckL at h
    rw [Bool.and_eq_true, decide_eq_true_iff] at h
    have h2 := h.2
    split at h2
    · rw [Bool.and_eq_true] at h2
      have := zckL_drop h2.2 k (by simpa using hk)
      rw [show idx + 1 + k = idx + (k + 1) by omega] at this
      exact this
    · cases h2
/-- what is true of the tables -/
def zTabsOk (X : zTabs) : Prop :=
  (∀ e ∈ X.1, ∃ rr, zFl (zon e.1) e.2.1 e.2.2.1 e.2.2.2.1 rr ∧ (e.2.2.2.2 = 0 → (rr.2.1 e.2.2.2.1).2.2.2 = false) ∧ (e.2.2.2.2 = 1 → Cond.fieldLink (zon e.1) e.2.1 rr.1 (rr.2.1 e.2.2.2.1).2.1 (rr.2.1 e.2.2.2.1).2.2.1 ∈ zgt ∧ (rr.2.1 e.2.2.2.1).2.2.2 = true ∧ rr.1 = zon e.1)) ∧
  (∀ e ∈ X.2.1, zLk (zon e.1) e.2.1 (X.2.2.2.2.2.2.2.2 e.2.2).1) ∧
  (∀ e ∈ X.2.2.1, (e.2.2.1 = false → Cond.constant (zon e.1) e.2.1 (Int32.ofInt e.2.2.2) ∈ zgt) ∧ (e.2.2.1 = true → Cond.constantLong (zon e.1) e.2.1 (Int64.ofInt e.2.2.2) ∈ zgt)) ∧
  (∀ e ∈ X.2.2.2.1, ∃ rr : vw_C, vwCl[e.2.2]? = some rr ∧ Cond.classLink (zon e.1) e.2.1 rr.1 ∈ zgt ∧ Cond.instantiable rr.1 rr.2.2 ∈ zgt ∧ Cond.initialized rr.1 ∈ zgt) ∧
  (∀ e ∈ X.2.2.2.2.1, (e.2.2 = 23 → Cond.classLink (zon e.1) e.2.1 ("[" ++ (FieldType.array .int).toString) ∈ zgt) ∧ (e.2.2 = 24 → Cond.classLink (zon e.1) e.2.1 ("[" ++ (FieldType.array .long).toString) ∈ zgt)) ∧
  (∀ e ∈ X.2.2.2.2.2.1, (e.2.2 = 1 ∧ Cond.fieldLink (zon e.1) e.2.1 "WordLinks$Matcher" "TAKEN_0" "[I" ∈ zgt) ∨ (e.2.2 = 2 ∧ Cond.fieldLink (zon e.1) e.2.1 "WordLinks$Matcher" "TAKEN_1" "[I" ∈ zgt) ∨ (e.2.2 = 3 ∧ Cond.fieldLink (zon e.1) e.2.1 "WordLinks$Matcher" "KIND_COSTS" "[I" ∈ zgt) ∨ (e.2.2 = 10 ∧ Cond.methodLink (zon e.1) e.2.1 Lib.Math.abs.name ∈ zgt ∧ Cond.static Lib.Math.abs.name ∈ zgt ∧ Cond.initialized "java/lang/Math" ∈ zgt ∧ Cond.code Lib.Math.abs.name Lib.Math.abs.code 1 (some .int) ∈ zgt) ∨ (e.2.2 = 11 ∧ Cond.methodLink (zon e.1) e.2.1 Lib.Math.max.name ∈ zgt ∧ Cond.static Lib.Math.max.name ∈ zgt ∧ Cond.initialized "java/lang/Math" ∈ zgt ∧ Cond.code Lib.Math.max.name Lib.Math.max.code 2 (some .int) ∈ zgt) ∨ (e.2.2 = 12 ∧ Cond.methodLink (zon e.1) e.2.1 Lib.Math.min.name ∈ zgt ∧ Cond.static Lib.Math.min.name ∈ zgt ∧ Cond.initialized "java/lang/Math" ∈ zgt ∧ Cond.code Lib.Math.min.name Lib.Math.min.code 2 (some .int) ∈ zgt)) ∧
  (∀ e ∈ X.2.2.2.2.2.2.1, Cond.methodLink (zon e.1) e.2 Lib.objectInit ∈ zgt) ∧
  (∀ e ∈ X.2.2.2.2.2.2.2.1, Cond.methodLink (zon e.1) e.2 arraycopyName ∈ zgt) ∧
  (Cond.instanceMethod Lib.objectInit ∈ zgt ∧ Cond.code Lib.objectInit ⟨#[0xb1]⟩ 1 none ∈ zgt ∧ Cond.native arraycopyName ∈ zgt ∧ Cond.static arraycopyName ∈ zgt ∧ Cond.initialized "java/lang/System" ∈ zgt ∧ Cond.arrayClass .int ∈ zgt ∧ Cond.arrayClass .long ∈ zgt ∧ Cond.arrayClass .byte ∈ zgt) ∧
  (∀ e ∈ X.2.1, zMok (X.2.2.2.2.2.2.2.2 e.2.2).1 (X.2.2.2.2.2.2.2.2 e.2.2).2.1 ∧
    ((X.2.2.2.2.2.2.2.2 e.2.2).2.2.1 = 0 → (X.2.2.2.2.2.2.2.2 e.2.2).1.2.2.2.2.2.1 = 0 ∧ (X.2.2.2.2.2.2.2.2 e.2.2).1.2.2.2.2.2.2 = 0 ∧ Cond.instanceMethod (X.2.2.2.2.2.2.2.2 e.2.2).1.1 ∈ zgt ∧ Cond.selects (X.2.2.2.2.2.2.2.2 e.2.2).1.1.cls (X.2.2.2.2.2.2.2.2 e.2.2).1.1 (X.2.2.2.2.2.2.2.2 e.2.2).1.1 ∈ zgt ∧ ∃ rr : vw_C, vwCl[(X.2.2.2.2.2.2.2.2 e.2.2).2.2.2]? = some rr ∧ rr.1 = (X.2.2.2.2.2.2.2.2 e.2.2).1.1.cls) ∧
    ((X.2.2.2.2.2.2.2.2 e.2.2).2.2.1 = 1 → (X.2.2.2.2.2.2.2.2 e.2.2).1.2.2.2.2.2.1 = 0 ∧ (X.2.2.2.2.2.2.2.2 e.2.2).1.2.2.2.2.2.2 = 0 ∧ Cond.static (X.2.2.2.2.2.2.2.2 e.2.2).1.1 ∈ zgt) ∧
    ((X.2.2.2.2.2.2.2.2 e.2.2).2.2.1 = 2 → (X.2.2.2.2.2.2.2.2 e.2.2).1.2.2.2.1 = none ∧ (X.2.2.2.2.2.2.2.2 e.2.2).1.1.name = "<init>" ∧ Cond.instanceMethod (X.2.2.2.2.2.2.2.2 e.2.2).1.1 ∈ zgt))
/-- one step of the abstract machine, and what it asks of the machine -/
def zSO (p : Program) (l : Launch) (e : Env) (R : Room) (s : State) (m : MethodId) (args : Array Value) (below : List Frame) (meth : Method) (c : Code) (Q : State → Prop) (D : va_G) (cA : Nat → ClassId) (ro : Nat → Nat) (b : Nat) (w0 : zW) (nL mcT msT : Nat) (mi : Nat → zMi × Nat × Nat × Nat) (rank : Nat) (res : zR) (tp : Nat → Nat) (pc len : Nat) (x : zS) (o : zO) : Prop := match o with
  | .inl x' => zG p l e R s m args below meth c Q D cA ro b w0 nL mcT msT (pc + len) x' → zG p l e R s m args below meth c Q D cA ro b w0 nL mcT msT pc x
  | .inr (.inl (t, x')) => zG p l e R s m args below meth c Q D cA ro b w0 nL mcT msT (tp t) x' → zG p l e R s m args below meth c Q D cA ro b w0 nL mcT msT pc x
  | .inr (.inr (.inl (vs, w))) => ((vs, w) = res → zG p l e R s m args below meth c Q D cA ro b w0 nL mcT msT pc x)
  | .inr (.inr (.inr (.inl (j, as, (ls, st, w, bc, bs))))) => ∀ vs w', ((mi j).1.2.2.2.2.1 < rank → zCon l D cA ro b w0 (mi j).1 as w vs w') → zG p l e R s m args below meth c Q D cA ro b w0 nL mcT msT (pc + len) (ls, vs ++ st, w', bc, bs) → zG p l e R s m args below meth c Q D cA ro b w0 nL mcT msT pc x
  | .inr (.inr (.inr (.inr ()))) => True
