/-! the tables of part 02 are what the Statement's tables say: each by a program that the kernel runs -/
def jmp (pc : Nat) (off : Int) : Nat := ((pc : Int) + off).toNat
def jpos (pc : Nat) (off : Int) : Bool := decide (0 ≤ (pc : Int) + off)
def lnOk (pc : Nat) (i : Instr) (n : Nat) : Bool := match i with
  | .tableswitch d lo hi offs => jpos pc d && offs.toList.all (jpos pc) && decide (hi = lo + offs.toList.length - 1) && decide (-1000 ≤ lo) && decide (hi ≤ 1000)
  | .lookupswitch d ps => jpos pc d && ps.toList.all (fun q => jpos pc q.2 && decide (-1000000 ≤ q.1) && decide (q.1 ≤ 1000000)) && (ps.toList.zip (ps.toList.drop 1)).all (fun (a, next) => a.1 < next.1)
  | .goto o => jpos pc o && n == 3
  | .ifCond _ o => jpos pc o && n == 3
  | .if_icmp _ o => jpos pc o && n == 3
  | .ifnonnull o => jpos pc o && n == 3
  | .ifnull o => jpos pc o && n == 3
  | .bipush _ => n == 2
  | .sipush _ => n == 3
  | .iload _ => n == 2
  | .lload _ => n == 2
  | .aload _ => n == 2
  | .istore _ => n == 2
  | .lstore _ => n == 2
  | .astore _ => n == 2
  | .iinc _ _ => n == 3
  | .getfield _ => n == 3
  | .putfield _ => n == 3
  | .invokevirtual _ => n == 3
  | .invokestatic _ => n == 3
  | .invokespecial _ => n == 3
  | .new _ => n == 3
  | .newarray _ => n == 2
  | .anewarray _ => n == 3
  | .ldc _ => n == 2
  | .ldc2_w _ => n == 3
  | _ => n == 1
def dchk (cc : ByteArray) (tb : List (Nat × Instr × Nat)) : Bool := tb.all fun q => decide (decode cc q.1 = .ok (q.2.1, q.2.2)) && lnOk q.1 q.2.1 q.2.2
def mchk (e : MEnt) : Bool := dchk e.2.1 e.2.2.2.2.2 && plainName e.1.cls && decide (e.2.2.1 ≤ 12) && decide (e.1.cls ≠ "java/lang/invoke/MethodHandle") && decide (e.1.cls ≠ "java/lang/invoke/VarHandle")
theorem mch_0 : MT_0.all mchk = true := by decide +kernel
theorem mch_1 : MT_1.all mchk = true := by decide +kernel
theorem mch_2 : MT_2.all mchk = true := by decide +kernel
theorem mch_3 : MT_3.all mchk = true := by decide +kernel
theorem mch_4 : MT_4.all mchk = true := by decide +kernel
theorem mch_5 : MT_5.all mchk = true := by decide +kernel
theorem mch_6 : MT_6.all mchk = true := by decide +kernel
theorem mch_7 : MT_7.all mchk = true := by decide +kernel
theorem mch_8 : MT_8.all mchk = true := by decide +kernel
theorem mch_9 : MT_9.all mchk = true := by decide +kernel
theorem mch_10 : MT_10.all mchk = true := by decide +kernel
theorem mch_11 : MT_11.all mchk = true := by decide +kernel
theorem mch_12 : MT_12.all mchk = true := by decide +kernel
theorem mch : ∀ e ∈ MT, mchk e = true := by
  have h : MT.all mchk = true := by
    simp only [MT, List.all_append, mch_0, mch_1, mch_2, mch_3, mch_4, mch_5, mch_6, mch_7, mch_8, mch_9, mch_10, mch_11, mch_12, Bool.and_self]
  exact List.all_eq_true.mp h
theorem mcl_0 : dchk code tbl_0 = true := by decide +kernel
theorem mcl_1 : dchk code tbl_1 = true := by decide +kernel
theorem mcl_2 : dchk code tbl_2 = true := by decide +kernel
theorem mcl_3 : dchk code tbl_3 = true := by decide +kernel
theorem mcl_4 : dchk code tbl_4 = true := by decide +kernel
theorem mcl_5 : dchk code tbl_5 = true := by decide +kernel
theorem mcl_6 : dchk code tbl_6 = true := by decide +kernel
theorem mcl_7 : dchk code tbl_7 = true := by decide +kernel
theorem mcl_8 : dchk code tbl_8 = true := by decide +kernel
theorem mcl_9 : dchk code tbl_9 = true := by decide +kernel
theorem mcl : dchk code tb_204 = true := by
  have e : ∀ a b, dchk code (a ++ b) = (dchk code a && dchk code b) := fun a b => by simp only [dchk, List.all_append]
  simp only [tb_204, e, mcl_0, mcl_1, mcl_2, mcl_3, mcl_4, mcl_5, mcl_6, mcl_7, mcl_8, mcl_9, Bool.and_self]
