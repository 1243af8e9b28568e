/-! ===== the tables of steps are the methods' bytecode: resolved by program, checked by the kernel ===== -/
def vl (own idx : Nat) : Option Nat := (vlinks.find? fun q => Nat.beq q.1 own && Nat.beq q.2.1 idx).map (fun q => q.2.2.1)
def nl (own idx : Nat) : Option Nat := (nlinks.find? fun q => Nat.beq q.1 own && Nat.beq q.2.1 idx).map (fun q => q.2.2.1)
def fl (own idx : Nat) : Option (Nat × Nat) := (flinks.find? fun q => Nat.beq q.1 own && Nat.beq q.2.1 idx).map (fun q => (q.2.2.1, q.2.2.2.1))
def fnl (own idx : Nat) : Option (Nat × Nat) := (fnlinks.find? fun q => Nat.beq q.1 own && Nat.beq q.2.1 idx).map (fun q => (q.2.2.1, q.2.2.2.1))
def cnum (c : Jvm.ClassFile.Cond) : Nat := match c with
  | .eq => 0
  | .ne => 1
  | .lt => 2
  | .ge => 3
  | .gt => 4
  | .le => 5
/-- an instruction as a step -/
def ab (mi pc : Nat) (ins : Instr) (len : Nat) : Option Op := match ins with
  | .iload_n k => if len = 1 then some (0, k.val, pc + 1, 0, 0) else none
  | .iload i => if len = 2 then some (0, i, pc + 2, 0, 0) else none
  | .aload_n k => if len = 1 then some (26, k.val, pc + 1, 0, 0) else none
  | .aload i => if len = 2 then some (26, i, pc + 2, 0, 0) else none
  | .iconst n => if len = 1 then some (1, 0, pc + 1, 0, Int32.ofInt n) else none
  | .bipush n => if len = 2 then some (1, 0, pc + 2, 0, (Int8.ofInt n).toInt32) else none
  | .sipush n => if len = 3 then some (1, 0, pc + 3, 0, (Int16.ofInt n).toInt32) else none
  | .iadd => if len = 1 then some (2, 0, pc + 1, 0, 0) else none
  | .isub => if len = 1 then some (2, 1, pc + 1, 0, 0) else none
  | .imul => if len = 1 then some (2, 2, pc + 1, 0, 0) else none
  | .iand => if len = 1 then some (2, 3, pc + 1, 0, 0) else none
  | .ishr => if len = 1 then some (2, 4, pc + 1, 0, 0) else none
  | .idiv => if len = 1 then some (2, 5, pc + 1, 0, 0) else none
  | .irem => if len = 1 then some (2, 6, pc + 1, 0, 0) else none
  | .istore_n k => if len = 1 ∧ k.val < mL mi then some (3, k.val, pc + 1, 0, 0) else none
  | .istore i => if len = 2 ∧ i < mL mi then some (3, i, pc + 2, 0, 0) else none
  | .astore_n k => if len = 1 ∧ k.val < mL mi then some (27, k.val, pc + 1, 0, 0) else none
  | .astore i => if len = 2 ∧ i < mL mi then some (27, i, pc + 2, 0, 0) else none
  | .iinc i n => if len = 3 ∧ i < mL mi then some (4, i, pc + 3, 0, Int32.ofInt n) else none
  | .if_icmp c off => if len = 3 ∧ 0 ≤ (pc : Int) + off then some (5, cnum c, pc + 3, ((pc : Int) + off).toNat, 0) else none
  | .ifCond c off => if len = 3 ∧ 0 ≤ (pc : Int) + off then some (6, cnum c, pc + 3, ((pc : Int) + off).toNat, 0) else none
  | .goto off => if len = 3 ∧ 0 ≤ (pc : Int) + off then some (7, 0, ((pc : Int) + off).toNat, 0, 0) else none
  | .ifnull off => if len = 3 ∧ 0 ≤ (pc : Int) + off then some (21, 0, pc + 3, ((pc : Int) + off).toNat, 0) else none
  | .ifnonnull off => if len = 3 ∧ 0 ≤ (pc : Int) + off then some (22, 0, pc + 3, ((pc : Int) + off).toNat, 0) else none
  | .getfield idx => if len = 3 then (match fl (mOwn mi) idx with
    | some (c, k) => some (8, c, pc + 3, k, 0)
    | none => match fnl (mOwn mi) idx with
      | some (c, k) => some (8, c, pc + 3, k, 1)
      | none => none) else none
  | .putfield idx => if len = 3 then (match fl (mOwn mi) idx with
    | some (c, k) => if (c, k) = (3, 1) ∨ (c, k) = (4, 2) ∨ (c, k) = (4, 5) then some (9, c, pc + 3, k, 0) else none
    | none => none) else none
  | .iaload => if len = 1 then some (10, 0, pc + 1, 0, 0) else none
  | .iastore => if len = 1 then some (11, 0, pc + 1, 0, 0) else none
  | .aaload => if len = 1 then some (12, 0, pc + 1, 0, 0) else none
  | .dup => if len = 1 then some (18, 0, pc + 1, 0, 0) else none
  | .dup2 => if len = 1 then some (19, 0, pc + 1, 0, 0) else none
  | .pop => if len = 1 then some (20, 0, pc + 1, 0, 0) else none
  | .i2l => if len = 1 then some (23, 0, pc + 1, 0, 0) else none
  | .ldc2_w idx => if len = 3 ∧ ((mOwn mi, idx) = (3, 89) ∨ (mOwn mi, idx) = (4, 104)) then some (24, 0, pc + 3, 0, 0) else none
  | .invokevirtual idx => if len = 3 then (match vl (mOwn mi) idx with
    | some mj => if mS mj = false ∧ (mY mj).name ≠ "<init>" then some (14, mj, pc + 3, 16 * mOwn mj + mN mj, 0) else none
    | none => none) else none
  | .invokestatic idx => if len = 3 then (match vl (mOwn mi) idx with
    | some mj => if mS mj = true ∧ mOwn mj = mOwn mi then some (15, mj, pc + 3, 16 * mOwn mj + mN mj, 0) else none
    | none => match nl (mOwn mi) idx with
      | some mj => if mS mj = true then some (16, mj, pc + 3, 16 * mOwn mj + mN mj, 0) else none
      | none => if mOwn mi = 0 ∧ idx = 15 then some (25, 0, pc + 3, 0, 0) else none) else none
  | .ireturn => if len = 1 then (if mR mi = some .int then some (13, 0, 0, 0, 0) else if mR mi = some .boolean then some (13, 1, 0, 0, 0) else none) else none
  | .areturn => if len = 1 ∧ mR mi = some (.object "LayeredImage$Image") then some (13, 2, 0, 0, 0) else none
  | .lreturn => if len = 1 ∧ mR mi = some .long then some (13, 3, 0, 0, 0) else none
  | .return_ => if len = 1 ∧ mR mi = none then some (17, 0, 0, 0, 0) else none
  | _ => none
def chk1 (mi pc : Nat) (o : Op) : Bool := match decode (mC mi) pc with
  | .ok (ins, len) => decide (ab mi pc ins len = some o)
  | _ => false
def tk (mi : Nat) : Bool := match nth2 tblT mi with
  | none => true
  | some t => (List.range (16 * t.length)).all fun pc => match nth2 t pc with
    | some (some o) => chk1 mi pc o
    | _ => true
theorem nth_lt {α : Type} {l : List α} {n : Nat} {a : α} (h : nth l n = some a) : n < l.length := by
  induction l generalizing n with
  | nil => simp [nth] at h
  | cons b l ih =>
    cases n with
    | zero => simp
    | succ n => simp only [nth] at h; have := ih h; simp; omega
