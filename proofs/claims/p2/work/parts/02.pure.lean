/-! instructions that move the place, the locals and the stack alone. An entry of a method's table: the instruction, its length, a number of its own (a constant, a target, a local's place) -/
def rf_b2 (st : List Nat) (g : Nat → Nat → Option Nat) : Option (List Nat) := match st with
  | b :: a :: r => if a % 4 = 0 ∧ b % 4 = 0 then (g (a / 4) (b / 4)).map (fun z => 4 * z :: r) else none
  | _ => none
def rf_c1 (st : List Nat) (g : Nat → Bool) (t n : Nat) : Option (Nat × List Nat) := match st with
  | a :: r => if a % 4 = 0 then some (if g (a / 4) then t else n, r) else none
  | _ => none
def rf_c2 (st : List Nat) (g : Nat → Nat → Bool) (t n : Nat) : Option (Nat × List Nat) := match st with
  | b :: a :: r => if a % 4 = 0 ∧ b % 4 = 0 then some (if g (a / 4) (b / 4) then t else n, r) else none
  | _ => none
/-- a local is read: an int (0), a reference (1), a long (3) -/
def rf_ld (ls st : List Nat) (i tag : Nat) : Option (List Nat) := match rf_at ls i with
  | some v => if v % 4 = tag then some (v :: st) else none
  | none => none
/-- a local of one slot is written; not behind a long -/
def rf_pv (ls : List Nat) (i : Nat) : Bool := match i with
  | 0 => true
  | j + 1 => match rf_at ls j with
    | some w => decide (w % 4 ≠ 3)
    | none => true
def rf_sd (ls st : List Nat) (i tag : Nat) : Option (List Nat × List Nat) := match st with
  | v :: r => if v % 4 = tag ∧ i < ls.length ∧ rf_pv ls i = true then some (rf_put ls i v, r) else none
  | _ => none
def rf_int (z : Nat) : Nat := z % rf_M
def rf_pure (i : Instr) (len a pc : Nat) (ls st : List Nat) : Option (Nat × List Nat × List Nat) :=
  match i with
  | .iconst _ | .bipush _ | .sipush _ => some (pc + len, ls, 4 * a :: st)
  | .iload_n _ | .iload _ => (rf_ld ls st a 0).map fun u => (pc + len, ls, u)
  | .aload_n _ | .aload _ => (rf_ld ls st a 1).map fun u => (pc + len, ls, u)
  | .istore_n _ | .istore _ => (rf_sd ls st a 0).map fun u => (pc + len, u.1, u.2)
  | .astore_n _ | .astore _ => (rf_sd ls st a 1).map fun u => (pc + len, u.1, u.2)
  | .iinc j _ => match rf_at ls j with
    | some v => if v % 4 = 0 then (rf_sd ls (4 * ((v / 4 + a) % rf_M) :: st) j 0).map fun u => (pc + len, u.1, u.2) else none
    | none => none
  | .iadd => (rf_b2 st fun x y => some ((x + y) % rf_M)).map fun u => (pc + len, ls, u)
  | .isub => (rf_b2 st fun x y => some ((rf_M - y % rf_M + x) % rf_M)).map fun u => (pc + len, ls, u)
  | .imul => (rf_b2 st fun x y => some ((x * y) % rf_M)).map fun u => (pc + len, ls, u)
  | .iand => (rf_b2 st fun x y => some ((x % rf_M) &&& (y % rf_M))).map fun u => (pc + len, ls, u)
  | .ior => (rf_b2 st fun x y => some ((x % rf_M) ||| (y % rf_M))).map fun u => (pc + len, ls, u)
  | .ixor => (rf_b2 st fun x y => some ((x % rf_M) ^^^ (y % rf_M))).map fun u => (pc + len, ls, u)
  | .ishl => (rf_b2 st fun x y => if y < 32 then some (x % rf_M * 2 ^ y % rf_M) else none).map fun u => (pc + len, ls, u)
  | .ishr => (rf_b2 st fun x y => if x < 2147483648 ∧ y < 32 then some (x / 2 ^ y) else none).map fun u => (pc + len, ls, u)
  | .iushr => (rf_b2 st fun x y => if x < rf_M ∧ y < 32 then some (x / 2 ^ y) else none).map fun u => (pc + len, ls, u)
  | .idiv => (rf_b2 st fun x y => if x < 2147483648 ∧ 0 < y ∧ y < 2147483648 then some (x / y) else none).map fun u => (pc + len, ls, u)
  | .irem => (rf_b2 st fun x y => if x < 2147483648 ∧ 0 < y ∧ y < 2147483648 then some (x % y) else none).map fun u => (pc + len, ls, u)
  | .dup => match st with
    | x :: r => if x % 4 = 3 then none else some (pc + len, ls, x :: x :: r)
    | _ => none
  | .pop => match st with
    | x :: r => if x % 4 = 3 then none else some (pc + len, ls, r)
    | _ => none
  | .dup_x1 => match st with
    | x :: y :: r => if x % 4 = 3 ∨ y % 4 = 3 then none else some (pc + len, ls, x :: y :: x :: r)
    | _ => none
  | .dup2 => match st with
    | x :: y :: r => if x % 4 = 3 ∨ y % 4 = 3 then none else some (pc + len, ls, x :: y :: x :: y :: r)
    | _ => none
  | .ifCond .eq _ => (rf_c1 st (fun x => decide (x % rf_M = 0)) a (pc + len)).map fun u => (u.1, ls, u.2)
  | .ifCond .ne _ => (rf_c1 st (fun x => decide (¬ x % rf_M = 0)) a (pc + len)).map fun u => (u.1, ls, u.2)
  | .ifCond .lt _ => (rf_c1 st (fun x => decide (rf_k x < 2147483648)) a (pc + len)).map fun u => (u.1, ls, u.2)
  | .ifCond .ge _ => (rf_c1 st (fun x => decide (2147483648 ≤ rf_k x)) a (pc + len)).map fun u => (u.1, ls, u.2)
  | .ifCond .gt _ => (rf_c1 st (fun x => decide (2147483648 < rf_k x)) a (pc + len)).map fun u => (u.1, ls, u.2)
  | .ifCond .le _ => (rf_c1 st (fun x => decide (rf_k x ≤ 2147483648)) a (pc + len)).map fun u => (u.1, ls, u.2)
  | .if_icmp .eq _ => (rf_c2 st (fun x y => decide (x % rf_M = y % rf_M)) a (pc + len)).map fun u => (u.1, ls, u.2)
  | .if_icmp .ne _ => (rf_c2 st (fun x y => decide (¬ x % rf_M = y % rf_M)) a (pc + len)).map fun u => (u.1, ls, u.2)
  | .if_icmp .lt _ => (rf_c2 st (fun x y => decide (rf_k x < rf_k y)) a (pc + len)).map fun u => (u.1, ls, u.2)
  | .if_icmp .ge _ => (rf_c2 st (fun x y => decide (rf_k y ≤ rf_k x)) a (pc + len)).map fun u => (u.1, ls, u.2)
  | .if_icmp .gt _ => (rf_c2 st (fun x y => decide (rf_k y < rf_k x)) a (pc + len)).map fun u => (u.1, ls, u.2)
  | .if_icmp .le _ => (rf_c2 st (fun x y => decide (rf_k x ≤ rf_k y)) a (pc + len)).map fun u => (u.1, ls, u.2)
  | .if_acmp .eq _ => match st with
    | x :: y :: r => if x % 4 = 1 ∧ x = y then some (a, ls, r) else none
    | _ => none
  | .if_acmp .ne _ => match st with
    | x :: y :: r => if x % 4 = 1 ∧ x = y then some (pc + len, ls, r) else none
    | _ => none
  | .goto _ => some (a, ls, st)
  | .i2l => match st with
    | x :: r => if x % 4 = 0 then some (pc + len, ls, (4 * (if x / 4 % rf_M < 2147483648 then x / 4 % rf_M else x / 4 % rf_M + 18446744069414584320) + 3) :: r) else none
    | _ => none
  | _ => none
/-- what the entry of a table says beside the instruction: its own number is the constant, the target, the place -/
def rf_own (i : Instr) (len a pc : Nat) : Prop :=
  match i with
  | .iconst n => len = 1 ∧ Int32.ofInt n = Int32.ofNat a
  | .bipush n => len = 2 ∧ (Int8.ofInt n).toInt32 = Int32.ofNat a
  | .sipush n => len = 3 ∧ (Int16.ofInt n).toInt32 = Int32.ofNat a
  | .iload_n k | .aload_n k | .istore_n k | .astore_n k => len = 1 ∧ (k : Nat) = a
  | .iload k | .aload k | .istore k | .astore k => len = 2 ∧ k = a
  | .iinc _ n => len = 3 ∧ Int32.ofInt n = Int32.ofNat a
  | .ifCond _ off | .if_icmp _ off | .if_acmp _ off | .goto off => len = 3 ∧ (pc : Int) + off = (a : Int)
  | .getfield _ | .putfield _ | .getstatic _ | .new _ | .anewarray _ | .checkcast _ | .invokestatic _ | .invokevirtual _ | .invokespecial _ => len = 3
  | .invokeinterface _ _ => len = 5
  | .newarray _ | .ldc _ => len = 2
  | .multianewarray _ _ => len = 4
  | _ => len = 1
