section
/-! THE ROOM, READ IN THE DEFINITIONS: where the law's call, still under way, has made more cells (or more fields and elements) than the statement allows, the statement is false: the heap never shrinks, and the call ends at most once -/
theorem rm_end {fl : List String} {file : ClassFile.Facts.File} {x : MethodName} {cd : ByteArray} {mL : Nat} {rt : Option ClassFile.FieldType} {World : Launch → Prop} {ts : List Cond} {room : Room}
    {calls rest Pre : Tables → Env → Array Value → State → Prop} {P : Tables → Env → Array Value → State → Outcome → State → Prop} {L : Array Value → State → List Loc} {K N : Nat}
    (h : ArmFor fl file x cd mL rt World ts room calls rest Pre (fun tb e a s o t => P tb e a s o t ∧ Framed s o t (L a s) K N))
    {l : Launch} {p : Program} {e : Env} {s : State} {m : MethodId} {args : Array Value} {below : List Frame}
    (hfl : l.flags = fl) (hl : Lists l file x cd mL rt ts room) (hW : World l) (ha : l.admits e) (hc : FairCas e.choices) (hk : FairClock e.choices)
    (hf : s.frames = Frame.invoking m args :: below) (hfit : argsFit s.vm m args = true) (hheap : heapFits s = true) (happ : (headSpec (Cond.code x cd mL rt :: ts) room).applies x e.platform s = true)
    (h1 : calls p.tables e args s) (h2 : rest p.tables e args s) (h3 : Pre p.tables e args s)
    {n : Nat} (hw : ∀ k, k ≤ n → Within (stepsAlone p.tables e k s) below) :
    (stepsAlone p.tables e n s).heap.size ≤ s.heap.size + K ∧ (stepsAlone p.tables e n s).slotsUsed ≤ s.slotsUsed + N := by
  obtain ⟨k, o, -, -, hend, -, -, -, hB⟩ := h l hfl hl hW p e ha hc hk s m args below hf hfit hheap happ ⟨h1, h2, h3⟩
  have hkn : n < k := by
    rcases Nat.lt_or_ge n k with q | q
    · exact q
    · exact absurd (hw k q) hend.not_within
  obtain ⟨j, rfl⟩ := Nat.exists_eq_add_of_lt hkn
  have hg := stepsAlone_heap_grows p.tables e (j + 1) (stepsAlone p.tables e n s)
  rw [← stepsAlone_add, ← Nat.add_assoc] at hg
  obtain ⟨-, -, b1, b2, b3, -⟩ := hB
  exact ⟨Nat.le_trans hg.1 b1, Nat.le_trans hg.2 (by
    have b2' : (stepsAlone p.tables e (n + j + 1) s).slotsUsed = _ := b2
    rw [b2']
    exact Nat.add_le_add_left b3 _)⟩
/-- so for this row -/
theorem rm_false (h : Claimed_1_1 ∨ Claimed_1_2) {l : Launch} {p : Program} {e : Env} {s : State} {m : MethodId} {args : Array Value} {below : List Frame}
    (hfl : l.flags = flags0) (hl : Lists l classFile x code maxLocals ret tables_1 room_1) (ha : l.admits e) (hc : FairCas e.choices) (hk : FairClock e.choices)
    (hf : s.frames = Frame.invoking m args :: below) (hfit : argsFit s.vm m args = true) (hheap : heapFits s = true) (happ : (headSpec (Cond.code x code maxLocals ret :: tables_1) room_1).applies x e.platform s = true)
    (h2 : rest_1 p.tables e args s) (h3 : Pre_1 p.tables e args s)
    {n : Nat} (hw : ∀ k, k ≤ n → Within (stepsAlone p.tables e k s) below) : ¬ (s.heap.size + 926202 < (stepsAlone p.tables e n s).heap.size ∨ s.slotsUsed + 6317499 < (stepsAlone p.tables e n s).slotsUsed) := by
  intro hq
  have hb : (stepsAlone p.tables e n s).heap.size ≤ s.heap.size + 926202 ∧ (stepsAlone p.tables e n s).slotsUsed ≤ s.slotsUsed + 6317499 := by
    rcases h with h | h
    · exact rm_end (P := postC limb_1_1) (L := fun a s => fieldLocs frame_1_writes a s ++ arrayLocs frame_1_arrays a s ++ staticLocs frame_1_statics s) h hfl hl trivial ha hc hk hf hfit hheap happ trivial h2 h3 hw
    · exact rm_end (P := postC limb_1_2) (L := fun a s => fieldLocs frame_1_writes a s ++ arrayLocs frame_1_arrays a s ++ staticLocs frame_1_statics s) h hfl hl trivial ha hc hk hf hfit hheap happ trivial h2 h3 hw
  omega
end
section
/-! A WALKER OF BYTECODE OVER NUMBERS: values as numbers (four times an int; a reference, one more; 2: null; a long, three more), lists of them; what the kernel computes with it is held against the machine below -/
def rf_n {β : Type} (n : Nat) (f : Nat → β) : β := match n with
  | 0 => f 0
  | k + 1 => f (k + 1)
theorem rf_n_eq {β : Type} (n : Nat) (f : Nat → β) : rf_n n f = f n := by cases n <;> rfl
def rf_l {β : Type} : List Nat → (List Nat → β) → β
  | [], f => f []
  | x :: t, f => rf_n x fun y => rf_l t fun u => f (y :: u)
theorem rf_l_eq {β : Type} : ∀ (l : List Nat) (f : List Nat → β), rf_l l f = f l
  | [], f => rfl
  | x :: t, f => by rw [rf_l, rf_n_eq, rf_l_eq t]
def rf_v (A : Nat → Nat) (v : Nat) : Value :=
  if v % 4 = 0 then .int (Int32.ofNat (v / 4)) else if v % 4 = 1 then .ref (A (v / 4)) else if v % 4 = 2 then .null else .long (Int64.ofNat (v / 4))
theorem rf_v0 {A : Nat → Nat} {v : Nat} (h : v % 4 = 0) : rf_v A v = .int (Int32.ofNat (v / 4)) := by simp [rf_v, h]
theorem rf_v1 {A : Nat → Nat} {v : Nat} (h : v % 4 = 1) : rf_v A v = .ref (A (v / 4)) := by simp [rf_v, h]
theorem rf_v2 {A : Nat → Nat} {v : Nat} (h : v % 4 = 2) : rf_v A v = .null := by simp [rf_v, h]
theorem rf_v3 {A : Nat → Nat} {v : Nat} (h : v % 4 = 3) : rf_v A v = .long (Int64.ofNat (v / 4)) := by simp [rf_v, h]
theorem rf_vi (A : Nat → Nat) (n : Nat) : rf_v A (4 * n) = .int (Int32.ofNat n) := by rw [rf_v0 (by omega)]; congr 2; omega
theorem rf_vr (A : Nat → Nat) (n : Nat) : rf_v A (4 * n + 1) = .ref (A n) := by rw [rf_v1 (by omega)]; congr 2; omega
theorem rf_vl (A : Nat → Nat) (n : Nat) : rf_v A (4 * n + 3) = .long (Int64.ofNat n) := by rw [rf_v3 (by omega)]; congr 2; omega
theorem rf_cat (A : Nat → Nat) (v : Nat) : (rf_v A v).category = if v % 4 = 3 then 2 else 1 := by
  unfold rf_v
  have h : v % 4 < 4 := Nat.mod_lt _ (by decide)
  split
  · rw [if_neg (by omega)]; rfl
  · split
    · rw [if_neg (by omega)]; rfl
    · split
      · rw [if_neg (by omega)]; rfl
      · rw [if_pos (by omega)]; rfl
/-! ints -/
def rf_M : Nat := 4294967296
theorem rf_mod (x : Nat) : Int32.ofNat (x % rf_M) = Int32.ofNat x := by
  apply Int32.toBitVec_inj.mp
  apply BitVec.eq_of_toNat_eq
  simp [rf_M]
theorem rf_add (x y : Nat) : Int32.ofNat x + Int32.ofNat y = Int32.ofNat ((x + y) % rf_M) := by rw [rf_mod, Int32.ofNat_add]
theorem rf_mul (x y : Nat) : Int32.ofNat x * Int32.ofNat y = Int32.ofNat ((x * y) % rf_M) := by rw [rf_mod, Int32.ofNat_mul]
theorem rf_eqm {x y : Nat} (h : x % rf_M = y % rf_M) : Int32.ofNat x = Int32.ofNat y := by rw [← rf_mod x, ← rf_mod y, h]
theorem rf_tn (x : Nat) : (Int32.ofNat x).toBitVec.toNat = x % rf_M := by simp [rf_M]
theorem rf_inj {x y : Nat} : Int32.ofNat x = Int32.ofNat y ↔ x % rf_M = y % rf_M := by
  constructor
  · intro h
    rw [← rf_tn x, ← rf_tn y, h]
  · exact rf_eqm
theorem rf_of {z : Int32} {n : Nat} (h : z.toBitVec.toNat = n % rf_M) : z = Int32.ofNat n := by
  apply Int32.toBitVec_inj.mp
  apply BitVec.eq_of_toNat_eq
  rw [h, rf_tn]
theorem rf_sub (x y : Nat) : Int32.ofNat x - Int32.ofNat y = Int32.ofNat ((rf_M - y % rf_M + x) % rf_M) := by
  apply rf_of
  rw [Int32.toBitVec_sub, BitVec.toNat_sub, rf_tn, rf_tn]
  unfold rf_M
  omega
theorem rf_and (x y : Nat) : Int32.ofNat x &&& Int32.ofNat y = Int32.ofNat ((x % rf_M) &&& (y % rf_M)) := by
  apply rf_of
  rw [Int32.toBitVec_and, BitVec.toNat_and, rf_tn, rf_tn]
  exact (Nat.mod_eq_of_lt (Nat.lt_of_le_of_lt Nat.and_le_left (Nat.mod_lt x (by decide)))).symm
theorem rf_or (x y : Nat) : Int32.ofNat x ||| Int32.ofNat y = Int32.ofNat ((x % rf_M) ||| (y % rf_M)) := by
  apply rf_of
  rw [Int32.toBitVec_or, BitVec.toNat_or, rf_tn, rf_tn]
  exact (Nat.mod_eq_of_lt (Nat.or_lt_two_pow (n := 32) (Nat.mod_lt x (by decide)) (Nat.mod_lt y (by decide)))).symm
theorem rf_xor (x y : Nat) : Int32.ofNat x ^^^ Int32.ofNat y = Int32.ofNat ((x % rf_M) ^^^ (y % rf_M)) := by
  apply rf_of
  rw [Int32.toBitVec_xor, BitVec.toNat_xor, rf_tn, rf_tn]
  exact (Nat.mod_eq_of_lt (Nat.xor_lt_two_pow (n := 32) (Nat.mod_lt x (by decide)) (Nat.mod_lt y (by decide)))).symm
theorem rf_s32 : ∀ y : Nat, y < 32 → ((Int32.ofNat y).toBitVec.smod 32).toNat = y := by decide +kernel
theorem rf_u32 : ∀ y : Nat, y < 32 → (((Int32.ofNat y).toUInt32 &&& Int32.toUInt32 31).toBitVec % 32).toNat = y := by decide +kernel
theorem rf_shl {x y : Nat} (hy : y < 32) : Int32.ofNat x <<< Int32.ofNat y = Int32.ofNat (x % rf_M * 2 ^ y % rf_M) := by
  apply rf_of
  rw [pk_shl _ _ y (rf_s32 y hy), rf_tn]
  unfold rf_M
  omega
theorem rf_shr {x y : Nat} (hx : x < 2147483648) (hy : y < 32) : Int32.ofNat x >>> Int32.ofNat y = Int32.ofNat (x / 2 ^ y) := pk_shrN hx _ y (rf_s32 y hy)
theorem rf_ushr {x y : Nat} (hx : x < rf_M) (hy : y < 32) : ((Int32.ofNat x).toUInt32 >>> ((Int32.ofNat y).toUInt32 &&& Int32.toUInt32 31)).toInt32 = Int32.ofNat (x / 2 ^ y) := pk_ushrN hx _ y (rf_u32 y hy)
theorem rf_toInt (x : Nat) : (Int32.ofNat x).toInt = if x % rf_M < 2147483648 then ((x % rf_M : Nat) : Int) else ((x % rf_M : Nat) : Int) - 4294967296 := by
  show (Int32.ofNat x).toBitVec.toInt = _
  rw [BitVec.toInt_eq_toNat_cond, rf_tn]
  unfold rf_M
  split <;> split <;> omega
/-- ints in the order of the signed ones -/
def rf_k (x : Nat) : Nat := (x + 2147483648) % rf_M
theorem rf_lt (x y : Nat) : Int32.ofNat x < Int32.ofNat y ↔ rf_k x < rf_k y := by
  rw [Int32.lt_iff_toInt_lt, rf_toInt, rf_toInt]
  unfold rf_k rf_M
  split <;> split <;> omega
theorem rf_le (x y : Nat) : Int32.ofNat x ≤ Int32.ofNat y ↔ rf_k x ≤ rf_k y := by
  rw [Int32.le_iff_toInt_le, rf_toInt, rf_toInt]
  unfold rf_k rf_M
  split <;> split <;> omega
theorem rf_div {x y : Nat} (hx : x < 2147483648) (h0 : 0 < y) (hy : y < 2147483648) : Int32.ofNat x / Int32.ofNat y = Int32.ofNat (x / y) := pk_div hx h0 hy
theorem rf_rem {x y : Nat} (hx : x < 2147483648) (h0 : 0 < y) (hy : y < 2147483648) : Int32.ofNat x - Int32.ofNat x / Int32.ofNat y * Int32.ofNat y = Int32.ofNat (x % y) := pk_rem hx h0 hy
theorem rf_ne0 {y : Nat} (h0 : 0 < y) (hy : y < 2147483648) : ¬ Int32.ofNat y = 0 := nI_ne0 h0 hy
theorem rf_clamp {x : Nat} (hx : x < 2147483648) : (Int32.ofNat x).toNatClampNeg = x := nI_clamp hx
theorem rf_z0 : (0 : Int32) = Int32.ofNat 0 := rfl
/-! lists -/
def rf_at {α : Type} : List α → Nat → Option α
  | [], _ => none
  | x :: _, 0 => some x
  | _ :: t, i + 1 => rf_at t i
theorem rf_at_eq {α : Type} : ∀ (l : List α) (i : Nat), rf_at l i = l[i]?
  | [], i => by simp [rf_at]
  | x :: t, 0 => by simp [rf_at]
  | x :: t, i + 1 => by simp [rf_at, rf_at_eq t i]
def rf_put : List Nat → Nat → Nat → List Nat
  | [], _, _ => []
  | _ :: t, 0, v => v :: t
  | x :: t, i + 1, v => x :: rf_put t i v
theorem rf_put_eq : ∀ (l : List Nat) (i v : Nat), rf_put l i v = l.set i v
  | [], i, v => by simp [rf_put]
  | x :: t, 0, v => by simp [rf_put]
  | x :: t, i + 1, v => by simp [rf_put, rf_put_eq t i v]
end
section
/-! instructions that move the place, the locals and the stack alone. An entry of a method's table: the instruction, its length, a number of its own (a constant, a target, a local's place) -/
def rf_b2 (st : List Nat) (g : Nat → Nat → Option Nat) : Option (List Nat) := match st with
  | b :: a :: r => if a % 4 = 0 ∧ b % 4 = 0 then (g (a / 4) (b / 4)).map (fun z => 4 * z :: r) else none
  | _ => none
def rf_c1 (st : List Nat) (g : Nat → Bool) (t n : Nat) : Option (Nat × List Nat) := match st with
  | a :: r => if a % 4 = 0 then some (if g (a / 4) then t else n, r) else none
  | _ => none
def rf_c2 (st : List Nat) (g : Nat → Nat → Bool) (t n : Nat) : Option (Nat × List Nat) := match st with
  | b :: a :: r => if a % 4 = 0 ∧ b % 4 = 0 then some (if g (a / 4) (b / 4) then t else n, r) else none
  | _ => none
/-- a local is read: an int (0), a reference (1), a long (3) -/
def rf_ld (ls st : List Nat) (i tag : Nat) : Option (List Nat) := match rf_at ls i with
  | some v => if v % 4 = tag then some (v :: st) else none
  | none => none
/-- a local of one slot is written; not behind a long -/
def rf_pv (ls : List Nat) (i : Nat) : Bool := match i with
  | 0 => true
  | j + 1 => match rf_at ls j with
    | some w => decide (w % 4 ≠ 3)
    | none => true
def rf_sd (ls st : List Nat) (i tag : Nat) : Option (List Nat × List Nat) := match st with
  | v :: r => if v % 4 = tag ∧ i < ls.length ∧ rf_pv ls i = true then some (rf_put ls i v, r) else none
  | _ => none
def rf_int (z : Nat) : Nat := z % rf_M
def rf_pure (i : Instr) (len a pc : Nat) (ls st : List Nat) : Option (Nat × List Nat × List Nat) :=
  match i with
  | .iconst _ | .bipush _ | .sipush _ => some (pc + len, ls, 4 * a :: st)
  | .iload_n _ | .iload _ => (rf_ld ls st a 0).map fun u => (pc + len, ls, u)
  | .aload_n _ | .aload _ => (rf_ld ls st a 1).map fun u => (pc + len, ls, u)
  | .istore_n _ | .istore _ => (rf_sd ls st a 0).map fun u => (pc + len, u.1, u.2)
  | .astore_n _ | .astore _ => (rf_sd ls st a 1).map fun u => (pc + len, u.1, u.2)
  | .iinc j _ => match rf_at ls j with
    | some v => if v % 4 = 0 then (rf_sd ls (4 * ((v / 4 + a) % rf_M) :: st) j 0).map fun u => (pc + len, u.1, u.2) else none
    | none => none
  | .iadd => (rf_b2 st fun x y => some ((x + y) % rf_M)).map fun u => (pc + len, ls, u)
  | .isub => (rf_b2 st fun x y => some ((rf_M - y % rf_M + x) % rf_M)).map fun u => (pc + len, ls, u)
  | .imul => (rf_b2 st fun x y => some ((x * y) % rf_M)).map fun u => (pc + len, ls, u)
  | .iand => (rf_b2 st fun x y => some ((x % rf_M) &&& (y % rf_M))).map fun u => (pc + len, ls, u)
  | .ior => (rf_b2 st fun x y => some ((x % rf_M) ||| (y % rf_M))).map fun u => (pc + len, ls, u)
  | .ixor => (rf_b2 st fun x y => some ((x % rf_M) ^^^ (y % rf_M))).map fun u => (pc + len, ls, u)
  | .ishl => (rf_b2 st fun x y => if y < 32 then some (x % rf_M * 2 ^ y % rf_M) else none).map fun u => (pc + len, ls, u)
  | .ishr => (rf_b2 st fun x y => if x < 2147483648 ∧ y < 32 then some (x / 2 ^ y) else none).map fun u => (pc + len, ls, u)
  | .iushr => (rf_b2 st fun x y => if x < rf_M ∧ y < 32 then some (x / 2 ^ y) else none).map fun u => (pc + len, ls, u)
  | .idiv => (rf_b2 st fun x y => if x < 2147483648 ∧ 0 < y ∧ y < 2147483648 then some (x / y) else none).map fun u => (pc + len, ls, u)
  | .irem => (rf_b2 st fun x y => if x < 2147483648 ∧ 0 < y ∧ y < 2147483648 then some (x % y) else none).map fun u => (pc + len, ls, u)
  | .dup => match st with
    | x :: r => if x % 4 = 3 then none else some (pc + len, ls, x :: x :: r)
    | _ => none
  | .pop => match st with
    | x :: r => if x % 4 = 3 then none else some (pc + len, ls, r)
    | _ => none
  | .dup_x1 => match st with
    | x :: y :: r => if x % 4 = 3 ∨ y % 4 = 3 then none else some (pc + len, ls, x :: y :: x :: r)
    | _ => none
  | .dup2 => match st with
    | x :: y :: r => if x % 4 = 3 ∨ y % 4 = 3 then none else some (pc + len, ls, x :: y :: x :: y :: r)
    | _ => none
  | .ifCond .eq _ => (rf_c1 st (fun x => decide (x % rf_M = 0)) a (pc + len)).map fun u => (u.1, ls, u.2)
  | .ifCond .ne _ => (rf_c1 st (fun x => decide (¬ x % rf_M = 0)) a (pc + len)).map fun u => (u.1, ls, u.2)
  | .ifCond .lt _ => (rf_c1 st (fun x => decide (rf_k x < 2147483648)) a (pc + len)).map fun u => (u.1, ls, u.2)
  | .ifCond .ge _ => (rf_c1 st (fun x => decide (2147483648 ≤ rf_k x)) a (pc + len)).map fun u => (u.1, ls, u.2)
  | .ifCond .gt _ => (rf_c1 st (fun x => decide (2147483648 < rf_k x)) a (pc + len)).map fun u => (u.1, ls, u.2)
  | .ifCond .le _ => (rf_c1 st (fun x => decide (rf_k x ≤ 2147483648)) a (pc + len)).map fun u => (u.1, ls, u.2)
  | .if_icmp .eq _ => (rf_c2 st (fun x y => decide (x % rf_M = y % rf_M)) a (pc + len)).map fun u => (u.1, ls, u.2)
  | .if_icmp .ne _ => (rf_c2 st (fun x y => decide (¬ x % rf_M = y % rf_M)) a (pc + len)).map fun u => (u.1, ls, u.2)
  | .if_icmp .lt _ => (rf_c2 st (fun x y => decide (rf_k x < rf_k y)) a (pc + len)).map fun u => (u.1, ls, u.2)
  | .if_icmp .ge _ => (rf_c2 st (fun x y => decide (rf_k y ≤ rf_k x)) a (pc + len)).map fun u => (u.1, ls, u.2)
  | .if_icmp .gt _ => (rf_c2 st (fun x y => decide (rf_k y < rf_k x)) a (pc + len)).map fun u => (u.1, ls, u.2)
  | .if_icmp .le _ => (rf_c2 st (fun x y => decide (rf_k x ≤ rf_k y)) a (pc + len)).map fun u => (u.1, ls, u.2)
  | .if_acmp .eq _ => match st with
    | x :: y :: r => if x % 4 = 1 ∧ x = y then some (a, ls, r) else none
    | _ => none
  | .if_acmp .ne _ => match st with
    | x :: y :: r => if x % 4 = 1 ∧ x = y then some (pc + len, ls, r) else none
    | _ => none
  | .goto _ => some (a, ls, st)
  | .i2l => match st with
    | x :: r => if x % 4 = 0 then some (pc + len, ls, (4 * (if x / 4 % rf_M < 2147483648 then x / 4 % rf_M else x / 4 % rf_M + 18446744069414584320) + 3) :: r) else none
    | _ => none
  | _ => none
/-- what the entry of a table says beside the instruction: its own number is the constant, the target, the place -/
def rf_own (i : Instr) (len a pc : Nat) : Prop :=
  match i with
  | .iconst n => len = 1 ∧ Int32.ofInt n = Int32.ofNat a
  | .bipush n => len = 2 ∧ (Int8.ofInt n).toInt32 = Int32.ofNat a
  | .sipush n => len = 3 ∧ (Int16.ofInt n).toInt32 = Int32.ofNat a
  | .iload_n k | .aload_n k | .istore_n k | .astore_n k => len = 1 ∧ (k : Nat) = a
  | .iload k | .aload k | .istore k | .astore k => len = 2 ∧ k = a
  | .iinc _ n => len = 3 ∧ Int32.ofInt n = Int32.ofNat a
  | .ifCond _ off | .if_icmp _ off | .if_acmp _ off | .goto off => len = 3 ∧ (pc : Int) + off = (a : Int)
  | .getfield _ | .putfield _ | .getstatic _ | .new _ | .anewarray _ | .checkcast _ | .invokestatic _ | .invokevirtual _ | .invokespecial _ => len = 3
  | .invokeinterface _ _ => len = 5
  | .newarray _ | .ldc _ => len = 2
  | .multianewarray _ _ => len = 4
  | _ => len = 1
end
section
/-! the locals: what a list of numbers says of the frame's slots (6: nothing) -/
def rf_H (A : Nat → Nat) (nL : Nat) (lsA : Array Slot) (ls : List Nat) : Prop := lsA.size = nL ∧ lv_wf lsA ∧ ls.length ≤ nL ∧ ∀ (i v : Nat), ls[i]? = some v → v ≠ 6 → lsA[i]? = some (.val (rf_v A v))
def rf_lv (A : Nat → Nat) (ls : List Nat) : List (Nat × Value) := (List.range ls.length).filterMap fun i => (ls[i]?).bind fun v => if v = 6 then none else some (i, rf_v A v)
theorem rf_lv_mem {A : Nat → Nat} {ls : List Nat} {i v : Nat} (h : ls[i]? = some v) (h6 : v ≠ 6) : (i, rf_v A v) ∈ rf_lv A ls := by
  refine List.mem_filterMap.mpr ⟨i, List.mem_range.mpr (List.getElem?_eq_some_iff.mp h).1, ?_⟩
  rw [h]
  simp [h6]
theorem rf_has {A : Nat → Nat} {nL : Nat} {lsA : Array Slot} {ls : List Nat} (h : rf_H A nL lsA ls) : lv_has lsA nL (rf_lv A ls) := by
  refine ⟨h.1, h.2.1, fun q hq => ?_⟩
  obtain ⟨i, -, hi⟩ := List.mem_filterMap.mp hq
  cases hv : ls[i]? with
  | none => rw [hv] at hi; cases hi
  | some v =>
    rw [hv] at hi
    simp only [Option.bind_some] at hi
    split at hi
    · cases hi
    · rename_i h6
      cases hi
      exact h.2.2.2 i v hv h6
theorem rf_ld_ok {ls st u : List Nat} {i tag : Nat} (h : rf_ld ls st i tag = some u) : ∃ v, ls[i]? = some v ∧ v % 4 = tag ∧ u = v :: st := by
  unfold rf_ld at h
  rw [rf_at_eq] at h
  split at h
  · rename_i v hv
    split at h
    · rename_i ht
      cases h
      exact ⟨v, hv, ht, rfl⟩
    · cases h
  · cases h
theorem rf_sd_ok {ls st : List Nat} {i tag : Nat} {u : List Nat × List Nat} (h : rf_sd ls st i tag = some u) : ∃ v, st = v :: u.2 ∧ v % 4 = tag ∧ i < ls.length ∧ (∀ j w, i = j + 1 → ls[j]? = some w → w % 4 ≠ 3) ∧ u.1 = ls.set i v := by
  unfold rf_sd at h
  split at h
  · rename_i v r
    split at h
    · rename_i hc
      cases h
      refine ⟨v, rfl, hc.1, hc.2.1, fun j w hj hw => ?_, rf_put_eq _ _ _⟩
      have h3 := hc.2.2
      subst hj
      simp only [rf_pv, rf_at_eq, hw] at h3
      simpa using h3
    · cases h
  · cases h
theorem rf_back {A : Nat → Nat} {nL : Nat} {lsA lsA' : Array Slot} {ls : List Nat} {i v : Nat} (hL : rf_H A nL lsA ls) (hp : ∀ j w, i = j + 1 → ls[j]? = some w → w % 4 ≠ 3)
    (h : lv_has lsA' nL ((i, rf_v A v) :: (rf_lv A ls).filter (fun q => !(q.1 == i) && !(q.1 + 1 == i && q.2.category == 2)))) : rf_H A nL lsA' (ls.set i v) := by
  refine ⟨h.1, h.2.1, by rw [List.length_set]; exact hL.2.2.1, fun j w hw h6 => ?_⟩
  by_cases hj : j = i
  · subst hj
    have hl : j < ls.length := by
      have := (List.getElem?_eq_some_iff.mp hw).1
      rwa [List.length_set] at this
    rw [List.getElem?_set_self hl] at hw
    cases hw
    exact h.2.2 (j, rf_v A v) List.mem_cons_self
  · rw [List.getElem?_set_ne (Ne.symm hj)] at hw
    refine h.2.2 (j, rf_v A w) (List.mem_cons_of_mem _ (List.mem_filter.mpr ⟨rf_lv_mem hw h6, ?_⟩))
    by_cases hji : i = j + 1
    · have := hp j w hji hw
      simp [hj, rf_cat, this]
    · have h2 : ¬ j + 1 = i := fun q => hji q.symm
      simp [hj, h2]
theorem rf_i2l (x : Nat) : (Int32.ofNat x).toInt64 = Int64.ofNat (if x % rf_M < 2147483648 then x % rf_M else x % rf_M + 18446744069414584320) := by
  apply Int64.toInt_inj.mp
  rw [Int32.toInt_toInt64, rf_toInt]
  show _ = (Int64.ofNat _).toBitVec.toInt
  rw [BitVec.toInt_eq_toNat_cond, Int64.toBitVec_ofNat', BitVec.toNat_ofNat]
  unfold rf_M
  split <;> split <;> omega
section RFR
variable {p : Program} {l : Launch} {e : Env} {R : Room} {s : State} {m : MethodId} {args : Array Value} {below : List Frame} {meth : Method} {c : Code} {H : Heap} {locs : List Loc} {cells slots : Nat} {Q : State → Prop} {lsA : Array Slot} {pc pc2 pc' t n : Nat} {A : Nat → Nat} {st r' : List Nat}
theorem rf_bin {g : Nat → Nat → Option Nat} {op : Int32 → Int32 → Int32} {u : List Nat} (hu : rf_b2 st g = some u) (hop : ∀ x y z, g x y = some z → op (Int32.ofNat x) (Int32.ofNat y) = Int32.ofNat z)
    (hrow : ∀ (x y : Nat) (rest : List Value), (∃ z, g x y = some z) → W p l e R s m args below meth c H locs cells slots Q (F0 m pc2 lsA (.int (op (Int32.ofNat x) (Int32.ofNat y)) :: rest)) → W p l e R s m args below meth c H locs cells slots Q (F0 m pc lsA (.int (Int32.ofNat y) :: .int (Int32.ofNat x) :: rest)))
    (k : W p l e R s m args below meth c H locs cells slots Q (F0 m pc2 lsA (u.map (rf_v A)))) : W p l e R s m args below meth c H locs cells slots Q (F0 m pc lsA (st.map (rf_v A))) := by
  unfold rf_b2 at hu
  split at hu
  · rename_i b a r
    split at hu
    · rename_i hc
      obtain ⟨z, hz, rfl⟩ := Option.map_eq_some_iff.mp hu
      rw [List.map_cons, List.map_cons, rf_v0 hc.1, rf_v0 hc.2]
      refine hrow _ _ _ ⟨z, hz⟩ ?_
      rw [hop _ _ z hz, ← rf_vi A z]
      exact k
    · cases hu
  · cases hu
theorem rf_cnd1 {g : Nat → Bool} {P : Int32 → Prop} (hu : rf_c1 st g t n = some (pc', r')) (hP : ∀ x, g x = true ↔ P (Int32.ofNat x))
    (hrow : ∀ (x : Nat) (rest : List Value), (P (Int32.ofNat x) → W p l e R s m args below meth c H locs cells slots Q (F0 m t lsA rest)) → (¬ P (Int32.ofNat x) → W p l e R s m args below meth c H locs cells slots Q (F0 m n lsA rest)) → W p l e R s m args below meth c H locs cells slots Q (F0 m pc lsA (.int (Int32.ofNat x) :: rest)))
    (k : W p l e R s m args below meth c H locs cells slots Q (F0 m pc' lsA (r'.map (rf_v A)))) : W p l e R s m args below meth c H locs cells slots Q (F0 m pc lsA (st.map (rf_v A))) := by
  unfold rf_c1 at hu
  split at hu
  · rename_i a r
    split at hu
    · rename_i hc
      cases hu
      rw [List.map_cons, rf_v0 hc]
      refine hrow _ _ (fun h => ?_) (fun h => ?_)
      · rw [if_pos ((hP _).mpr h)] at k
        exact k
      · rw [if_neg (fun q => h ((hP _).mp q))] at k
        exact k
    · cases hu
  · cases hu
theorem rf_cnd2 {g : Nat → Nat → Bool} {P : Int32 → Int32 → Prop} (hu : rf_c2 st g t n = some (pc', r')) (hP : ∀ x y, g x y = true ↔ P (Int32.ofNat x) (Int32.ofNat y))
    (hrow : ∀ (x y : Nat) (rest : List Value), (P (Int32.ofNat x) (Int32.ofNat y) → W p l e R s m args below meth c H locs cells slots Q (F0 m t lsA rest)) → (¬ P (Int32.ofNat x) (Int32.ofNat y) → W p l e R s m args below meth c H locs cells slots Q (F0 m n lsA rest)) → W p l e R s m args below meth c H locs cells slots Q (F0 m pc lsA (.int (Int32.ofNat y) :: .int (Int32.ofNat x) :: rest)))
    (k : W p l e R s m args below meth c H locs cells slots Q (F0 m pc' lsA (r'.map (rf_v A)))) : W p l e R s m args below meth c H locs cells slots Q (F0 m pc lsA (st.map (rf_v A))) := by
  unfold rf_c2 at hu
  split at hu
  · rename_i b a r
    split at hu
    · rename_i hc
      cases hu
      rw [List.map_cons, List.map_cons, rf_v0 hc.1, rf_v0 hc.2]
      refine hrow _ _ _ (fun h => ?_) (fun h => ?_)
      · rw [if_pos ((hP _ _).mpr h)] at k
        exact k
      · rw [if_neg (fun q => h ((hP _ _).mp q))] at k
        exact k
    · cases hu
  · cases hu
end RFR
end
section
section RFP
variable {p : Program} {l : Launch} {e : Env} {R : Room} {s : State} {m : MethodId} {args : Array Value} {below : List Frame} {meth : Method} {c : Code} {H : Heap} {locs : List Loc} {cells slots : Nat} {Q : State → Prop} {lsA : Array Slot} {pc nL : Nat} {A : Nat → Nat} {cc : ByteArray}
theorem rf_31 : ∀ y : Nat, y < 32 → (Int32.ofNat y &&& 31) = Int32.ofNat y := by decide +kernel
set_option maxHeartbeats 2000000 in
/-- one instruction of these: the machine does what the numbers do -/
theorem rf_pure_ok (hx : p.tables.exec = Jvm.exec) (hb : c.code = cc) {i : Instr} {len w pc' : Nat} {ls st ls' st' : List Nat} (hd : decode cc pc = .ok (i, len)) (ho : rf_own i len w pc) (hL : rf_H A nL lsA ls) (h : rf_pure i len w pc ls st = some (pc', ls', st'))
    (k : ∀ lsA' : Array Slot, rf_H A nL lsA' ls' → W p l e R s m args below meth c H locs cells slots Q (F0 m pc' lsA' (st'.map (rf_v A)))) : W p l e R s m args below meth c H locs cells slots Q (F0 m pc lsA (st.map (rf_v A))) := by
  cases i with
  | iconst n =>
    obtain ⟨rfl, h2⟩ := ho
    simp only [rf_pure, Option.some.injEq, Prod.mk.injEq] at h
    obtain ⟨rfl, rfl, rfl⟩ := h
    refine lv_iconst hx hb hd h2 ?_
    rw [← rf_vi A w]
    exact k lsA hL
  | bipush n =>
    obtain ⟨rfl, h2⟩ := ho
    simp only [rf_pure, Option.some.injEq, Prod.mk.injEq] at h
    obtain ⟨rfl, rfl, rfl⟩ := h
    refine lv_bipush hx hb hd h2 ?_
    rw [← rf_vi A w]
    exact k lsA hL
  | sipush n =>
    obtain ⟨rfl, h2⟩ := ho
    simp only [rf_pure, Option.some.injEq, Prod.mk.injEq] at h
    obtain ⟨rfl, rfl, rfl⟩ := h
    refine lv_sipush hx hb hd h2 ?_
    rw [← rf_vi A w]
    exact k lsA hL
  | iload_n n =>
    obtain ⟨rfl, h2⟩ := ho
    simp only [rf_pure, Option.map_eq_some_iff, Prod.mk.injEq] at h
    obtain ⟨u, hu, rfl, rfl, rfl⟩ := h
    obtain ⟨v, hv, ht, rfl⟩ := rf_ld_ok hu
    have hg := hL.2.2.2 w v hv (by omega)
    rw [rf_v0 ht] at hg
    refine lv_iload_n hx hb hd h2 hg ?_
    rw [← rf_v0 (A := A) ht]
    exact k lsA hL
  | iload n =>
    obtain ⟨rfl, rfl⟩ := ho
    simp only [rf_pure, Option.map_eq_some_iff, Prod.mk.injEq] at h
    obtain ⟨u, hu, rfl, rfl, rfl⟩ := h
    obtain ⟨v, hv, ht, rfl⟩ := rf_ld_ok hu
    have hg := hL.2.2.2 n v hv (by omega)
    rw [rf_v0 ht] at hg
    refine lv_iload hx hb hd hg ?_
    rw [← rf_v0 (A := A) ht]
    exact k lsA hL
  | aload_n n =>
    obtain ⟨rfl, h2⟩ := ho
    simp only [rf_pure, Option.map_eq_some_iff, Prod.mk.injEq] at h
    obtain ⟨u, hu, rfl, rfl, rfl⟩ := h
    obtain ⟨v, hv, ht, rfl⟩ := rf_ld_ok hu
    have hg := hL.2.2.2 w v hv (by omega)
    rw [rf_v1 ht] at hg
    refine lv_aload_n hx hb hd h2 hg ?_
    rw [← rf_v1 (A := A) ht]
    exact k lsA hL
  | aload n =>
    obtain ⟨rfl, rfl⟩ := ho
    simp only [rf_pure, Option.map_eq_some_iff, Prod.mk.injEq] at h
    obtain ⟨u, hu, rfl, rfl, rfl⟩ := h
    obtain ⟨v, hv, ht, rfl⟩ := rf_ld_ok hu
    have hg := hL.2.2.2 n v hv (by omega)
    rw [rf_v1 ht] at hg
    refine lv_aload hx hb hd hg ?_
    rw [← rf_v1 (A := A) ht]
    exact k lsA hL
  | istore_n n =>
    obtain ⟨rfl, h2⟩ := ho
    simp only [rf_pure, Option.map_eq_some_iff, Prod.mk.injEq] at h
    obtain ⟨u, hu, rfl, rfl, rfl⟩ := h
    obtain ⟨v, rfl, ht, hi, hp, e1⟩ := rf_sd_ok hu
    rw [e1] at k
    rw [List.map_cons, rf_v0 ht]
    refine lv_istore_n hx hb hd h2 (rf_has hL) (Nat.lt_of_lt_of_le hi hL.2.2.1) rfl (fun lsA' hl => k lsA' (rf_back hL hp ?_))
    rw [rf_v0 ht]
    exact hl
  | istore n =>
    obtain ⟨rfl, rfl⟩ := ho
    simp only [rf_pure, Option.map_eq_some_iff, Prod.mk.injEq] at h
    obtain ⟨u, hu, rfl, rfl, rfl⟩ := h
    obtain ⟨v, rfl, ht, hi, hp, e1⟩ := rf_sd_ok hu
    rw [e1] at k
    rw [List.map_cons, rf_v0 ht]
    refine lv_istore hx hb hd (rf_has hL) (Nat.lt_of_lt_of_le hi hL.2.2.1) rfl (fun lsA' hl => k lsA' (rf_back hL hp ?_))
    rw [rf_v0 ht]
    exact hl
  | astore_n n =>
    obtain ⟨rfl, h2⟩ := ho
    simp only [rf_pure, Option.map_eq_some_iff, Prod.mk.injEq] at h
    obtain ⟨u, hu, rfl, rfl, rfl⟩ := h
    obtain ⟨v, rfl, ht, hi, hp, e1⟩ := rf_sd_ok hu
    rw [e1] at k
    rw [List.map_cons, rf_v1 ht]
    refine lv_astore_n hx hb hd h2 (rf_has hL) (Nat.lt_of_lt_of_le hi hL.2.2.1) rfl (fun lsA' hl => k lsA' (rf_back hL hp ?_))
    rw [rf_v1 ht]
    exact hl
  | astore n =>
    obtain ⟨rfl, rfl⟩ := ho
    simp only [rf_pure, Option.map_eq_some_iff, Prod.mk.injEq] at h
    obtain ⟨u, hu, rfl, rfl, rfl⟩ := h
    obtain ⟨v, rfl, ht, hi, hp, e1⟩ := rf_sd_ok hu
    rw [e1] at k
    rw [List.map_cons, rf_v1 ht]
    refine lv_astore hx hb hd (rf_has hL) (Nat.lt_of_lt_of_le hi hL.2.2.1) rfl (fun lsA' hl => k lsA' (rf_back hL hp ?_))
    rw [rf_v1 ht]
    exact hl
  | iinc j n =>
    obtain ⟨rfl, h2⟩ := ho
    simp only [rf_pure, rf_at_eq] at h
    cases hv : ls[j]? with
    | none => rw [hv] at h; cases h
    | some v =>
      rw [hv] at h
      simp only at h
      split at h
      · rename_i ht
        obtain ⟨u, hu, he⟩ := Option.map_eq_some_iff.mp h
        simp only [Prod.mk.injEq] at he
        obtain ⟨rfl, rfl, rfl⟩ := he
        obtain ⟨v2, hv2, -, hi, hp, e1⟩ := rf_sd_ok hu
        simp only [List.cons.injEq] at hv2
        obtain ⟨rfl, hs⟩ := hv2
        rw [e1, ← hs] at k
        obtain ⟨q, hq⟩ := List.getElem?_of_mem (rf_lv_mem (A := A) hv (by omega))
        rw [rf_v0 ht] at hq
        refine lv_iinc hx hb hd (rf_has hL) hq rfl (Nat.lt_of_lt_of_le hi hL.2.2.1) rfl (fun lsA' hl => k lsA' (rf_back hL hp ?_))
        rw [rf_vi, ← rf_add, ← h2]
        exact hl
      · cases h
  | iadd =>
    obtain rfl : len = 1 := ho
    simp only [rf_pure, Option.map_eq_some_iff, Prod.mk.injEq] at h
    obtain ⟨u, hu, rfl, rfl, rfl⟩ := h
    exact rf_bin (op := fun x y => x + y) hu (fun x y z hz => by cases hz; exact rf_add x y) (fun x y rest _ q => lv_iadd hx hb hd q) (k lsA hL)
  | isub =>
    obtain rfl : len = 1 := ho
    simp only [rf_pure, Option.map_eq_some_iff, Prod.mk.injEq] at h
    obtain ⟨u, hu, rfl, rfl, rfl⟩ := h
    exact rf_bin (op := fun x y => x - y) hu (fun x y z hz => by cases hz; exact rf_sub x y) (fun x y rest _ q => lv_isub hx hb hd q) (k lsA hL)
  | imul =>
    obtain rfl : len = 1 := ho
    simp only [rf_pure, Option.map_eq_some_iff, Prod.mk.injEq] at h
    obtain ⟨u, hu, rfl, rfl, rfl⟩ := h
    exact rf_bin (op := fun x y => x * y) hu (fun x y z hz => by cases hz; exact rf_mul x y) (fun x y rest _ q => lv_imul hx hb hd q) (k lsA hL)
  | iand =>
    obtain rfl : len = 1 := ho
    simp only [rf_pure, Option.map_eq_some_iff, Prod.mk.injEq] at h
    obtain ⟨u, hu, rfl, rfl, rfl⟩ := h
    exact rf_bin (op := fun x y => x &&& y) hu (fun x y z hz => by cases hz; exact rf_and x y) (fun x y rest _ q => lv_iand hx hb hd q) (k lsA hL)
  | ior =>
    obtain rfl : len = 1 := ho
    simp only [rf_pure, Option.map_eq_some_iff, Prod.mk.injEq] at h
    obtain ⟨u, hu, rfl, rfl, rfl⟩ := h
    exact rf_bin (op := fun x y => x ||| y) hu (fun x y z hz => by cases hz; exact rf_or x y) (fun x y rest _ q => lv_ior hx hb hd q) (k lsA hL)
  | ixor =>
    obtain rfl : len = 1 := ho
    simp only [rf_pure, Option.map_eq_some_iff, Prod.mk.injEq] at h
    obtain ⟨u, hu, rfl, rfl, rfl⟩ := h
    exact rf_bin (op := fun x y => x ^^^ y) hu (fun x y z hz => by cases hz; exact rf_xor x y) (fun x y rest _ q => lv_ixor hx hb hd q) (k lsA hL)
  | ishl =>
    obtain rfl : len = 1 := ho
    simp only [rf_pure, Option.map_eq_some_iff, Prod.mk.injEq] at h
    obtain ⟨u, hu, rfl, rfl, rfl⟩ := h
    refine rf_bin (op := fun x y => x <<< (y &&& 31)) hu (fun x y z hz => ?_) (fun x y rest _ q => lv_ishl hx hb hd q) (k lsA hL)
    split at hz
    · rename_i hy
      cases hz
      rw [rf_31 _ hy]
      exact rf_shl hy
    · cases hz
  | ishr =>
    obtain rfl : len = 1 := ho
    simp only [rf_pure, Option.map_eq_some_iff, Prod.mk.injEq] at h
    obtain ⟨u, hu, rfl, rfl, rfl⟩ := h
    refine rf_bin (op := fun x y => x >>> (y &&& 31)) hu (fun x y z hz => ?_) (fun x y rest _ q => lv_ishr hx hb hd q) (k lsA hL)
    split at hz
    · rename_i hy
      cases hz
      rw [rf_31 _ hy.2]
      exact rf_shr hy.1 hy.2
    · cases hz
  | iushr =>
    obtain rfl : len = 1 := ho
    simp only [rf_pure, Option.map_eq_some_iff, Prod.mk.injEq] at h
    obtain ⟨u, hu, rfl, rfl, rfl⟩ := h
    refine rf_bin (op := fun x y => (x.toUInt32 >>> (y.toUInt32 &&& Int32.toUInt32 31)).toInt32) hu (fun x y z hz => ?_) (fun x y rest _ q => lv_iushr hx hb hd rfl q) (k lsA hL)
    split at hz
    · rename_i hy
      cases hz
      exact rf_ushr hy.1 hy.2
    · cases hz
  | idiv =>
    obtain rfl : len = 1 := ho
    simp only [rf_pure, Option.map_eq_some_iff, Prod.mk.injEq] at h
    obtain ⟨u, hu, rfl, rfl, rfl⟩ := h
    refine rf_bin (op := fun x y => x / y) hu (fun x y z hz => ?_) (fun x y rest hz q => ?_) (k lsA hL)
    · split at hz
      · rename_i hy
        cases hz
        exact rf_div hy.1 hy.2.1 hy.2.2
      · cases hz
    · obtain ⟨z, hz⟩ := hz
      split at hz
      · rename_i hy
        exact lv_idiv hx hb hd (rf_ne0 hy.2.1 hy.2.2) q
      · cases hz
  | irem =>
    obtain rfl : len = 1 := ho
    simp only [rf_pure, Option.map_eq_some_iff, Prod.mk.injEq] at h
    obtain ⟨u, hu, rfl, rfl, rfl⟩ := h
    refine rf_bin (op := fun x y => x - x / y * y) hu (fun x y z hz => ?_) (fun x y rest hz q => ?_) (k lsA hL)
    · split at hz
      · rename_i hy
        cases hz
        exact rf_rem hy.1 hy.2.1 hy.2.2
      · cases hz
    · obtain ⟨z, hz⟩ := hz
      split at hz
      · rename_i hy
        exact lv_irem hx hb hd (rf_ne0 hy.2.1 hy.2.2) q
      · cases hz
  | dup =>
    obtain rfl : len = 1 := ho
    simp only [rf_pure] at h
    split at h
    · rename_i x r
      split at h
      · cases h
      · rename_i hc
        cases h
        exact lv_dup hx hb hd (by rw [rf_cat, if_neg hc]) (k lsA hL)
    · cases h
  | pop =>
    obtain rfl : len = 1 := ho
    simp only [rf_pure] at h
    split at h
    · rename_i x r
      split at h
      · cases h
      · rename_i hc
        cases h
        exact lv_pop hx hb hd (by rw [rf_cat, if_neg hc]) (k lsA hL)
    · cases h
  | dup_x1 =>
    obtain rfl : len = 1 := ho
    simp only [rf_pure] at h
    split at h
    · rename_i x y r
      split at h
      · cases h
      · rename_i hc
        cases h
        exact lv_dup_x1 hx hb hd (by rw [rf_cat, if_neg (fun q => hc (Or.inl q))]) (by rw [rf_cat, if_neg (fun q => hc (Or.inr q))]) (k lsA hL)
    · cases h
  | dup2 =>
    obtain rfl : len = 1 := ho
    simp only [rf_pure] at h
    split at h
    · rename_i x y r
      split at h
      · cases h
      · rename_i hc
        cases h
        exact lv_dup2_11 hx hb hd (by rw [rf_cat, if_neg (fun q => hc (Or.inl q))]) (by rw [rf_cat, if_neg (fun q => hc (Or.inr q))]) (k lsA hL)
    · cases h
  | ifCond o off =>
    obtain ⟨rfl, ht⟩ := ho
    cases o
    all_goals simp only [rf_pure, Option.map_eq_some_iff, Prod.mk.injEq] at h
    all_goals obtain ⟨⟨u, r⟩, hu, rfl, rfl, rfl⟩ := h
    · exact rf_cnd1 (P := fun x => x = 0) hu (fun x => by rw [decide_eq_true_iff, rf_z0, rf_inj]; simp) (fun x rest q1 q2 => lv_if_eq hx hb hd ht q1 q2) (k lsA hL)
    · exact rf_cnd1 (P := fun x => ¬ x = 0) hu (fun x => by rw [decide_eq_true_iff, rf_z0, rf_inj]; simp) (fun x rest q1 q2 => lv_if_ne hx hb hd ht q1 (fun z => q2 (fun y => y z))) (k lsA hL)
    · exact rf_cnd1 (P := fun x => x < 0) hu (fun x => by rw [decide_eq_true_iff, rf_z0, rf_lt]; rfl) (fun x rest q1 q2 => lv_if_lt hx hb hd ht q1 q2) (k lsA hL)
    · exact rf_cnd1 (P := fun x => 0 ≤ x) hu (fun x => by rw [decide_eq_true_iff, rf_z0, rf_le]; rfl) (fun x rest q1 q2 => lv_if_ge hx hb hd ht q1 q2) (k lsA hL)
    · exact rf_cnd1 (P := fun x => 0 < x) hu (fun x => by rw [decide_eq_true_iff, rf_z0, rf_lt]; rfl) (fun x rest q1 q2 => lv_if_gt hx hb hd ht q1 q2) (k lsA hL)
    · exact rf_cnd1 (P := fun x => x ≤ 0) hu (fun x => by rw [decide_eq_true_iff, rf_z0, rf_le]; rfl) (fun x rest q1 q2 => lv_if_le hx hb hd ht q1 q2) (k lsA hL)
  | if_icmp o off =>
    obtain ⟨rfl, ht⟩ := ho
    cases o
    all_goals simp only [rf_pure, Option.map_eq_some_iff, Prod.mk.injEq] at h
    all_goals obtain ⟨⟨u, r⟩, hu, rfl, rfl, rfl⟩ := h
    · exact rf_cnd2 (P := fun x y => x = y) hu (fun x y => by rw [decide_eq_true_iff, rf_inj]) (fun x y rest q1 q2 => lv_icmp_eq hx hb hd ht q1 q2) (k lsA hL)
    · exact rf_cnd2 (P := fun x y => ¬ x = y) hu (fun x y => by rw [decide_eq_true_iff, rf_inj]) (fun x y rest q1 q2 => lv_icmp_ne hx hb hd ht q1 (fun z => q2 (fun v => v z))) (k lsA hL)
    · exact rf_cnd2 (P := fun x y => x < y) hu (fun x y => by rw [decide_eq_true_iff, rf_lt]) (fun x y rest q1 q2 => lv_icmp_lt hx hb hd ht q1 q2) (k lsA hL)
    · exact rf_cnd2 (P := fun x y => y ≤ x) hu (fun x y => by rw [decide_eq_true_iff, rf_le]) (fun x y rest q1 q2 => lv_icmp_ge hx hb hd ht q1 q2) (k lsA hL)
    · exact rf_cnd2 (P := fun x y => y < x) hu (fun x y => by rw [decide_eq_true_iff, rf_lt]) (fun x y rest q1 q2 => lv_icmp_gt hx hb hd ht q1 q2) (k lsA hL)
    · exact rf_cnd2 (P := fun x y => x ≤ y) hu (fun x y => by rw [decide_eq_true_iff, rf_le]) (fun x y rest q1 q2 => lv_icmp_le hx hb hd ht q1 q2) (k lsA hL)
  | if_acmp o off =>
    obtain ⟨rfl, ht⟩ := ho
    cases o
    all_goals simp only [rf_pure] at h
    · split at h
      · rename_i x y r
        split at h
        · rename_i hc
          cases h
          obtain ⟨h1, rfl⟩ := hc
          rw [List.map_cons, List.map_cons, rf_v1 h1]
          exact lv_acmp_eq (rx := some (A (x / 4))) (ry := some (A (x / 4))) hx hb hd ht (fun _ => k lsA hL) (fun z => absurd rfl z)
        · cases h
      · cases h
    · split at h
      · rename_i x y r
        split at h
        · rename_i hc
          cases h
          obtain ⟨h1, rfl⟩ := hc
          rw [List.map_cons, List.map_cons, rf_v1 h1]
          exact lv_acmp_ne (rx := some (A (x / 4))) (ry := some (A (x / 4))) hx hb hd ht (fun z => absurd rfl z) (fun _ => k lsA hL)
        · cases h
      · cases h
  | goto off =>
    obtain ⟨rfl, ht⟩ := ho
    simp only [rf_pure, Option.some.injEq, Prod.mk.injEq] at h
    obtain ⟨rfl, rfl, rfl⟩ := h
    exact lv_goto hx hb hd ht (k lsA hL)
  | i2l =>
    obtain rfl : len = 1 := ho
    simp only [rf_pure] at h
    split at h
    · rename_i x r
      split at h
      · rename_i hc
        cases h
        have k0 := k lsA hL
        rw [List.map_cons, rf_vl] at k0
        rw [List.map_cons, rf_v0 hc]
        exact lv_i2l hx hb hd (rf_i2l _) k0
      · cases h
    · cases h
  | _ => simp [rf_pure] at h
end RFP
end
section
/-! the world: cells (a number of its own, kind, class or type, contents): kind 0 an object (values), 1 an array of ints or booleans (the ints themselves), 2 an array of references (values) -/
abbrev rf_W : Type := List (Nat × Nat × Nat × List Nat)
def rf_r (A : Nat → Nat) (v : Nat) : Option Nat := if v % 4 = 1 then some (A (v / 4)) else none
theorem rf_rf {A : Nat → Nat} {v : Nat} (h : v % 4 = 1 ∨ v % 4 = 2) : va_rf (rf_r A v) = rf_v A v := by
  rcases h with h | h
  · rw [rf_v1 h]
    simp [rf_r, h, va_rf]
  · rw [rf_v2 h]
    simp [rf_r, h, va_rf]
def rf_ints (l : List Nat) : Nat → Int32 := fun j => Int32.ofNat (l.getD j 0)
def rf_refs (A : Nat → Nat) (l : List Nat) : Nat → Option Nat := fun j => rf_r A (l.getD j 2)
def rf_e (A : Nat → Nat) (tA : Nat → ClassId) (c : Nat × Nat × List Nat) : va_E :=
  if c.1 = 0 then .inr (c.2.1, c.2.2.map (rf_v A)) else if c.1 = 1 then .inl (tA c.2.1, (c.2.2.length, .inl (rf_ints c.2.2))) else .inl (tA c.2.1, (c.2.2.length, .inr (.inr (.inr (.inr (rf_refs A c.2.2))))))
def rf_d (A : Nat → Nat) (tA : Nat → ClassId) (W : rf_W) : va_W := W.map fun c => (A c.1, rf_e A tA c.2)
theorem rf_e0 {A : Nat → Nat} {tA : Nat → ClassId} {c : Nat} {l : List Nat} : rf_e A tA (0, c, l) = .inr (c, l.map (rf_v A)) := rfl
theorem rf_e1 {A : Nat → Nat} {tA : Nat → ClassId} {c : Nat} {l : List Nat} : rf_e A tA (1, c, l) = .inl (tA c, (l.length, .inl (rf_ints l))) := rfl
theorem rf_e2 {A : Nat → Nat} {tA : Nat → ClassId} {c : Nat} {l : List Nat} : rf_e A tA (2, c, l) = .inl (tA c, (l.length, .inr (.inr (.inr (.inr (rf_refs A l)))))) := rfl
def rf_fd : rf_W → Nat → Option (Nat × Nat × List Nat)
  | [], _ => none
  | c :: t, i => if c.1 = i then some c.2 else rf_fd t i
def rf_wr : rf_W → Nat → List Nat → rf_W
  | [], _, _ => []
  | c :: t, i, l => if c.1 = i then (c.1, c.2.1, c.2.2.1, l) :: t else c :: rf_wr t i l
def rf_wk {β : Type} : rf_W → Nat → List Nat → (rf_W → β) → β
  | [], _, _, f => f []
  | c :: t, i, l, f => if c.1 = i then f ((c.1, c.2.1, c.2.2.1, l) :: t) else rf_wk t i l fun u => f (c :: u)
theorem rf_wk_eq {β : Type} : ∀ (W : rf_W) (i : Nat) (l : List Nat) (f : rf_W → β), rf_wk W i l f = f (rf_wr W i l)
  | [], _, _, _ => rfl
  | c :: t, i, l, f => by
    unfold rf_wk rf_wr
    split
    · rfl
    · rw [rf_wk_eq t i l]
theorem rf_fd_at : ∀ {W : rf_W} {i : Nat} {c : Nat × Nat × List Nat}, rf_fd W i = some c → ∃ q, W[q]? = some (i, c) ∧ ∀ l, rf_wr W i l = W.set q (i, c.1, c.2.1, l)
  | [], _, _, h => by cases h
  | x :: t, i, c, h => by
    unfold rf_fd at h
    split at h
    · rename_i hx
      cases h
      subst hx
      exact ⟨0, rfl, fun l => by simp [rf_wr]⟩
    · rename_i hx
      obtain ⟨q, h1, h2⟩ := rf_fd_at h
      exact ⟨q + 1, h1, fun l => by simp [rf_wr, hx, h2 l]⟩
theorem rf_d_at {A : Nat → Nat} {tA : Nat → ClassId} {W : rf_W} {q i : Nat} {c : Nat × Nat × List Nat} (h : W[q]? = some (i, c)) : (rf_d A tA W)[q]? = some (A i, rf_e A tA c) := by
  unfold rf_d
  rw [List.getElem?_map, h]
  rfl
theorem rf_d_set {A : Nat → Nat} {tA : Nat → ClassId} {W : rf_W} {q i : Nat} {c : Nat × Nat × List Nat} : rf_d A tA (W.set q (i, c)) = (rf_d A tA W).set q (A i, rf_e A tA c) := by
  unfold rf_d
  rw [List.map_set]
/-! what a new cell leaves as it is -/
def rf_in (n v : Nat) : Bool := v % 4 != 1 || Nat.blt (v / 4) n
def rf_ins (n : Nat) (l : List Nat) : Bool := l.all (rf_in n)
def rf_inW (n : Nat) (W : rf_W) : Bool := W.all fun c => Nat.blt c.1 n && (c.2.1 == 1 || rf_ins n c.2.2.2)
def rf_x (A : Nat → Nat) (n q : Nat) : Nat → Nat := fun i => if i = n then q else A i
theorem rf_x_lt {A : Nat → Nat} {n q i : Nat} (h : i < n) : rf_x A n q i = A i := by
  unfold rf_x
  rw [if_neg (by omega)]
theorem rf_x_self {A : Nat → Nat} {n q : Nat} : rf_x A n q n = q := if_pos rfl
theorem rf_in_v {A : Nat → Nat} {n q v : Nat} (h : rf_in n v = true) : rf_v (rf_x A n q) v = rf_v A v := by
  by_cases h1 : v % 4 = 1
  · have h2 : v / 4 < n := by
      have : (v % 4 != 1) = false := by simp [h1]
      unfold rf_in at h
      rw [this, Bool.false_or, Nat.blt_eq] at h
      exact h
    rw [rf_v1 h1, rf_v1 h1, rf_x_lt h2]
  · unfold rf_v
    simp [h1]
theorem rf_ins_v {A : Nat → Nat} {n q : Nat} {l : List Nat} (h : rf_ins n l = true) : l.map (rf_v (rf_x A n q)) = l.map (rf_v A) := by
  apply List.map_congr_left
  intro v hv
  exact rf_in_v (List.all_eq_true.mp h v hv)
theorem rf_in_r {A : Nat → Nat} {n q v : Nat} (h : rf_in n v = true) : rf_r (rf_x A n q) v = rf_r A v := by
  unfold rf_r
  split
  · rename_i h1
    have h2 : v / 4 < n := by
      have : (v % 4 != 1) = false := by simp [h1]
      unfold rf_in at h
      rw [this, Bool.false_or, Nat.blt_eq] at h
      exact h
    rw [rf_x_lt h2]
  · rfl
theorem rf_ins_r {A : Nat → Nat} {n q : Nat} {l : List Nat} (h : rf_ins n l = true) : rf_refs (rf_x A n q) l = rf_refs A l := by
  funext j
  unfold rf_refs
  refine rf_in_r ?_
  by_cases hj : j < l.length
  · rw [List.getD_eq_getElem?_getD, List.getElem?_eq_getElem hj]
    exact List.all_eq_true.mp h _ (List.getElem_mem hj)
  · rw [List.getD_eq_getElem?_getD, List.getElem?_eq_none (by omega)]
    rfl
theorem rf_inW_d {A : Nat → Nat} {tA : Nat → ClassId} {n q : Nat} {W : rf_W} (h : rf_inW n W = true) : rf_d (rf_x A n q) tA W = rf_d A tA W := by
  unfold rf_d
  apply List.map_congr_left
  intro c hc
  have h1 := List.all_eq_true.mp h c hc
  obtain ⟨i, k, t, l⟩ := c
  simp only [Bool.and_eq_true, Bool.or_eq_true, beq_iff_eq, Nat.blt_eq] at h1
  obtain ⟨h2, h3⟩ := h1
  simp only [rf_x_lt h2]
  congr 1
  unfold rf_e
  dsimp only
  split
  · rename_i hk
    rcases h3 with h3 | h3
    · omega
    · rw [rf_ins_v h3]
  · split
    · rfl
    · rename_i hk
      rcases h3 with h3 | h3
      · exact absurd h3 hk
      · rw [rf_ins_r h3]
theorem rf_H_ext {A : Nat → Nat} {n q nL : Nat} {lsA : Array Slot} {ls : List Nat} (h : rf_H A nL lsA ls) (hi : rf_ins n ls = true) : rf_H (rf_x A n q) nL lsA ls := by
  refine ⟨h.1, h.2.1, h.2.2.1, fun i v hv h6 => ?_⟩
  rw [rf_in_v (List.all_eq_true.mp hi v (List.mem_of_getElem? hv))]
  exact h.2.2.2 i v hv h6
/-! arrays, read and written -/
theorem rf_ints_set {l : List Nat} {i v : Nat} (h : i < l.length) : rf_ints (l.set i v) = upd (rf_ints l) i (Int32.ofNat v) := by
  funext j
  show Int32.ofNat ((l.set i v).getD j 0) = if j = i then Int32.ofNat v else Int32.ofNat (l.getD j 0)
  rw [List.getD_eq_getElem?_getD, List.getD_eq_getElem?_getD]
  by_cases hj : j = i
  · subst hj
    rw [List.getElem?_set_self h, if_pos rfl]
    rfl
  · rw [List.getElem?_set_ne (Ne.symm hj), if_neg hj]
theorem rf_refs_set {A : Nat → Nat} {l : List Nat} {i v : Nat} (h : i < l.length) : rf_refs A (l.set i v) = va_up (rf_refs A l) i (rf_r A v) := by
  funext j
  show rf_r A ((l.set i v).getD j 2) = if j = i then rf_r A v else rf_r A (l.getD j 2)
  rw [List.getD_eq_getElem?_getD, List.getD_eq_getElem?_getD]
  by_cases hj : j = i
  · subst hj
    rw [List.getElem?_set_self h, if_pos rfl]
    rfl
  · rw [List.getElem?_set_ne (Ne.symm hj), if_neg hj]
theorem rf_ints_at {l : List Nat} {i v : Nat} (h : l[i]? = some v) : rf_ints l i = Int32.ofNat v := by
  unfold rf_ints
  rw [List.getD_eq_getElem?_getD, h]
  rfl
theorem rf_refs_at {A : Nat → Nat} {l : List Nat} {i v : Nat} (h : l[i]? = some v) : rf_refs A l i = rf_r A v := by
  unfold rf_refs
  rw [List.getD_eq_getElem?_getD, h]
  rfl
theorem rf_vp {i n : Nat} (h : i < n) (hi : i < 2147483648) : vp_in (Int32.ofNat i) n := by
  unfold vp_in
  rw [rf_clamp hi]
  intro q
  rcases q with q | q
  · exact nI_pos hi q
  · omega
end
