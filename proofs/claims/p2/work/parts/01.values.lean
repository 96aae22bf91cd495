/-! A WALKER OF BYTECODE OVER NUMBERS: values as numbers (four times an int; a reference, one more; 2: null; a long, three more), lists of them; what the kernel computes with it is held against the machine below -/
def rf_n {β : Type} (n : Nat) (f : Nat → β) : β := match n with
  | 0 => f 0
  | k + 1 => f (k + 1)
theorem rf_n_eq {β : Type} (n : Nat) (f : Nat → β) : rf_n n f = f n := by cases n <;> rfl
def rf_l {β : Type} : List Nat → (List Nat → β) → β
  | [], f => f []
  | x :: t, f => rf_n x fun y => rf_l t fun u => f (y :: u)
theorem rf_l_eq {β : Type} : ∀ (l : List Nat) (f : List Nat → β), rf_l l f = f l
  | [], f => rfl
  | x :: t, f => by rw [rf_l, rf_n_eq, rf_l_eq t]
def rf_v (A : Nat → Nat) (v : Nat) : Value :=
  if v % 4 = 0 then .int (Int32.ofNat (v / 4)) else if v % 4 = 1 then .ref (A (v / 4)) else if v % 4 = 2 then .null else .long (Int64.ofNat (v / 4))
theorem rf_v0 {A : Nat → Nat} {v : Nat} (h : v % 4 = 0) : rf_v A v = .int (Int32.ofNat (v / 4)) := by simp [rf_v, h]
theorem rf_v1 {A : Nat → Nat} {v : Nat} (h : v % 4 = 1) : rf_v A v = .ref (A (v / 4)) := by simp [rf_v, h]
theorem rf_v2 {A : Nat → Nat} {v : Nat} (h : v % 4 = 2) : rf_v A v = .null := by simp [rf_v, h]
theorem rf_v3 {A : Nat → Nat} {v : Nat} (h : v % 4 = 3) : rf_v A v = .long (Int64.ofNat (v / 4)) := by simp [rf_v, h]
theorem rf_vi (A : Nat → Nat) (n : Nat) : rf_v A (4 * n) = .int (Int32.ofNat n) := by rw [rf_v0 (by omega)]; congr 2; omega
theorem rf_vr (A : Nat → Nat) (n : Nat) : rf_v A (4 * n + 1) = .ref (A n) := by rw [rf_v1 (by omega)]; congr 2; omega
theorem rf_vl (A : Nat → Nat) (n : Nat) : rf_v A (4 * n + 3) = .long (Int64.ofNat n) := by rw [rf_v3 (by omega)]; congr 2; omega
theorem rf_cat (A : Nat → Nat) (v : Nat) : (rf_v A v).category = if v % 4 = 3 then 2 else 1 := by
  unfold rf_v
  have h : v % 4 < 4 := Nat.mod_lt _ (by decide)
  split
  · rw [if_neg (by omega)]; rfl
  · split
    · rw [if_neg (by omega)]; rfl
    · split
      · rw [if_neg (by omega)]; rfl
      · rw [if_pos (by omega)]; rfl
/-! ints -/
def rf_M : Nat := 4294967296
theorem rf_mod (x : Nat) : Int32.ofNat (x % rf_M) = Int32.ofNat x := by
  apply Int32.toBitVec_inj.mp
  apply BitVec.eq_of_toNat_eq
  simp [rf_M]
theorem rf_add (x y : Nat) : Int32.ofNat x + Int32.ofNat y = Int32.ofNat ((x + y) % rf_M) := by rw [rf_mod, Int32.ofNat_add]
theorem rf_mul (x y : Nat) : Int32.ofNat x * Int32.ofNat y = Int32.ofNat ((x * y) % rf_M) := by rw [rf_mod, Int32.ofNat_mul]
theorem rf_eqm {x y : Nat} (h : x % rf_M = y % rf_M) : Int32.ofNat x = Int32.ofNat y := by rw [← rf_mod x, ← rf_mod y, h]
theorem rf_tn (x : Nat) : (Int32.ofNat x).toBitVec.toNat = x % rf_M := by simp [rf_M]
theorem rf_inj {x y : Nat} : Int32.ofNat x = Int32.ofNat y ↔ x % rf_M = y % rf_M := by
  constructor
  · intro h
    rw [← rf_tn x, ← rf_tn y, h]
  · exact rf_eqm
theorem rf_of {z : Int32} {n : Nat} (h : z.toBitVec.toNat = n % rf_M) : z = Int32.ofNat n := by
  apply Int32.toBitVec_inj.mp
  apply BitVec.eq_of_toNat_eq
  rw [h, rf_tn]
theorem rf_sub (x y : Nat) : Int32.ofNat x - Int32.ofNat y = Int32.ofNat ((rf_M - y % rf_M + x) % rf_M) := by
  apply rf_of
  rw [Int32.toBitVec_sub, BitVec.toNat_sub, rf_tn, rf_tn]
  unfold rf_M
  omega
theorem rf_and (x y : Nat) : Int32.ofNat x &&& Int32.ofNat y = Int32.ofNat ((x % rf_M) &&& (y % rf_M)) := by
  apply rf_of
  rw [Int32.toBitVec_and, BitVec.toNat_and, rf_tn, rf_tn]
  exact (Nat.mod_eq_of_lt (Nat.lt_of_le_of_lt Nat.and_le_left (Nat.mod_lt x (by decide)))).symm
theorem rf_or (x y : Nat) : Int32.ofNat x ||| Int32.ofNat y = Int32.ofNat ((x % rf_M) ||| (y % rf_M)) := by
  apply rf_of
  rw [Int32.toBitVec_or, BitVec.toNat_or, rf_tn, rf_tn]
  exact (Nat.mod_eq_of_lt (Nat.or_lt_two_pow (n := 32) (Nat.mod_lt x (by decide)) (Nat.mod_lt y (by decide)))).symm
theorem rf_xor (x y : Nat) : Int32.ofNat x ^^^ Int32.ofNat y = Int32.ofNat ((x % rf_M) ^^^ (y % rf_M)) := by
  apply rf_of
  rw [Int32.toBitVec_xor, BitVec.toNat_xor, rf_tn, rf_tn]
  exact (Nat.mod_eq_of_lt (Nat.xor_lt_two_pow (n := 32) (Nat.mod_lt x (by decide)) (Nat.mod_lt y (by decide)))).symm
theorem rf_s32 : ∀ y : Nat, y < 32 → ((Int32.ofNat y).toBitVec.smod 32).toNat = y := by decide +kernel
theorem rf_u32 : ∀ y : Nat, y < 32 → (((Int32.ofNat y).toUInt32 &&& Int32.toUInt32 31).toBitVec % 32).toNat = y := by decide +kernel
theorem rf_shl {x y : Nat} (hy : y < 32) : Int32.ofNat x <<< Int32.ofNat y = Int32.ofNat (x % rf_M * 2 ^ y % rf_M) := by
  apply rf_of
  rw [pk_shl _ _ y (rf_s32 y hy), rf_tn]
  unfold rf_M
  omega
theorem rf_shr {x y : Nat} (hx : x < 2147483648) (hy : y < 32) : Int32.ofNat x >>> Int32.ofNat y = Int32.ofNat (x / 2 ^ y) := pk_shrN hx _ y (rf_s32 y hy)
theorem rf_ushr {x y : Nat} (hx : x < rf_M) (hy : y < 32) : ((Int32.ofNat x).toUInt32 >>> ((Int32.ofNat y).toUInt32 &&& Int32.toUInt32 31)).toInt32 = Int32.ofNat (x / 2 ^ y) := pk_ushrN hx _ y (rf_u32 y hy)
theorem rf_toInt (x : Nat) : (Int32.ofNat x).toInt = if x % rf_M < 2147483648 then ((x % rf_M : Nat) : Int) else ((x % rf_M : Nat) : Int) - 4294967296 := by
  show (Int32.ofNat x).toBitVec.toInt = _
  rw [BitVec.toInt_eq_toNat_cond, rf_tn]
  unfold rf_M
  split <;> split <;> omega
/-- ints in the order of the signed ones -/
def rf_k (x : Nat) : Nat := (x + 2147483648) % rf_M
theorem rf_lt (x y : Nat) : Int32.ofNat x < Int32.ofNat y ↔ rf_k x < rf_k y := by
  rw [Int32.lt_iff_toInt_lt, rf_toInt, rf_toInt]
  unfold rf_k rf_M
  split <;> split <;> omega
theorem rf_le (x y : Nat) : Int32.ofNat x ≤ Int32.ofNat y ↔ rf_k x ≤ rf_k y := by
  rw [Int32.le_iff_toInt_le, rf_toInt, rf_toInt]
  unfold rf_k rf_M
  split <;> split <;> omega
theorem rf_div {x y : Nat} (hx : x < 2147483648) (h0 : 0 < y) (hy : y < 2147483648) : Int32.ofNat x / Int32.ofNat y = Int32.ofNat (x / y) := pk_div hx h0 hy
theorem rf_rem {x y : Nat} (hx : x < 2147483648) (h0 : 0 < y) (hy : y < 2147483648) : Int32.ofNat x - Int32.ofNat x / Int32.ofNat y * Int32.ofNat y = Int32.ofNat (x % y) := pk_rem hx h0 hy
theorem rf_ne0 {y : Nat} (h0 : 0 < y) (hy : y < 2147483648) : ¬ Int32.ofNat y = 0 := nI_ne0 h0 hy
theorem rf_clamp {x : Nat} (hx : x < 2147483648) : (Int32.ofNat x).toNatClampNeg = x := nI_clamp hx
theorem rf_z0 : (0 : Int32) = Int32.ofNat 0 := rfl
/-! lists -/
def rf_at {α : Type} : List α → Nat → Option α
  | [], _ => none
  | x :: _, 0 => some x
  | _ :: t, i + 1 => rf_at t i
theorem rf_at_eq {α : Type} : ∀ (l : List α) (i : Nat), rf_at l i = l[i]?
  | [], i => by simp [rf_at]
  | x :: t, 0 => by simp [rf_at]
  | x :: t, i + 1 => by simp [rf_at, rf_at_eq t i]
def rf_put : List Nat → Nat → Nat → List Nat
  | [], _, _ => []
  | _ :: t, 0, v => v :: t
  | x :: t, i + 1, v => x :: rf_put t i v
theorem rf_put_eq : ∀ (l : List Nat) (i v : Nat), rf_put l i v = l.set i v
  | [], i, v => by simp [rf_put]
  | x :: t, 0, v => by simp [rf_put]
  | x :: t, i + 1, v => by simp [rf_put, rf_put_eq t i v]
