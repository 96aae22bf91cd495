/-! the world: cells (a number of its own, kind, class or type, contents): kind 0 an object (values), 1 an array of ints or booleans (the ints themselves), 2 an array of references (values) -/
abbrev rf_W : Type := List (Nat × Nat × Nat × List Nat)
def rf_r (A : Nat → Nat) (v : Nat) : Option Nat := if v % 4 = 1 then some (A (v / 4)) else none
theorem rf_rf {A : Nat → Nat} {v : Nat} (h : v % 4 = 1 ∨ v % 4 = 2) : va_rf (rf_r A v) = rf_v A v := by
  rcases h with h | h
  · rw [rf_v1 h]
    simp [rf_r, h, va_rf]
  · rw [rf_v2 h]
    simp [rf_r, h, va_rf]
def rf_ints (l : List Nat) : Nat → Int32 := fun j => Int32.ofNat (l.getD j 0)
def rf_refs (A : Nat → Nat) (l : List Nat) : Nat → Option Nat := fun j => rf_r A (l.getD j 2)
def rf_e (A : Nat → Nat) (tA : Nat → ClassId) (c : Nat × Nat × List Nat) : va_E :=
  if c.1 = 0 then .inr (c.2.1, c.2.2.map (rf_v A)) else if c.1 = 1 then .inl (tA c.2.1, (c.2.2.length, .inl (rf_ints c.2.2))) else .inl (tA c.2.1, (c.2.2.length, .inr (.inr (.inr (.inr (rf_refs A c.2.2))))))
def rf_d (A : Nat → Nat) (tA : Nat → ClassId) (W : rf_W) : va_W := W.map fun c => (A c.1, rf_e A tA c.2)
theorem rf_e0 {A : Nat → Nat} {tA : Nat → ClassId} {c : Nat} {l : List Nat} : rf_e A tA (0, c, l) = .inr (c, l.map (rf_v A)) := rfl
theorem rf_e1 {A : Nat → Nat} {tA : Nat → ClassId} {c : Nat} {l : List Nat} : rf_e A tA (1, c, l) = .inl (tA c, (l.length, .inl (rf_ints l))) := rfl
theorem rf_e2 {A : Nat → Nat} {tA : Nat → ClassId} {c : Nat} {l : List Nat} : rf_e A tA (2, c, l) = .inl (tA c, (l.length, .inr (.inr (.inr (.inr (rf_refs A l)))))) := rfl
def rf_fd : rf_W → Nat → Option (Nat × Nat × List Nat)
  | [], _ => none
  | c :: t, i => if c.1 = i then some c.2 else rf_fd t i
def rf_wr : rf_W → Nat → List Nat → rf_W
  | [], _, _ => []
  | c :: t, i, l => if c.1 = i then (c.1, c.2.1, c.2.2.1, l) :: t else c :: rf_wr t i l
def rf_wk {β : Type} : rf_W → Nat → List Nat → (rf_W → β) → β
  | [], _, _, f => f []
  | c :: t, i, l, f => if c.1 = i then f ((c.1, c.2.1, c.2.2.1, l) :: t) else rf_wk t i l fun u => f (c :: u)
theorem rf_wk_eq {β : Type} : ∀ (W : rf_W) (i : Nat) (l : List Nat) (f : rf_W → β), rf_wk W i l f = f (rf_wr W i l)
  | [], _, _, _ => rfl
  | c :: t, i, l, f => by
    unfold rf_wk rf_wr
    split
    · rfl
    · rw [rf_wk_eq t i l]
theorem rf_fd_at : ∀ {W : rf_W} {i : Nat} {c : Nat × Nat × List Nat}, rf_fd W i = some c → ∃ q, W[q]? = some (i, c) ∧ ∀ l, rf_wr W i l = W.set q (i, c.1, c.2.1, l)
  | [], _, _, h => by cases h
  | x :: t, i, c, h => by
    unfold rf_fd at h
    split at h
    · rename_i hx
      cases h
      subst hx
      exact ⟨0, rfl, fun l => by simp [rf_wr]⟩
    · rename_i hx
      obtain ⟨q, h1, h2⟩ := rf_fd_at h
      exact ⟨q + 1, h1, fun l => by simp [rf_wr, hx, h2 l]⟩
theorem rf_d_at {A : Nat → Nat} {tA : Nat → ClassId} {W : rf_W} {q i : Nat} {c : Nat × Nat × List Nat} (h : W[q]? = some (i, c)) : (rf_d A tA W)[q]? = some (A i, rf_e A tA c) := by
  unfold rf_d
  rw [List.getElem?_map, h]
  rfl
theorem rf_d_set {A : Nat → Nat} {tA : Nat → ClassId} {W : rf_W} {q i : Nat} {c : Nat × Nat × List Nat} : rf_d A tA (W.set q (i, c)) = (rf_d A tA W).set q (A i, rf_e A tA c) := by
  unfold rf_d
  rw [List.map_set]
/-! what a new cell leaves as it is -/
def rf_in (n v : Nat) : Bool := v % 4 != 1 || Nat.blt (v / 4) n
def rf_ins (n : Nat) (l : List Nat) : Bool := l.all (rf_in n)
def rf_inW (n : Nat) (W : rf_W) : Bool := W.all fun c => Nat.blt c.1 n && (c.2.1 == 1 || rf_ins n c.2.2.2)
def rf_x (A : Nat → Nat) (n q : Nat) : Nat → Nat := fun i => if i = n then q else A i
theorem rf_x_lt {A : Nat → Nat} {n q i : Nat} (h : i < n) : rf_x A n q i = A i := by
  unfold rf_x
  rw [if_neg (by omega)]
theorem rf_x_self {A : Nat → Nat} {n q : Nat} : rf_x A n q n = q := if_pos rfl
theorem rf_in_v {A : Nat → Nat} {n q v : Nat} (h : rf_in n v = true) : rf_v (rf_x A n q) v = rf_v A v := by
  by_cases h1 : v % 4 = 1
  · have h2 : v / 4 < n := by
      have : (v % 4 != 1) = false := by simp [h1]
      unfold rf_in at h
      rw [this, Bool.false_or, Nat.blt_eq] at h
      exact h
    rw [rf_v1 h1, rf_v1 h1, rf_x_lt h2]
  · unfold rf_v
    simp [h1]
theorem rf_ins_v {A : Nat → Nat} {n q : Nat} {l : List Nat} (h : rf_ins n l = true) : l.map (rf_v (rf_x A n q)) = l.map (rf_v A) := by
  apply List.map_congr_left
  intro v hv
  exact rf_in_v (List.all_eq_true.mp h v hv)
theorem rf_in_r {A : Nat → Nat} {n q v : Nat} (h : rf_in n v = true) : rf_r (rf_x A n q) v = rf_r A v := by
  unfold rf_r
  split
  · rename_i h1
    have h2 : v / 4 < n := by
      have : (v % 4 != 1) = false := by simp [h1]
      unfold rf_in at h
      rw [this, Bool.false_or, Nat.blt_eq] at h
      exact h
    rw [rf_x_lt h2]
  · rfl
theorem rf_ins_r {A : Nat → Nat} {n q : Nat} {l : List Nat} (h : rf_ins n l = true) : rf_refs (rf_x A n q) l = rf_refs A l := by
  funext j
  unfold rf_refs
  refine rf_in_r ?_
  by_cases hj : j < l.length
  · rw [List.getD_eq_getElem?_getD, List.getElem?_eq_getElem hj]
    exact List.all_eq_true.mp h _ (List.getElem_mem hj)
  · rw [List.getD_eq_getElem?_getD, List.getElem?_eq_none (by omega)]
    rfl
theorem rf_inW_d {A : Nat → Nat} {tA : Nat → ClassId} {n q : Nat} {W : rf_W} (h : rf_inW n W = true) : rf_d (rf_x A n q) tA W = rf_d A tA W := by
  unfold rf_d
  apply List.map_congr_left
  intro c hc
  have h1 := List.all_eq_true.mp h c hc
  obtain ⟨i, k, t, l⟩ := c
  simp only [Bool.and_eq_true, Bool.or_eq_true, beq_iff_eq, Nat.blt_eq] at h1
  obtain ⟨h2, h3⟩ := h1
  simp only [rf_x_lt h2]
  congr 1
  unfold rf_e
  dsimp only
  split
  · rename_i hk
    rcases h3 with h3 | h3
    · omega
    · rw [rf_ins_v h3]
  · split
    · rfl
    · rename_i hk
      rcases h3 with h3 | h3
      · exact absurd h3 hk
      · rw [rf_ins_r h3]
theorem rf_H_ext {A : Nat → Nat} {n q nL : Nat} {lsA : Array Slot} {ls : List Nat} (h : rf_H A nL lsA ls) (hi : rf_ins n ls = true) : rf_H (rf_x A n q) nL lsA ls := by
  refine ⟨h.1, h.2.1, h.2.2.1, fun i v hv h6 => ?_⟩
  rw [rf_in_v (List.all_eq_true.mp hi v (List.mem_of_getElem? hv))]
  exact h.2.2.2 i v hv h6
/-! arrays, read and written -/
theorem rf_ints_set {l : List Nat} {i v : Nat} (h : i < l.length) : rf_ints (l.set i v) = upd (rf_ints l) i (Int32.ofNat v) := by
  funext j
  show Int32.ofNat ((l.set i v).getD j 0) = if j = i then Int32.ofNat v else Int32.ofNat (l.getD j 0)
  rw [List.getD_eq_getElem?_getD, List.getD_eq_getElem?_getD]
  by_cases hj : j = i
  · subst hj
    rw [List.getElem?_set_self h, if_pos rfl]
    rfl
  · rw [List.getElem?_set_ne (Ne.symm hj), if_neg hj]
theorem rf_refs_set {A : Nat → Nat} {l : List Nat} {i v : Nat} (h : i < l.length) : rf_refs A (l.set i v) = va_up (rf_refs A l) i (rf_r A v) := by
  funext j
  show rf_r A ((l.set i v).getD j 2) = if j = i then rf_r A v else rf_r A (l.getD j 2)
  rw [List.getD_eq_getElem?_getD, List.getD_eq_getElem?_getD]
  by_cases hj : j = i
  · subst hj
    rw [List.getElem?_set_self h, if_pos rfl]
    rfl
  · rw [List.getElem?_set_ne (Ne.symm hj), if_neg hj]
theorem rf_ints_at {l : List Nat} {i v : Nat} (h : l[i]? = some v) : rf_ints l i = Int32.ofNat v := by
  unfold rf_ints
  rw [List.getD_eq_getElem?_getD, h]
  rfl
theorem rf_refs_at {A : Nat → Nat} {l : List Nat} {i v : Nat} (h : l[i]? = some v) : rf_refs A l i = rf_r A v := by
  unfold rf_refs
  rw [List.getD_eq_getElem?_getD, h]
  rfl
theorem rf_vp {i n : Nat} (h : i < n) (hi : i < 2147483648) : vp_in (Int32.ofNat i) n := by
  unfold vp_in
  rw [rf_clamp hi]
  intro q
  rcases q with q | q
  · exact nI_pos hi q
  · omega
