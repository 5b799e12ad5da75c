section
/-! a row of ten cells: X's picture (ascending), Y's picture (distinct) -/
def tm_X (s k v : Nat → Int32) (r n : Nat) (f : Int32 → Option Int32) : Prop :=
  s r = nI n ∧ n ≤ 10 ∧ tm_O n (fun i => k (r * 10 + i)) ∧ tm_F n (fun i => k (r * 10 + i)) (fun i => v (r * 10 + i)) f
def tm_Y (s k v : Nat → Int32) (r n : Nat) (f : Int32 → Option Int32) : Prop :=
  s r = nI n ∧ n ≤ 10 ∧ tm_I n (fun i => k (r * 10 + i)) ∧ tm_F n (fun i => k (r * 10 + i)) (fun i => v (r * 10 + i)) f
theorem tm_XY {s k v : Nat → Int32} {r n : Nat} {f : Int32 → Option Int32} (h : tm_X s k v r n f) : tm_Y s k v r n f :=
  ⟨h.1, h.2.1, tm_OI h.2.2.1, h.2.2.2⟩
theorem tm_nn {s k v s' k' v' : Nat → Int32} {r q n m : Nat} {f : Int32 → Option Int32} (h : tm_Y s k v r n f) (h' : tm_Y s' k' v' q m f) : n = m :=
  Nat.le_antisymm (tm_F_le h.2.2.1 h.2.2.2 h'.2.2.2 fun _ z => z) (tm_F_le h'.2.2.1 h'.2.2.2 h.2.2.2 fun _ z => z)
theorem tm_no {s k v : Nat → Int32} {r n : Nat} {f : Int32 → Option Int32} (h : tm_Y s k v r n f) (ho : tm_Ov f) : False := tm_Ov_no h.2.2.2 h.2.1 ho
theorem tm_X_congr {s k v s1 k1 v1 : Nat → Int32} {r q n : Nat} {f : Int32 → Option Int32} (h : tm_X s k v r n f) (es : s1 q = s r) (e : ∀ i, i < n → k1 (q * 10 + i) = k (r * 10 + i) ∧ v1 (q * 10 + i) = v (r * 10 + i)) : tm_X s1 k1 v1 q n f :=
  ⟨es.trans h.1, h.2.1, tm_O_congr h.2.2.1 fun i hi => (e i hi).1, tm_F_congr h.2.2.2 e⟩
theorem tm_Y_congr {s k v s1 k1 v1 : Nat → Int32} {r q n : Nat} {f : Int32 → Option Int32} (h : tm_Y s k v r n f) (es : s1 q = s r) (e : ∀ i, i < n → k1 (q * 10 + i) = k (r * 10 + i) ∧ v1 (q * 10 + i) = v (r * 10 + i)) : tm_Y s1 k1 v1 q n f :=
  ⟨es.trans h.1, h.2.1, tm_I_congr h.2.2.1 fun i hi => (e i hi).1, tm_F_congr h.2.2.2 e⟩
/-- the rows other than r stay as they are -/
def tm_fr (r : Nat) (s k v s1 k1 v1 : Nat → Int32) : Prop :=
  ∀ q, q ≠ r → s1 q = s q ∧ ∀ i, i < 10 → k1 (q * 10 + i) = k (q * 10 + i) ∧ v1 (q * 10 + i) = v (q * 10 + i)
theorem tm_fr_rf {r : Nat} {s k v : Nat → Int32} : tm_fr r s k v s k v := fun _ _ => ⟨rfl, fun _ _ => ⟨rfl, rfl⟩⟩
theorem tm_fr_tr {r : Nat} {s k v s1 k1 v1 s2 k2 v2 : Nat → Int32} (h : tm_fr r s k v s1 k1 v1) (h' : tm_fr r s1 k1 v1 s2 k2 v2) : tm_fr r s k v s2 k2 v2 :=
  fun q hq => ⟨(h' q hq).1.trans (h q hq).1, fun i hi => ⟨((h' q hq).2 i hi).1.trans ((h q hq).2 i hi).1, ((h' q hq).2 i hi).2.trans ((h q hq).2 i hi).2⟩⟩
theorem tm_fr_X {r q n : Nat} {s k v s1 k1 v1 : Nat → Int32} {f : Int32 → Option Int32} (h : tm_fr r s k v s1 k1 v1) (hq : q ≠ r) (H : tm_X s k v q n f) : tm_X s1 k1 v1 q n f :=
  tm_X_congr H (h q hq).1 fun i hi => (h q hq).2 i (Nat.lt_of_lt_of_le hi H.2.1)
theorem tm_fr_Y {r q n : Nat} {s k v s1 k1 v1 : Nat → Int32} {f : Int32 → Option Int32} (h : tm_fr r s k v s1 k1 v1) (hq : q ≠ r) (H : tm_Y s k v q n f) : tm_Y s1 k1 v1 q n f :=
  tm_Y_congr H (h q hq).1 fun i hi => (h q hq).2 i (Nat.lt_of_lt_of_le hi H.2.1)
/-- one map in both -/
def tm_rw (s k v : Nat → Int32) (r : Nat) (s' k' v' : Nat → Int32) (q : Nat) : Prop := ∃ n f, tm_X s k v r n f ∧ tm_Y s' k' v' q n f
theorem tm_rw_mk {s k v s' k' v' : Nat → Int32} {r q n m : Nat} {f : Int32 → Option Int32} (h : tm_X s k v r n f) (h' : tm_Y s' k' v' q m f) : tm_rw s k v r s' k' v' q := by
  cases tm_nn (tm_XY h) h'
  exact ⟨n, f, h, h'⟩
def tm_A (P : Nat → Prop) (s k v s' k' v' : Nat → Int32) : Prop := ∀ q, P q → tm_rw s k v q s' k' v' q
theorem tm_A_upd {P P' : Nat → Prop} {r : Nat} {s k v s' k' v' s1 k1 v1 s1' k1' v1' : Nat → Int32} (hA : tm_A P s k v s' k' v') (hP : ∀ q, P' q → q ≠ r → P q)
    (fx : tm_fr r s k v s1 k1 v1) (fy : tm_fr r s' k' v' s1' k1' v1') (hr : P' r → tm_rw s1 k1 v1 r s1' k1' v1' r) : tm_A P' s1 k1 v1 s1' k1' v1' := by
  intro q hq
  by_cases z : q = r
  · subst z; exact hr hq
  · obtain ⟨n, f, a, b⟩ := hA q (hP q hq z)
    exact ⟨n, f, tm_fr_X fx z a, tm_fr_Y fy z b⟩
/-! pieces of arrays moved -/
def tm_up (a : Nat → Int32) (lo hi : Nat) : Nat → Int32 := fun j => if lo < j ∧ j ≤ hi then a (j - 1) else a j
def tm_dn (a : Nat → Int32) (lo hi : Nat) : Nat → Int32 := fun j => if lo ≤ j ∧ j < hi then a (j + 1) else a j
def tm_cp (a : Nat → Int32) (fm to m : Nat) : Nat → Int32 := fun j => if to ≤ j ∧ j < to + m then a (fm + (j - to)) else a j
theorem tm_up_0 (a : Nat → Int32) (c : Nat) : tm_up a c c = a := by
  funext j; unfold tm_up; rw [if_neg (by omega)]
theorem tm_up_1 (a : Nat → Int32) {c hi : Nat} (h : c + 1 ≤ hi) : upd (tm_up a (c + 1) hi) (c + 1) (tm_up a (c + 1) hi c) = tm_up a c hi := by
  funext j
  unfold upd tm_up
  by_cases z : j = c + 1
  · subst z
    rw [if_pos rfl, if_neg (by omega), if_pos (by omega)]
    rfl
  · rw [if_neg z]
    by_cases y : c + 1 < j ∧ j ≤ hi
    · rw [if_pos y, if_pos (by omega)]
    · rw [if_neg y, if_neg (by omega)]
theorem tm_dn_0 (a : Nat → Int32) (c : Nat) : tm_dn a c c = a := by
  funext j; unfold tm_dn; rw [if_neg (by omega)]
theorem tm_dn_1 (a : Nat → Int32) {lo c : Nat} (h : lo ≤ c) : upd (tm_dn a lo c) c (tm_dn a lo c (c + 1)) = tm_dn a lo (c + 1) := by
  funext j
  unfold upd tm_dn
  by_cases z : j = c
  · subst z
    rw [if_pos rfl, if_neg (by omega), if_pos (by omega)]
  · rw [if_neg z]
    by_cases y : lo ≤ j ∧ j < c
    · rw [if_pos y, if_pos (by omega)]
    · rw [if_neg y, if_neg (by omega)]
theorem tm_cp_0 (a : Nat → Int32) (fm to : Nat) : tm_cp a fm to 0 = a := by
  funext j; unfold tm_cp; rw [if_neg (by omega)]
theorem tm_cp_1 (a : Nat → Int32) {fm to m : Nat} (h : ¬ (to ≤ fm + m ∧ fm + m < to + m)) : upd (tm_cp a fm to m) (to + m) (tm_cp a fm to m (fm + m)) = tm_cp a fm to (m + 1) := by
  funext j
  unfold upd tm_cp
  by_cases z : j = to + m
  · subst z
    rw [if_pos rfl, if_neg h, if_pos (by omega)]
    exact congrArg a (by omega)
  · rw [if_neg z]
    by_cases y : to ≤ j ∧ j < to + m
    · rw [if_pos y, if_pos (by omega)]
    · rw [if_neg y, if_neg (by omega)]
end
