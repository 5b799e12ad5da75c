section
section
theorem pk_us {f : Nat → Int32} {k : Nat} {x : Int32} : upd f k x k = x := if_pos rfl
theorem pk_un {f : Nat → Int32} {k j : Nat} {x : Int32} (h : j ≠ k) : upd f k x j = f j := if_neg h
theorem pk_sub {a b : Nat} (h : b ≤ a) : nI a - nI b = nI (a - b) := by
  obtain ⟨c, rfl⟩ : ∃ c, a = c + b := ⟨a - b, by omega⟩
  rw [← nI_add, Int32.add_sub_cancel, Nat.add_sub_cancel]
theorem pk_m1 (n : Nat) : nI (n + 1) + (-1) = nI n := by
  rw [← nI_1, Int32.add_assoc, show (1 : Int32) + (-1) = 0 from rfl, Int32.add_zero]
theorem pk_mul (a b : Nat) : nI a * nI b = nI (a * b) := (Int32.ofNat_mul a b).symm
theorem pk_ix (x : Int32) {n : Nat} (hn : n < 2 ^ 31) : x < 0 ∨ nI n ≤ x ∨ ∃ j : Nat, j < n ∧ x = nI j := by
  by_cases h : x < 0
  · exact Or.inl h
  · obtain ⟨j, hj, rfl⟩ := nI_of h
    by_cases h2 : j < n
    · exact Or.inr (Or.inr ⟨j, h2, rfl⟩)
    · exact Or.inr (Or.inl (nI_le (by omega) hj))
theorem pk_le {x y : Int32} {A B : Prop} (a b : Nat) (f : a ≤ b → A) (g : b < a → B) (hx : x = nI a := by rfl) (hy : y = nI b := by rfl) (ha : a < 2 ^ 31 := by omega) (hb : b < 2 ^ 31 := by omega) : (x ≤ y → A) ∧ (¬ x ≤ y → B) := by
  subst hx hy
  rw [nI_leI ha hb]
  exact ⟨f, fun z => g (by omega)⟩
theorem pk_lt {x y : Int32} {A B : Prop} (a b : Nat) (f : a < b → A) (g : b ≤ a → B) (hx : x = nI a := by rfl) (hy : y = nI b := by rfl) (ha : a < 2 ^ 31 := by omega) (hb : b < 2 ^ 31 := by omega) : (x < y → A) ∧ (¬ x < y → B) := by
  subst hx hy
  rw [nI_ltI ha hb]
  exact ⟨f, fun z => g (by omega)⟩
theorem pk_eq {x y : Int32} {A B : Prop} (a b : Nat) (f : a = b → A) (g : a ≠ b → B) (hx : x = nI a := by rfl) (hy : y = nI b := by rfl) (ha : a < 2 ^ 31 := by omega) (hb : b < 2 ^ 31 := by omega) : (x = y → A) ∧ (¬ x = y → B) := by
  subst hx hy
  rw [nI_eq ha hb]
  exact ⟨f, g⟩
theorem pk_in {x : Int32} (n N : Nat) (h : n < N) (hx : x = nI n := by rfl) (hN : N < 2 ^ 31 := by omega) : vp_in x N := by
  subst hx
  exact vp_in_nI h hN
theorem pk_cl {x : Int32} (n : Nat) (hx : x = nI n := by rfl) (h : n < 2 ^ 31 := by omega) : x.toNatClampNeg = n := by
  subst hx
  exact nI_clamp h
/-! maps as functions; rows of keys and values as their pictures -/
def tm_set (f : Int32 → Option Int32) (k w : Int32) : Int32 → Option Int32 := fun x => if x = k then some w else f x
def tm_del (f : Int32 → Option Int32) (k : Int32) : Int32 → Option Int32 := fun x => if x = k then none else f x
def tm_F (n : Nat) (K V : Nat → Int32) (f : Int32 → Option Int32) : Prop :=
  (∀ i, i < n → f (K i) = some (V i)) ∧ (∀ x, (∀ i, i < n → K i ≠ x) → f x = none)
def tm_I (n : Nat) (K : Nat → Int32) : Prop := ∀ i j, i < n → j < n → K i = K j → i = j
def tm_O (n : Nat) (K : Nat → Int32) : Prop := ∀ i j, i < j → j < n → K i < K j
theorem tm_OI {n : Nat} {K : Nat → Int32} (h : tm_O n K) : tm_I n K := by
  intro i j hi hj e
  rcases Nat.lt_trichotomy i j with z | z | z
  · exact absurd e (Int32.ne_of_lt (h i j z hj))
  · exact z
  · exact absurd e.symm (Int32.ne_of_lt (h j i z hi))
theorem tm_card : ∀ (m n : Nat) (K K' : Nat → Int32), tm_I n K → (∀ i, i < n → ∃ j, j < m ∧ K' j = K i) → n ≤ m := by
  intro m
  induction m with
  | zero =>
    intro n K K' _ h
    cases n with
    | zero => exact Nat.le_refl _
    | succ n => obtain ⟨j, hj, _⟩ := h 0 (by omega); omega
  | succ m ih =>
    intro n K K' hI h
    by_cases hx : ∃ i, i < n ∧ K' m = K i
    · obtain ⟨a, ha, e⟩ := hx
      have key : ∀ q, q < n → q ≠ a → ∃ j, j < m ∧ K' j = K q := by
        intro q hq hne
        obtain ⟨j, hj, ej⟩ := h q hq
        refine ⟨j, ?_, ej⟩
        have : j ≠ m := by
          intro z
          rw [z] at ej
          exact hne (hI q a hq ha (ej.symm.trans e))
        omega
      have h2 : n - 1 ≤ m := by
        refine ih (n - 1) (fun i => if i < a then K i else K (i + 1)) K' ?_ ?_
        · intro i j hi hj he
          dsimp only at he
          split at he <;> split at he
          · exact hI i j (by omega) (by omega) he
          · have := hI i (j + 1) (by omega) (by omega) he; omega
          · have := hI (i + 1) j (by omega) (by omega) he; omega
          · have := hI (i + 1) (j + 1) (by omega) (by omega) he; omega
        · intro i hi
          split
          · exact key i (by omega) (by omega)
          · exact key (i + 1) (by omega) (by omega)
      omega
    · refine Nat.le_succ_of_le (ih n K K' hI ?_)
      intro i hi
      obtain ⟨j, hj, ej⟩ := h i hi
      refine ⟨j, ?_, ej⟩
      have : j ≠ m := by
        intro z
        exact hx ⟨i, hi, by rw [← z]; exact ej⟩
      omega
theorem tm_F_in {n : Nat} {K V : Nat → Int32} {f : Int32 → Option Int32} (h : tm_F n K V f) {x : Int32} (hx : f x ≠ none) : ∃ i, i < n ∧ K i = x := by
  refine Classical.byContradiction fun z => hx (h.2 x ?_)
  intro i hi e
  exact z ⟨i, hi, e⟩
theorem tm_F_none {n : Nat} {K V : Nat → Int32} {f : Int32 → Option Int32} (h : tm_F n K V f) {i : Nat} (hi : i < n) : f (K i) ≠ none := by
  rw [h.1 i hi]; exact fun z => nomatch z
theorem tm_F_eq {n : Nat} {K V : Nat → Int32} {f g : Int32 → Option Int32} (h : tm_F n K V f) (h' : tm_F n K V g) : f = g := by
  funext x
  by_cases z : ∃ i, i < n ∧ K i = x
  · obtain ⟨i, hi, rfl⟩ := z
    rw [h.1 i hi, h'.1 i hi]
  · rw [h.2 x (fun i hi e => z ⟨i, hi, e⟩), h'.2 x (fun i hi e => z ⟨i, hi, e⟩)]
theorem tm_F_le {n m : Nat} {K V K' V' : Nat → Int32} {f g : Int32 → Option Int32} (hI : tm_I n K) (h : tm_F n K V f) (h' : tm_F m K' V' g) (hs : ∀ x, f x ≠ none → g x ≠ none) : n ≤ m :=
  tm_card m n K K' hI fun _ hi => tm_F_in h' (hs _ (tm_F_none h hi))
theorem tm_F_congr {n : Nat} {K V K' V' : Nat → Int32} {f : Int32 → Option Int32} (h : tm_F n K V f) (e : ∀ i, i < n → K' i = K i ∧ V' i = V i) : tm_F n K' V' f :=
  ⟨fun i hi => by rw [(e i hi).1, (e i hi).2]; exact h.1 i hi, fun x hx => h.2 x fun i hi => by rw [← (e i hi).1]; exact hx i hi⟩
theorem tm_O_congr {n : Nat} {K K' : Nat → Int32} (h : tm_O n K) (e : ∀ i, i < n → K' i = K i) : tm_O n K' := by
  intro i j hij hj
  rw [e i (by omega), e j hj]
  exact h i j hij hj
theorem tm_I_congr {n : Nat} {K K' : Nat → Int32} (h : tm_I n K) (e : ∀ i, i < n → K' i = K i) : tm_I n K' := by
  intro i j hi hj z
  rw [e i hi, e j hj] at z
  exact h i j hi hj z
/-- more than ten keys -/
def tm_Ov (f : Int32 → Option Int32) : Prop := ∃ e : Nat → Int32, tm_I 11 e ∧ ∀ i, i < 11 → f (e i) ≠ none
theorem tm_Ov_no {n : Nat} {K V : Nat → Int32} {f : Int32 → Option Int32} (h : tm_F n K V f) (hn : n ≤ 10) (ho : tm_Ov f) : False := by
  obtain ⟨e, hI, he⟩ := ho
  have := tm_card n 11 e K hI fun i hi => tm_F_in h (he i hi)
  omega
theorem tm_Ov_of {K V : Nat → Int32} {f g : Int32 → Option Int32} (h : tm_F 10 K V f) (hI : tm_I 10 K) {k : Int32} (hk : f k = none) (hg : ∀ x, (f x ≠ none ∨ x = k) → g x ≠ none) : tm_Ov g := by
  refine ⟨fun i => if i < 10 then K i else k, ?_, ?_⟩
  · intro i j hi hj e
    dsimp only at e
    split at e <;> split at e
    · exact hI i j (by assumption) (by assumption) e
    · rename_i a b; exact absurd (e ▸ hk) (tm_F_none h a)
    · rename_i a b; exact absurd (e ▸ hk) (tm_F_none h b)
    · omega
  · intro i hi
    dsimp only
    split
    · rename_i a; exact hg _ (Or.inl (tm_F_none h a))
    · exact hg _ (Or.inr rfl)
theorem tm_set_ne {f : Int32 → Option Int32} {k w x : Int32} (h : f x ≠ none ∨ x = k) : tm_set f k w x ≠ none := by
  unfold tm_set
  split
  · exact fun z => nomatch z
  · rename_i a; exact h.resolve_right a
theorem tm_set_s {f : Int32 → Option Int32} {k w : Int32} : tm_set f k w k = some w := if_pos rfl
theorem tm_set_n {f : Int32 → Option Int32} {k w x : Int32} (h : x ≠ k) : tm_set f k w x = f x := if_neg h
/-- a new value under a key that is there -/
theorem tm_rep {n p : Nat} {K V K' V' : Nat → Int32} {f : Int32 → Option Int32} {k w : Int32} (hI : tm_I n K) (h : tm_F n K V f) (hp : p < n) (hk : K p = k)
    (e : ∀ i, i < n → K' i = K i) (ep : V' p = w) (en : ∀ i, i < n → i ≠ p → V' i = V i) : tm_F n K' V' (tm_set f k w) := by
  refine ⟨fun i hi => ?_, fun x hx => ?_⟩
  · rw [e i hi]
    by_cases z : i = p
    · subst z; rw [hk, tm_set_s, ep]
    · rw [tm_set_n (fun y => z (hI i p hi hp (y.trans hk.symm))), en i hi z]; exact h.1 i hi
  · have : x ≠ k := by
      intro z
      have := hx p hp
      rw [e p hp, hk] at this
      exact this z.symm
    rw [tm_set_n this]
    exact h.2 x fun i hi => by rw [← e i hi]; exact hx i hi
/-- a new key at its place in the order -/
theorem tm_ins {n p : Nat} {K V K' V' : Nat → Int32} {f : Int32 → Option Int32} {k w : Int32} (hO : tm_O n K) (h : tm_F n K V f) (hp : p ≤ n)
    (hl : ∀ i, i < p → K i < k) (hg : ∀ i, p ≤ i → i < n → k < K i)
    (ea : ∀ i, i < p → K' i = K i ∧ V' i = V i) (eb : K' p = k ∧ V' p = w) (ec : ∀ i, p ≤ i → i < n → K' (i + 1) = K i ∧ V' (i + 1) = V i) :
    tm_O (n + 1) K' ∧ tm_F (n + 1) K' V' (tm_set f k w) := by
  have hc : ∀ i, i < n + 1 → (i < p ∨ i = p ∨ ∃ j, i = j + 1 ∧ p ≤ j ∧ j < n) := by
    intro i hi
    by_cases a : i < p
    · exact Or.inl a
    · by_cases b : i = p
      · exact Or.inr (Or.inl b)
      · exact Or.inr (Or.inr ⟨i - 1, by omega, by omega, by omega⟩)
  refine ⟨?_, ?_, ?_⟩
  · intro i j hij hj
    rcases hc i (by omega) with a | a | ⟨a, a1, a2, a3⟩ <;> rcases hc j hj with b | b | ⟨b, b1, b2, b3⟩
    · rw [(ea i a).1, (ea j b).1]; exact hO i j hij (by omega)
    · subst b; rw [(ea i a).1, eb.1]; exact hl i a
    · subst b1; rw [(ea i a).1, (ec b b2 b3).1]; exact hO i b (by omega) b3
    · omega
    · omega
    · subst a b1; rw [eb.1, (ec b b2 b3).1]; exact hg b b2 b3
    · omega
    · omega
    · subst a1 b1; rw [(ec a a2 a3).1, (ec b b2 b3).1]; exact hO a b (by omega) b3
  · intro i hi
    rcases hc i hi with a | a | ⟨a, a1, a2, a3⟩
    · rw [(ea i a).1, (ea i a).2, tm_set_n (Int32.ne_of_lt (hl i a))]; exact h.1 i (by omega)
    · subst a; rw [eb.1, eb.2]; exact tm_set_s
    · subst a1; rw [(ec a a2 a3).1, (ec a a2 a3).2, tm_set_n (fun z => Int32.ne_of_lt (hg a a2 a3) z.symm)]; exact h.1 a a3
  · intro x hx
    have h1 : x ≠ k := fun z => hx p (by omega) (eb.1.trans z.symm)
    rw [tm_set_n h1]
    refine h.2 x fun i hi z => ?_
    by_cases a : i < p
    · exact hx i (by omega) ((ea i a).1.trans z)
    · exact hx (i + 1) (by omega) ((ec i (by omega) hi).1.trans z)
/-- a new key behind the others -/
theorem tm_app {n : Nat} {K V K' V' : Nat → Int32} {f : Int32 → Option Int32} {k w : Int32} (hI : tm_I n K) (h : tm_F n K V f) (hk : ∀ i, i < n → K i ≠ k)
    (ea : ∀ i, i < n → K' i = K i ∧ V' i = V i) (eb : K' n = k ∧ V' n = w) : tm_I (n + 1) K' ∧ tm_F (n + 1) K' V' (tm_set f k w) := by
  have hc : ∀ i, i < n + 1 → i < n ∨ i = n := fun i hi => by omega
  refine ⟨?_, ?_, ?_⟩
  · intro i j hi hj e
    rcases hc i hi with a | a <;> rcases hc j hj with b | b
    · rw [(ea i a).1, (ea j b).1] at e; exact hI i j a b e
    · subst b; rw [(ea i a).1, eb.1] at e; exact absurd e (hk i a)
    · subst a; rw [(ea j b).1, eb.1] at e; exact absurd e.symm (hk j b)
    · omega
  · intro i hi
    rcases hc i hi with a | a
    · rw [(ea i a).1, (ea i a).2, tm_set_n (hk i a)]; exact h.1 i a
    · subst a; rw [eb.1, eb.2]; exact tm_set_s
  · intro x hx
    rw [tm_set_n (fun z => hx n (by omega) (eb.1.trans z.symm))]
    exact h.2 x fun i hi z => hx i (by omega) ((ea i hi).1.trans z)
/-- a key taken out of the order -/
theorem tm_out {n p : Nat} {K V K' V' : Nat → Int32} {f : Int32 → Option Int32} {k : Int32} (hO : tm_O (n + 1) K) (h : tm_F (n + 1) K V f) (hp : p < n + 1) (hk : K p = k)
    (ea : ∀ i, i < p → K' i = K i ∧ V' i = V i) (ec : ∀ i, p ≤ i → i < n → K' i = K (i + 1) ∧ V' i = V (i + 1)) : tm_O n K' ∧ tm_F n K' V' (tm_del f k) := by
  have hI := tm_OI hO
  refine ⟨?_, ?_, ?_⟩
  · intro i j hij hj
    by_cases a : i < p <;> by_cases b : j < p
    · rw [(ea i a).1, (ea j b).1]; exact hO i j hij (by omega)
    · rw [(ea i a).1, (ec j (by omega) hj).1]; exact hO i (j + 1) (by omega) (by omega)
    · omega
    · rw [(ec i (by omega) (by omega)).1, (ec j (by omega) hj).1]; exact hO (i + 1) (j + 1) (by omega) (by omega)
  · intro i hi
    by_cases a : i < p
    · rw [(ea i a).1, (ea i a).2]
      unfold tm_del
      rw [if_neg (fun z => by have := hI i p (by omega) hp (z.trans hk.symm); omega)]
      exact h.1 i (by omega)
    · rw [(ec i (by omega) hi).1, (ec i (by omega) hi).2]
      unfold tm_del
      rw [if_neg (fun z => by have := hI (i + 1) p (by omega) hp (z.trans hk.symm); omega)]
      exact h.1 (i + 1) (by omega)
  · intro x hx
    unfold tm_del
    by_cases z : x = k
    · rw [if_pos z]
    · rw [if_neg z]
      refine h.2 x fun i hi e => ?_
      by_cases a : i < p
      · exact hx i (by omega) ((ea i a).1.trans e)
      · by_cases b : i = p
        · subst b; exact z (e.symm.trans hk)
        · obtain ⟨j, rfl⟩ : ∃ j, i = j + 1 := ⟨i - 1, by omega⟩
          exact hx j (by omega) ((ec j (by omega) (by omega)).1.trans e)
/-- a key taken out, the last one in its place -/
theorem tm_swp {n p : Nat} {K V K' V' : Nat → Int32} {f : Int32 → Option Int32} {k : Int32} (hI : tm_I (n + 1) K) (h : tm_F (n + 1) K V f) (hp : p < n + 1) (hk : K p = k)
    (ea : ∀ i, i < n → i ≠ p → K' i = K i ∧ V' i = V i) (eb : K' p = K n ∧ V' p = V n) : tm_I n K' ∧ tm_F n K' V' (tm_del f k) := by
  have hg : ∀ i, i < n → ∃ j, j < n + 1 ∧ j ≠ p ∧ K' i = K j ∧ V' i = V j ∧ (j = i ∨ (i = p ∧ j = n)) := by
    intro i hi
    by_cases a : i = p
    · subst a; exact ⟨n, by omega, by omega, eb.1, eb.2, Or.inr ⟨rfl, rfl⟩⟩
    · exact ⟨i, by omega, a, (ea i hi a).1, (ea i hi a).2, Or.inl rfl⟩
  refine ⟨?_, ?_, ?_⟩
  · intro i j hi hj e
    obtain ⟨a, a1, a2, a3, _, a5⟩ := hg i hi
    obtain ⟨b, b1, b2, b3, _, b5⟩ := hg j hj
    have := hI a b a1 b1 (a3.symm.trans (e.trans b3))
    omega
  · intro i hi
    obtain ⟨a, a1, a2, a3, a4, _⟩ := hg i hi
    rw [a3, a4]
    unfold tm_del
    rw [if_neg (fun z => a2 (hI a p a1 hp (z.trans hk.symm)))]
    exact h.1 a a1
  · intro x hx
    unfold tm_del
    by_cases z : x = k
    · rw [if_pos z]
    · rw [if_neg z]
      refine h.2 x fun i hi e => ?_
      have hip : i ≠ p := fun y => z (e.symm.trans (by rw [y]; exact hk))
      by_cases a : i < n
      · exact hx i a ((ea i a hip).1.trans e)
      · have : i = n := by omega
        subst this
        exact hx p (by omega) (eb.1.trans e)
/-- two ordered rows of one map are one row -/
theorem tm_uni {n : Nat} {K V K' V' : Nat → Int32} {f : Int32 → Option Int32} (hO : tm_O n K) (h : tm_F n K V f) (hO' : tm_O n K') (h' : tm_F n K' V' f) {i : Nat} (hi : i < n)
    (hb : ∀ j, j < i → K j = K' j) : K i = K' i := by
  have aux : ∀ {K V K' V' : Nat → Int32}, tm_O n K → tm_F n K V f → tm_O n K' → tm_F n K' V' f → (∀ j, j < i → K j = K' j) → ¬ K i < K' i := by
    intro K V K' V' hO h hO' h' hb z
    obtain ⟨j, hj, e⟩ := tm_F_in h' (tm_F_none h hi)
    by_cases a : j < i
    · have := tm_OI hO j i hj hi ((hb j a).trans e)
      omega
    · by_cases b : j = i
      · subst b; exact absurd e.symm (Int32.ne_of_lt z)
      · exact Int32.lt_asymm z (e ▸ hO' i j (by omega) hj)
  exact Int32.le_antisymm (Int32.not_lt.mp (aux hO' h' hO h fun j hj => (hb j hj).symm)) (Int32.not_lt.mp (aux hO h hO' h' hb))
/-- how many keys are below x -/
def tm_bel (K : Nat → Int32) (x : Int32) : Nat → Nat
  | 0 => 0
  | n + 1 => if K n < x then tm_bel K x n + 1 else tm_bel K x n
theorem tm_bel_le (K : Nat → Int32) (x : Int32) : ∀ n, tm_bel K x n ≤ n := by
  intro n
  induction n with
  | zero => exact Nat.le_refl _
  | succ n ih => unfold tm_bel; split <;> omega
theorem tm_bel_en (K : Nat → Int32) (x : Int32) : ∀ n, ∃ e : Nat → Nat, (∀ i, i < tm_bel K x n → e i < n ∧ K (e i) < x) ∧ (∀ i j, i < tm_bel K x n → j < tm_bel K x n → e i = e j → i = j) ∧ (∀ j, j < n → K j < x → ∃ i, i < tm_bel K x n ∧ e i = j) := by
  intro n
  induction n with
  | zero => exact ⟨id, fun i hi => absurd hi (Nat.not_lt_zero i), fun i _ hi => absurd hi (Nat.not_lt_zero i), fun j hj => absurd hj (Nat.not_lt_zero j)⟩
  | succ n ih =>
    obtain ⟨e, h1, h2, h3⟩ := ih
    by_cases z : K n < x
    · have eb : tm_bel K x (n + 1) = tm_bel K x n + 1 := if_pos z
      rw [eb]
      refine ⟨fun i => if i < tm_bel K x n then e i else n, ?_, ?_, ?_⟩
      · intro i hi
        dsimp only
        split
        · rename_i a; exact ⟨Nat.lt_succ_of_lt (h1 i a).1, (h1 i a).2⟩
        · exact ⟨Nat.lt_succ_self n, z⟩
      · intro i j hi hj he
        dsimp only at he
        split at he <;> split at he
        · rename_i a b; exact h2 i j a b he
        · rename_i a b; have := (h1 i a).1; omega
        · rename_i a b; have := (h1 j b).1; omega
        · omega
      · intro j hj hx
        by_cases a : j < n
        · obtain ⟨i, hi, hh⟩ := h3 j a hx
          exact ⟨i, by omega, by dsimp only; rw [if_pos hi]; exact hh⟩
        · refine ⟨tm_bel K x n, by omega, ?_⟩
          dsimp only
          rw [if_neg (Nat.lt_irrefl _)]
          omega
    · have eb : tm_bel K x (n + 1) = tm_bel K x n := if_neg z
      rw [eb]
      refine ⟨e, fun i hi => ⟨Nat.lt_succ_of_lt (h1 i hi).1, (h1 i hi).2⟩, h2, fun j hj hx => ?_⟩
      by_cases a : j < n
      · exact h3 j a hx
      · have : j = n := by omega
        subst this; exact absurd hx z
theorem tm_bel_eq {n p : Nat} {K V K' V' : Nat → Int32} {f : Int32 → Option Int32} (hO : tm_O n K) (h : tm_F n K V f) (hI' : tm_I n K') (h' : tm_F n K' V' f) (hp : p < n) : tm_bel K' (K p) n = p := by
  obtain ⟨e, h1, h2, h3⟩ := tm_bel_en K' (K p) n
  have hI := tm_OI hO
  apply Nat.le_antisymm
  · refine tm_card p _ (fun i => K' (e i)) K ?_ ?_
    · intro i j hi hj he
      exact h2 i j hi hj (hI' _ _ (h1 i hi).1 (h1 j hj).1 he)
    · intro i hi
      obtain ⟨l, hl, el⟩ := tm_F_in h (tm_F_none h' (h1 i hi).1)
      refine ⟨l, ?_, el⟩
      have hlt := (h1 i hi).2
      rw [← el] at hlt
      rcases Nat.lt_trichotomy l p with z | z | z
      · exact z
      · subst z; exact absurd hlt Int32.lt_irrefl
      · exact absurd hlt (Int32.lt_asymm (hO p l z hl))
  · refine tm_card _ p K (fun i => K' (e i)) (fun i j hi hj he => hI i j (by omega) (by omega) he) ?_
    intro i hi
    obtain ⟨l, hl, el⟩ := tm_F_in h' (tm_F_none h (show i < n by omega))
    obtain ⟨a, ha, ea⟩ := h3 l hl (by rw [el]; exact hO i p hi hp)
    exact ⟨a, ha, by rw [ea]; exact el⟩
end
end
section
section
/-! a row of ten cells: X's picture (ascending), Y's picture (distinct) -/
def tm_X (s k v : Nat → Int32) (r n : Nat) (f : Int32 → Option Int32) : Prop :=
  s r = nI n ∧ n ≤ 10 ∧ tm_O n (fun i => k (r * 10 + i)) ∧ tm_F n (fun i => k (r * 10 + i)) (fun i => v (r * 10 + i)) f
def tm_Y (s k v : Nat → Int32) (r n : Nat) (f : Int32 → Option Int32) : Prop :=
  s r = nI n ∧ n ≤ 10 ∧ tm_I n (fun i => k (r * 10 + i)) ∧ tm_F n (fun i => k (r * 10 + i)) (fun i => v (r * 10 + i)) f
theorem tm_XY {s k v : Nat → Int32} {r n : Nat} {f : Int32 → Option Int32} (h : tm_X s k v r n f) : tm_Y s k v r n f :=
  ⟨h.1, h.2.1, tm_OI h.2.2.1, h.2.2.2⟩
theorem tm_nn {s k v s' k' v' : Nat → Int32} {r q n m : Nat} {f : Int32 → Option Int32} (h : tm_Y s k v r n f) (h' : tm_Y s' k' v' q m f) : n = m :=
  Nat.le_antisymm (tm_F_le h.2.2.1 h.2.2.2 h'.2.2.2 fun _ z => z) (tm_F_le h'.2.2.1 h'.2.2.2 h.2.2.2 fun _ z => z)
theorem tm_no {s k v : Nat → Int32} {r n : Nat} {f : Int32 → Option Int32} (h : tm_Y s k v r n f) (ho : tm_Ov f) : False := tm_Ov_no h.2.2.2 h.2.1 ho
theorem tm_X_congr {s k v s1 k1 v1 : Nat → Int32} {r q n : Nat} {f : Int32 → Option Int32} (h : tm_X s k v r n f) (es : s1 q = s r) (e : ∀ i, i < n → k1 (q * 10 + i) = k (r * 10 + i) ∧ v1 (q * 10 + i) = v (r * 10 + i)) : tm_X s1 k1 v1 q n f :=
  ⟨es.trans h.1, h.2.1, tm_O_congr h.2.2.1 fun i hi => (e i hi).1, tm_F_congr h.2.2.2 e⟩
theorem tm_Y_congr {s k v s1 k1 v1 : Nat → Int32} {r q n : Nat} {f : Int32 → Option Int32} (h : tm_Y s k v r n f) (es : s1 q = s r) (e : ∀ i, i < n → k1 (q * 10 + i) = k (r * 10 + i) ∧ v1 (q * 10 + i) = v (r * 10 + i)) : tm_Y s1 k1 v1 q n f :=
  ⟨es.trans h.1, h.2.1, tm_I_congr h.2.2.1 fun i hi => (e i hi).1, tm_F_congr h.2.2.2 e⟩
/-- the rows other than r stay as they are -/
def tm_fr (r : Nat) (s k v s1 k1 v1 : Nat → Int32) : Prop :=
  ∀ q, q ≠ r → s1 q = s q ∧ ∀ i, i < 10 → k1 (q * 10 + i) = k (q * 10 + i) ∧ v1 (q * 10 + i) = v (q * 10 + i)
theorem tm_fr_rf {r : Nat} {s k v : Nat → Int32} : tm_fr r s k v s k v := fun _ _ => ⟨rfl, fun _ _ => ⟨rfl, rfl⟩⟩
theorem tm_fr_tr {r : Nat} {s k v s1 k1 v1 s2 k2 v2 : Nat → Int32} (h : tm_fr r s k v s1 k1 v1) (h' : tm_fr r s1 k1 v1 s2 k2 v2) : tm_fr r s k v s2 k2 v2 :=
  fun q hq => ⟨(h' q hq).1.trans (h q hq).1, fun i hi => ⟨((h' q hq).2 i hi).1.trans ((h q hq).2 i hi).1, ((h' q hq).2 i hi).2.trans ((h q hq).2 i hi).2⟩⟩
theorem tm_fr_X {r q n : Nat} {s k v s1 k1 v1 : Nat → Int32} {f : Int32 → Option Int32} (h : tm_fr r s k v s1 k1 v1) (hq : q ≠ r) (H : tm_X s k v q n f) : tm_X s1 k1 v1 q n f :=
  tm_X_congr H (h q hq).1 fun i hi => (h q hq).2 i (Nat.lt_of_lt_of_le hi H.2.1)
theorem tm_fr_Y {r q n : Nat} {s k v s1 k1 v1 : Nat → Int32} {f : Int32 → Option Int32} (h : tm_fr r s k v s1 k1 v1) (hq : q ≠ r) (H : tm_Y s k v q n f) : tm_Y s1 k1 v1 q n f :=
  tm_Y_congr H (h q hq).1 fun i hi => (h q hq).2 i (Nat.lt_of_lt_of_le hi H.2.1)
/-- one map in both -/
def tm_rw (s k v : Nat → Int32) (r : Nat) (s' k' v' : Nat → Int32) (q : Nat) : Prop := ∃ n f, tm_X s k v r n f ∧ tm_Y s' k' v' q n f
theorem tm_rw_mk {s k v s' k' v' : Nat → Int32} {r q n m : Nat} {f : Int32 → Option Int32} (h : tm_X s k v r n f) (h' : tm_Y s' k' v' q m f) : tm_rw s k v r s' k' v' q := by
  cases tm_nn (tm_XY h) h'
  exact ⟨n, f, h, h'⟩
def tm_A (P : Nat → Prop) (s k v s' k' v' : Nat → Int32) : Prop := ∀ q, P q → tm_rw s k v q s' k' v' q
theorem tm_A_upd {P P' : Nat → Prop} {r : Nat} {s k v s' k' v' s1 k1 v1 s1' k1' v1' : Nat → Int32} (hA : tm_A P s k v s' k' v') (hP : ∀ q, P' q → q ≠ r → P q)
    (fx : tm_fr r s k v s1 k1 v1) (fy : tm_fr r s' k' v' s1' k1' v1') (hr : P' r → tm_rw s1 k1 v1 r s1' k1' v1' r) : tm_A P' s1 k1 v1 s1' k1' v1' := by
  intro q hq
  by_cases z : q = r
  · subst z; exact hr hq
  · obtain ⟨n, f, a, b⟩ := hA q (hP q hq z)
    exact ⟨n, f, tm_fr_X fx z a, tm_fr_Y fy z b⟩
/-! pieces of arrays moved -/
def tm_up (a : Nat → Int32) (lo hi : Nat) : Nat → Int32 := fun j => if lo < j ∧ j ≤ hi then a (j - 1) else a j
def tm_dn (a : Nat → Int32) (lo hi : Nat) : Nat → Int32 := fun j => if lo ≤ j ∧ j < hi then a (j + 1) else a j
def tm_cp (a : Nat → Int32) (fm to m : Nat) : Nat → Int32 := fun j => if to ≤ j ∧ j < to + m then a (fm + (j - to)) else a j
theorem tm_up_0 (a : Nat → Int32) (c : Nat) : tm_up a c c = a := by
  funext j; unfold tm_up; rw [if_neg (by omega)]
theorem tm_up_1 (a : Nat → Int32) {c hi : Nat} (h : c + 1 ≤ hi) : upd (tm_up a (c + 1) hi) (c + 1) (tm_up a (c + 1) hi c) = tm_up a c hi := by
  funext j
  unfold upd tm_up
  by_cases z : j = c + 1
  · subst z
    rw [if_pos rfl, if_neg (by omega), if_pos (by omega)]
    rfl
  · rw [if_neg z]
    by_cases y : c + 1 < j ∧ j ≤ hi
    · rw [if_pos y, if_pos (by omega)]
    · rw [if_neg y, if_neg (by omega)]
theorem tm_dn_0 (a : Nat → Int32) (c : Nat) : tm_dn a c c = a := by
  funext j; unfold tm_dn; rw [if_neg (by omega)]
theorem tm_dn_1 (a : Nat → Int32) {lo c : Nat} (h : lo ≤ c) : upd (tm_dn a lo c) c (tm_dn a lo c (c + 1)) = tm_dn a lo (c + 1) := by
  funext j
  unfold upd tm_dn
  by_cases z : j = c
  · subst z
    rw [if_pos rfl, if_neg (by omega), if_pos (by omega)]
  · rw [if_neg z]
    by_cases y : lo ≤ j ∧ j < c
    · rw [if_pos y, if_pos (by omega)]
    · rw [if_neg y, if_neg (by omega)]
theorem tm_cp_0 (a : Nat → Int32) (fm to : Nat) : tm_cp a fm to 0 = a := by
  funext j; unfold tm_cp; rw [if_neg (by omega)]
theorem tm_cp_1 (a : Nat → Int32) {fm to m : Nat} (h : ¬ (to ≤ fm + m ∧ fm + m < to + m)) : upd (tm_cp a fm to m) (to + m) (tm_cp a fm to m (fm + m)) = tm_cp a fm to (m + 1) := by
  funext j
  unfold upd tm_cp
  by_cases z : j = to + m
  · subst z
    rw [if_pos rfl, if_neg h, if_pos (by omega)]
    exact congrArg a (by omega)
  · rw [if_neg z]
    by_cases y : to ≤ j ∧ j < to + m
    · rw [if_pos y, if_pos (by omega)]
    · rw [if_neg y, if_neg (by omega)]
end
end
section
section
variable {op st en ch ac ar ak ad sc sa sk sd wc wk wd : Nat → Int32}
/-! X's helpers over its rows -/
theorem tm_xPlace {post : Int32 → Prop} {s k v : Nat → Int32} {r n : Nat} {f : Int32 → Option Int32} {key : Int32} (hr : r < 35) (H : tm_X s k v r n f)
    (h : ∀ p, p ≤ n → (∀ i, i < p → k (r * 10 + i) < key) → (∀ i, p ≤ i → i < n → key ≤ k (r * 10 + i)) → post (nI p)) : wpX_placeOf post (s, k, v, op, st, en, ch, ac, ar, ak, ad, sc, sa, sk, sd, wc, wk, wd) (nI r) key := by
  obtain ⟨e, hn, hO, hF⟩ := H
  have loop : ∀ m p, p ≤ n → n - p < m → (∀ i, i < p → k (r * 10 + i) < key) → wX_placeOf_16 post key (nI (r * 10)) (nI n) s k v op st en ch ac ar ak ad sc sa sk sd wc wk wd m (nI p) := by
    intro m
    induction m with
    | zero => intro p _ hm _; omega
    | succ m ih =>
      intro p hp hm hlt
      refine pk_le n p (fun hle => ?_) (fun hgt => ?_)
      · exact h p hp hlt fun i h1 h2 => by omega
      · refine ⟨pk_in (r * 10 + p) 350 (by omega) (nI_add _ _), br_c (fun hc => ?_) (fun hc => ?_)⟩
        · rw [nI_add, nI_clamp (by omega)] at hc
          refine h p hp hlt fun i h1 h2 => ?_
          by_cases z : i = p
          · rw [z]; exact hc
          · exact Int32.le_of_lt (Int32.lt_of_le_of_lt hc (hO p i (by omega) h2))
        · rw [nI_add, nI_clamp (by omega)] at hc
          refine nm_r (nI_1 p) (ih (p + 1) (by omega) (by omega) fun i hi => ?_)
          by_cases z : i = p
          · rw [z]; exact Int32.not_le.mp hc
          · exact hlt i (by omega)
  refine nm_r (pk_mul r 10) ⟨vp_in_nI hr (by omega), nm_r ?_ ⟨n + 1, loop (n + 1) 0 (by omega) (by omega) fun i hi => absurd hi (Nat.not_lt_zero i)⟩⟩
  rw [nI_clamp (by omega), e]
theorem tm_xLook {Q : Int32 → Int32 → Prop} {s k v : Nat → Int32} {r n : Nat} {f : Int32 → Option Int32} {key : Int32} (hr : r < 35) (H : tm_X s k v r n f)
    (h1 : ∀ p, p < n → k (r * 10 + p) = key → Q (nI p) 1)
    (h0 : ∀ p, p ≤ n → (∀ i, i < p → k (r * 10 + i) < key) → (∀ i, p ≤ i → i < n → key < k (r * 10 + i)) → Q (nI p) 0) :
    wpX_placeOf (fun p => wpX_keyStandsAt (Q p) (s, k, v, op, st, en, ch, ac, ar, ak, ad, sc, sa, sk, sd, wc, wk, wd) (nI r) p key) (s, k, v, op, st, en, ch, ac, ar, ak, ad, sc, sa, sk, sd, wc, wk, wd) (nI r) key := by
  refine tm_xPlace hr H fun p hp hl hg => ?_
  have hn := H.2.1
  have hO := H.2.2.1
  refine ⟨vp_in_nI hr (by omega), pk_le n p (fun hle => ?_) (fun hgt => ?_) (by rw [nI_clamp (by omega), H.1])⟩
  · exact h0 p hp hl fun i a b => by omega
  · have e : (nI r * 10 + nI p).toNatClampNeg = r * 10 + p := pk_cl (r * 10 + p) (by rw [show (10 : Int32) = nI 10 from rfl, pk_mul, nI_add])
    refine ⟨pk_in (r * 10 + p) 350 (by omega) (by rw [show (10 : Int32) = nI 10 from rfl, pk_mul, nI_add]), br_c (fun hc => ?_) (fun hc => ?_)⟩
    · rw [e] at hc; exact h1 p hgt hc
    · rw [e] at hc
      refine h0 p hp hl fun i a b => ?_
      have hle := hg p (Nat.le_refl _) hgt
      have hlt := Int32.lt_of_le_of_ne hle (fun z => hc z.symm)
      by_cases z : i = p
      · rw [z]; exact hlt
      · exact Int32.lt_trans hlt (hO p i (by omega) b)
theorem tm_xHas {post : Int32 → Prop} {s k v : Nat → Int32} {r n : Nat} {f : Int32 → Option Int32} {key : Int32} (hr : r < 35) (H : tm_X s k v r n f)
    (h1 : f key ≠ none → post 1) (h0 : f key = none → post 0) : wpX_hasKey post (s, k, v, op, st, en, ch, ac, ar, ak, ad, sc, sa, sk, sd, wc, wk, wd) (nI r) key := by
  refine tm_xLook hr H (fun p hp e => ⟨by decide, h1 ?_⟩) (fun p hp hl hg => ⟨by decide, h0 ?_⟩)
  · have := tm_F_none H.2.2.2 hp
    rw [← e]; exact this
  · refine H.2.2.2.2 key fun i hi e => ?_
    by_cases a : i < p
    · exact Int32.ne_of_lt (hl i a) e
    · exact Int32.ne_of_lt (hg i (by omega) hi) e.symm
theorem tm_xVal {post : Int32 → Prop} {s k v : Nat → Int32} {r n : Nat} {f : Int32 → Option Int32} {key d : Int32} (hr : r < 35) (H : tm_X s k v r n f)
    (h : post ((f key).getD d)) : wpX_valueUnder post (s, k, v, op, st, en, ch, ac, ar, ak, ad, sc, sa, sk, sd, wc, wk, wd) (nI r) key d := by
  have hn := H.2.1
  refine tm_xLook hr H (fun p hp e => br_f (by decide) ?_) (fun p hp hl hg => br_t rfl ?_)
  · have e1 : (nI r * 10 + nI p) = nI (r * 10 + p) := by rw [show (10 : Int32) = nI 10 from rfl, pk_mul, nI_add]
    refine ⟨pk_in (r * 10 + p) 350 (by omega) e1, ?_⟩
    have := H.2.2.2.1 p hp
    dsimp only at this
    rw [e] at this
    rw [this] at h
    rw [e1, nI_clamp (by omega)]
    exact h
  · have : f key = none := by
      refine H.2.2.2.2 key fun i hi e => ?_
      by_cases a : i < p
      · exact Int32.ne_of_lt (hl i a) e
      · exact Int32.ne_of_lt (hg i (by omega) hi) e.symm
    rw [this] at h
    exact h
theorem tm_xRoom {post : SX → Prop} {s k v : Nat → Int32} {r n p : Nat} (hr : r < 35) (hs : s r = nI n) (hn : n < 10) (hp : p ≤ n)
    (h : post ((upd s r (nI (n + 1))), (tm_up k (r * 10 + p) (r * 10 + n)), (tm_up v (r * 10 + p) (r * 10 + n)), op, st, en, ch, ac, ar, ak, ad, sc, sa, sk, sd, wc, wk, wd)) : wpX_makeRoom post (s, k, v, op, st, en, ch, ac, ar, ak, ad, sc, sa, sk, sd, wc, wk, wd) (nI r) (nI p) := by
  have hin : vp_in (nI r) 35 := vp_in_nI hr (by omega)
  have loop : ∀ m c, r * 10 + p ≤ c → c ≤ r * 10 + n → c - (r * 10 + p) < m → wX_makeRoom_15 post (nI r) (nI p) (nI (r * 10)) m (nI c) s (tm_up k c (r * 10 + n)) (tm_up v c (r * 10 + n)) op st en ch ac ar ak ad sc sa sk sd wc wk wd := by
    intro m
    induction m with
    | zero => intro c _ _ hm; omega
    | succ m ih =>
      intro c h1 h2 hm
      refine pk_le c (r * 10 + p) (fun hle => ?_) (fun hgt => ?_) rfl (nI_add _ _)
      · have : c = r * 10 + p := by omega
        subst this
        exact ⟨hin, hin, nm_r (by rw [nI_clamp (by omega), hs, nI_1]) h⟩
      · obtain ⟨d, rfl⟩ : ∃ d, c = d + 1 := ⟨c - 1, by omega⟩
        have i1 : vp_in (nI (d + 1) - 1) 350 := pk_in d 350 (by omega) (nI_pred d)
        have i2 : vp_in (nI (d + 1)) 350 := vp_in_nI (by omega) (by omega)
        refine ⟨i1, i2, nm_r (e' := tm_up k d (r * 10 + n)) ?_ ⟨i1, i2, nm_r (e' := tm_up v d (r * 10 + n)) ?_ (nm_r (pk_m1 d) (ih d (by omega) (by omega) (by omega)))⟩⟩
        · rw [nI_pred, nI_clamp (by omega), nI_clamp (by omega)]; exact tm_up_1 k h2
        · rw [nI_pred, nI_clamp (by omega), nI_clamp (by omega)]; exact tm_up_1 v h2
  refine nm_r (pk_mul r 10) ⟨hin, nm_r (e' := nI (r * 10 + n)) (by rw [nI_clamp (by omega), hs, nI_add]) ⟨n + 1, ?_⟩⟩
  have := loop (n + 1) (r * 10 + n) (by omega) (by omega) (by omega)
  rw [tm_up_0, tm_up_0] at this
  exact this
theorem tm_xSet {post : Int32 → SX → Prop} {s k v : Nat → Int32} {r n : Nat} {f : Int32 → Option Int32} {key w : Int32} (hr : r < 35) (H : tm_X s k v r n f)
    (h1 : ∀ s1 k1 v1 n1, tm_fr r s k v s1 k1 v1 → tm_X s1 k1 v1 r n1 (tm_set f key w) → post 1 (s1, k1, v1, op, st, en, ch, ac, ar, ak, ad, sc, sa, sk, sd, wc, wk, wd))
    (h0 : tm_Ov (tm_set f key w) → post 0 (s, k, v, op, st, en, ch, ac, ar, ak, ad, sc, sa, sk, sd, wc, wk, wd)) : wpX_setEntry post (s, k, v, op, st, en, ch, ac, ar, ak, ad, sc, sa, sk, sd, wc, wk, wd) (nI r) key w := by
  have hn := H.2.1
  have hin : vp_in (nI r) 35 := vp_in_nI hr (by omega)
  have e1 : ∀ p, (nI r * 10 + nI p) = nI (r * 10 + p) := fun p => by rw [show (10 : Int32) = nI 10 from rfl, pk_mul, nI_add]
  refine tm_xLook hr H (fun p hp e => br_f (by decide) ?_) (fun p hp hl hg => br_t rfl ⟨hin, pk_lt n 10 (fun hlt => ?_) (fun hge => ?_) (by rw [nI_clamp (by omega), H.1])⟩)
  · have i1 : vp_in (nI (r * 10 + p)) 350 := vp_in_nI (by omega) (by omega)
    refine nm_r (e1 p) ⟨i1, nm_r (e' := upd k (r * 10 + p) key) (by rw [nI_clamp (by omega)]) ⟨i1, nm_r (e' := upd v (r * 10 + p) w) (by rw [nI_clamp (by omega)]) (h1 _ _ _ n ?_ ?_)⟩⟩
    · intro q hq
      exact ⟨rfl, fun i hi => ⟨pk_un (by omega), pk_un (by omega)⟩⟩
    · have ek : ∀ i, i < n → upd k (r * 10 + p) key (r * 10 + i) = k (r * 10 + i) := by
        intro i hi
        by_cases z : i = p
        · subst z; rw [pk_us]; exact e.symm
        · exact pk_un (by omega)
      exact ⟨H.1, hn, tm_O_congr H.2.2.1 ek, tm_rep (tm_OI H.2.2.1) H.2.2.2 hp e ek pk_us fun i hi z => pk_un (by omega)⟩
  · refine tm_xRoom hr H.1 hlt hp ?_
    have i1 : vp_in (nI (r * 10 + p)) 350 := vp_in_nI (by omega) (by omega)
    refine nm_r (e1 p) ⟨i1, nm_r (e' := upd (tm_up k (r * 10 + p) (r * 10 + n)) (r * 10 + p) key) (by rw [nI_clamp (by omega)]) ⟨i1, nm_r (e' := upd (tm_up v (r * 10 + p) (r * 10 + n)) (r * 10 + p) w) (by rw [nI_clamp (by omega)]) (h1 _ _ _ (n + 1) ?_ ?_)⟩⟩
    · intro q hq
      refine ⟨pk_un hq, fun i hi => ⟨?_, ?_⟩⟩
      · rw [pk_un (by omega)]; exact if_neg (by omega)
      · rw [pk_un (by omega)]; exact if_neg (by omega)
    · have X := tm_ins (K' := fun i => upd (tm_up k (r * 10 + p) (r * 10 + n)) (r * 10 + p) key (r * 10 + i)) (V' := fun i => upd (tm_up v (r * 10 + p) (r * 10 + n)) (r * 10 + p) w (r * 10 + i)) H.2.2.1 H.2.2.2 hp hl hg
        (fun i hi => ⟨(pk_un (by omega)).trans (if_neg (by omega)), (pk_un (by omega)).trans (if_neg (by omega))⟩) ⟨pk_us, pk_us⟩
        (fun i h1 h2 => ⟨(pk_un (by omega)).trans (if_pos (by omega)), (pk_un (by omega)).trans (if_pos (by omega))⟩)
      exact ⟨pk_us, hlt, X.1, X.2⟩
  · have : n = 10 := by omega
    subst this
    refine h0 (tm_Ov_of H.2.2.2 (tm_OI H.2.2.1) (k := key) ?_ fun x hx => tm_set_ne hx)
    refine H.2.2.2.2 key fun i hi e => ?_
    by_cases a : i < p
    · exact Int32.ne_of_lt (hl i a) e
    · exact Int32.ne_of_lt (hg i (by omega) hi) e.symm
theorem tm_xAdj {post : Int32 → SX → Prop} {s k v : Nat → Int32} {r n : Nat} {f : Int32 → Option Int32} {key d : Int32} (hr : r < 35) (H : tm_X s k v r n f)
    (h1 : ∀ s1 k1 v1 n1, tm_fr r s k v s1 k1 v1 → tm_X s1 k1 v1 r n1 (tm_set f key ((f key).getD 0 + d)) → post 1 (s1, k1, v1, op, st, en, ch, ac, ar, ak, ad, sc, sa, sk, sd, wc, wk, wd))
    (h0 : tm_Ov (tm_set f key ((f key).getD 0 + d)) → post 0 (s, k, v, op, st, en, ch, ac, ar, ak, ad, sc, sa, sk, sd, wc, wk, wd)) : wpX_adjustMap post (s, k, v, op, st, en, ch, ac, ar, ak, ad, sc, sa, sk, sd, wc, wk, wd) (nI r) key d := by
  unfold wpX_adjustMap
  refine tm_xVal hr H ?_
  refine nm_e ?_
  refine tm_xSet hr H (fun s1 k1 v1 n1 a b => ?_) (fun a => ?_)
  · exact ⟨by decide, h1 s1 k1 v1 n1 a b⟩
  · exact ⟨by decide, h0 a⟩
theorem tm_xDrop {post : SX → Prop} {s k v : Nat → Int32} {r n p : Nat} {f : Int32 → Option Int32} {key : Int32} (hr : r < 35) (H : tm_X s k v r n f) (hp : p < n) (hk : k (r * 10 + p) = key)
    (h : ∀ s1 k1 v1 n1, tm_fr r s k v s1 k1 v1 → tm_X s1 k1 v1 r n1 (tm_del f key) → post (s1, k1, v1, op, st, en, ch, ac, ar, ak, ad, sc, sa, sk, sd, wc, wk, wd)) : wpX_dropEntry post (s, k, v, op, st, en, ch, ac, ar, ak, ad, sc, sa, sk, sd, wc, wk, wd) (nI r) (nI p) := by
  have hn := H.2.1
  have hin : vp_in (nI r) 35 := vp_in_nI hr (by omega)
  obtain ⟨m, rfl⟩ : ∃ m, n = m + 1 := ⟨n - 1, by omega⟩
  have hpost : post ((upd s r (nI m)), (tm_dn k (r * 10 + p) (r * 10 + m)), (tm_dn v (r * 10 + p) (r * 10 + m)), op, st, en, ch, ac, ar, ak, ad, sc, sa, sk, sd, wc, wk, wd) := by
    refine h _ _ _ m ?_ ?_
    · intro q hq
      exact ⟨pk_un hq, fun i hi => ⟨if_neg (by omega), if_neg (by omega)⟩⟩
    · have X := tm_out (K' := fun i => tm_dn k (r * 10 + p) (r * 10 + m) (r * 10 + i)) (V' := fun i => tm_dn v (r * 10 + p) (r * 10 + m) (r * 10 + i)) H.2.2.1 H.2.2.2 hp hk
        (fun i hi => ⟨if_neg (by omega), if_neg (by omega)⟩) (fun i h1 h2 => ⟨if_pos (by omega), if_pos (by omega)⟩)
      exact ⟨pk_us, by omega, X.1, X.2⟩
  have loop : ∀ q c, r * 10 + p ≤ c → c ≤ r * 10 + m → r * 10 + m - c < q → wX_dropEntry_22 post (nI r) (nI (r * 10 + m)) q (nI c) s (tm_dn k (r * 10 + p) c) (tm_dn v (r * 10 + p) c) op st en ch ac ar ak ad sc sa sk sd wc wk wd := by
    intro q
    induction q with
    | zero => intro c _ _ hm; omega
    | succ q ih =>
      intro c h1 h2 hm
      refine pk_le (r * 10 + m) c (fun hle => ?_) (fun hgt => ?_)
      · have : c = r * 10 + m := by omega
        subst this
        exact ⟨hin, hin, nm_r (by rw [nI_clamp (by omega), H.1, nI_pred]) hpost⟩
      · have i1 : vp_in (nI c + 1) 350 := pk_in (c + 1) 350 (by omega) (nI_1 c)
        have i2 : vp_in (nI c) 350 := vp_in_nI (by omega) (by omega)
        refine ⟨i1, i2, nm_r (e' := tm_dn k (r * 10 + p) (c + 1)) ?_ ⟨i1, i2, nm_r (e' := tm_dn v (r * 10 + p) (c + 1)) ?_ (nm_r (nI_1 c) (ih (c + 1) (by omega) (by omega) (by omega)))⟩⟩
        · rw [nI_1, nI_clamp (by omega), nI_clamp (by omega)]; exact tm_dn_1 k h1
        · rw [nI_1, nI_clamp (by omega), nI_clamp (by omega)]; exact tm_dn_1 v h1
  refine nm_r (pk_mul r 10) ⟨hin, nm_r (e' := nI (r * 10 + m)) ?_ (nm_r (nI_add (r * 10) p) ⟨m + 1, ?_⟩)⟩
  · rw [nI_clamp (by omega), H.1, nI_add, ← Nat.add_assoc, nI_pred]
  · have := loop (m + 1) (r * 10 + p) (by omega) (by omega) (by omega)
    rw [tm_dn_0, tm_dn_0] at this
    exact this
theorem tm_xCopy {post : SX → Prop} {s k v : Nat → Int32} {a b n : Nat} {f : Int32 → Option Int32} (ha : a < 35) (hb : b < 35) (H : tm_X s k v a n f)
    (h : ∀ s1 k1 v1, tm_fr b s k v s1 k1 v1 → tm_X s1 k1 v1 b n f → post (s1, k1, v1, op, st, en, ch, ac, ar, ak, ad, sc, sa, sk, sd, wc, wk, wd)) : wpX_copyMap post (s, k, v, op, st, en, ch, ac, ar, ak, ad, sc, sa, sk, sd, wc, wk, wd) (nI a) (nI b) := by
  have hn := H.2.1
  have hpost : post ((upd s b (nI n)), (tm_cp k (a * 10) (b * 10) n), (tm_cp v (a * 10) (b * 10) n), op, st, en, ch, ac, ar, ak, ad, sc, sa, sk, sd, wc, wk, wd) := by
    refine h _ _ _ ?_ ?_
    · intro q hq
      exact ⟨pk_un hq, fun i hi => ⟨if_neg (by omega), if_neg (by omega)⟩⟩
    · refine tm_X_congr H (pk_us.trans H.1.symm) fun i hi => ⟨?_, ?_⟩
      · exact (if_pos (by omega)).trans (congrArg k (by omega))
      · exact (if_pos (by omega)).trans (congrArg v (by omega))
  have loop : ∀ q c, c ≤ n → n - c < q → wX_copyMap_22 post (nI b) (nI (a * 10)) (nI (b * 10)) (nI n) q (nI c) s (tm_cp k (a * 10) (b * 10) c) (tm_cp v (a * 10) (b * 10) c) op st en ch ac ar ak ad sc sa sk sd wc wk wd := by
    intro q
    induction q with
    | zero => intro c _ hm; omega
    | succ q ih =>
      intro c h2 hm
      refine pk_le n c (fun hle => ?_) (fun hgt => ?_)
      · have : c = n := by omega
        subst this
        exact ⟨vp_in_nI hb (by omega), nm_r (by rw [nI_clamp (by omega)]) hpost⟩
      · have i1 : vp_in (nI (a * 10) + nI c) 350 := pk_in (a * 10 + c) 350 (by omega) (nI_add _ _)
        have i2 : vp_in (nI (b * 10) + nI c) 350 := pk_in (b * 10 + c) 350 (by omega) (nI_add _ _)
        refine ⟨i1, i2, nm_r (e' := tm_cp k (a * 10) (b * 10) (c + 1)) ?_ ⟨i1, i2, nm_r (e' := tm_cp v (a * 10) (b * 10) (c + 1)) ?_ (nm_r (nI_1 c) (ih (c + 1) (by omega) (by omega)))⟩⟩
        · rw [nI_add, nI_add, nI_clamp (by omega), nI_clamp (by omega)]; exact tm_cp_1 k (by omega)
        · rw [nI_add, nI_add, nI_clamp (by omega), nI_clamp (by omega)]; exact tm_cp_1 v (by omega)
  refine nm_r (pk_mul a 10) (nm_r (pk_mul b 10) ⟨vp_in_nI ha (by omega), nm_r (e' := nI n) (by rw [nI_clamp (by omega), H.1]) ⟨n + 1, ?_⟩⟩)
  have := loop (n + 1) 0 (by omega) (by omega)
  rw [tm_cp_0, tm_cp_0] at this
  exact this
theorem tm_xEq {post : Int32 → Prop} {s k v : Nat → Int32} {a b n m : Nat} {f g : Int32 → Option Int32} (ha : a < 35) (hb : b < 35) (H : tm_X s k v a n f) (G : tm_X s k v b m g)
    (h1 : f = g → post 1) (h0 : f ≠ g → post 0) : wpX_mapsAreEqual post (s, k, v, op, st, en, ch, ac, ar, ak, ad, sc, sa, sk, sd, wc, wk, wd) (nI a) (nI b) := by
  have hn := H.2.1
  have hm := G.2.1
  refine ⟨vp_in_nI ha (by omega), nm_r (e' := nI n) (by rw [nI_clamp (by omega), H.1]) ⟨vp_in_nI hb (by omega), pk_eq n m (fun e => ?_) (fun e => ?_) rfl (by rw [nI_clamp (by omega), G.1])⟩⟩
  · subst e
    have loop : ∀ q c, c ≤ n → n - c < q → (∀ i, i < c → k (a * 10 + i) = k (b * 10 + i) ∧ v (a * 10 + i) = v (b * 10 + i)) → wX_mapsAreEqual_34 post (nI n) (nI (a * 10)) (nI (b * 10)) s k v op st en ch ac ar ak ad sc sa sk sd wc wk wd q (nI c) := by
      intro q
      induction q with
      | zero => intro c _ hm; omega
      | succ q ih =>
        intro c h2 hm hq
        have ea : (nI (a * 10) + nI c).toNatClampNeg = a * 10 + c := by rw [nI_add, nI_clamp (by omega)]
        refine pk_le n c (fun hle => ?_) (fun hgt => ?_)
        · have : c = n := by omega
          subst this
          exact h1 (tm_F_eq H.2.2.2 (tm_F_congr G.2.2.2 hq))
        · have eb : (nI (b * 10) + nI c).toNatClampNeg = b * 10 + c := by rw [nI_add, nI_clamp (by omega)]
          have i1 : vp_in (nI (a * 10) + nI c) 350 := pk_in (a * 10 + c) 350 (by omega) (nI_add _ _)
          have i2 : vp_in (nI (b * 10) + nI c) 350 := pk_in (b * 10 + c) 350 (by omega) (nI_add _ _)
          refine ⟨i1, i2, br_c (fun e1 => ⟨i1, i2, br_c (fun e2 => ?_) (fun e2 => ?_)⟩) (fun e1 => ?_)⟩
          · rw [ea, eb] at e1 e2
            refine nm_r (nI_1 c) (ih (c + 1) (by omega) (by omega) fun i hi => ?_)
            by_cases z : i = c
            · subst z; exact ⟨e1, e2⟩
            · exact hq i (by omega)
          · rw [ea, eb] at e1 e2
            refine h0 fun z => e2 ?_
            subst z
            have x1 := H.2.2.2.1 c (by omega)
            have x2 := G.2.2.2.1 c (by omega)
            dsimp only at x1 x2
            rw [e1, x2] at x1
            exact (Option.some.inj x1).symm
          · rw [ea, eb] at e1
            refine h0 fun z => e1 ?_
            subst z
            exact tm_uni H.2.2.1 H.2.2.2 G.2.2.1 G.2.2.2 (i := c) (by omega) fun j hj => (hq j hj).1
    exact nm_r (pk_mul a 10) (nm_r (pk_mul b 10) ⟨n + 1, loop (n + 1) 0 (by omega) (by omega) fun i hi => absurd hi (Nat.not_lt_zero i)⟩)
  · refine h0 fun z => e ?_
    subst z
    exact tm_nn (tm_XY H) (tm_XY G)
end
end
section
section
variable {op st en ch ac ar ak ad sc sa sk sd wc wk wd : Nat → Int32}
/-! Y's helpers over its rows -/
theorem tm_r10 (r p : Nat) : nI r * 10 + nI p = nI (r * 10 + p) := by rw [show (10 : Int32) = nI 10 from rfl, pk_mul, nI_add]
theorem tm_yFind {post : Int32 → Prop} {s k v : Nat → Int32} {r n : Nat} {f : Int32 → Option Int32} {key : Int32} (hr : r < 39) (H : tm_Y s k v r n f)
    (h1 : ∀ p, p < n → k (r * 10 + p) = key → post (nI (r * 10 + p))) (h0 : f key = none → (∀ i, i < n → k (r * 10 + i) ≠ key) → post (-1)) : wpY_find post (k, v, s, op, st, en, ch, ar, ak, ad, ac, sa, sk, sd, sc, wk, wd, wc) (nI r) key := by
  obtain ⟨e, hn, hI, hF⟩ := H
  have loop : ∀ m p, p ≤ n → n - p < m → (∀ i, i < p → k (r * 10 + i) ≠ key) → wY_find_2 post (nI r) key k v s op st en ch ar ak ad ac sa sk sd sc wk wd wc m (nI p) := by
    intro m
    induction m with
    | zero => intro p _ hm _; omega
    | succ m ih =>
      intro p hp hm hne
      refine ⟨vp_in_nI hr (by omega), pk_le n p (fun hle => ?_) (fun hgt => ?_) (by rw [nI_clamp (by omega), e])⟩
      · have : p = n := by omega
        subst this
        exact h0 (hF.2 key hne) hne
      · refine ⟨pk_in (r * 10 + p) 390 (by omega) (tm_r10 r p), br_c (fun hc => ?_) (fun hc => ?_)⟩
        · rw [tm_r10, nI_clamp (by omega)] at hc
          rw [tm_r10]
          exact h1 p hgt hc
        · rw [tm_r10, nI_clamp (by omega)] at hc
          refine nm_r (nI_1 p) (ih (p + 1) (by omega) (by omega) fun i hi => ?_)
          by_cases z : i = p
          · rw [z]; exact hc
          · exact hne i (by omega)
  exact ⟨n + 1, loop (n + 1) 0 (by omega) (by omega) fun i hi => absurd hi (Nat.not_lt_zero i)⟩
theorem tm_ySet {post : Int32 → SY → Prop} {s k v : Nat → Int32} {r n : Nat} {f : Int32 → Option Int32} {key w : Int32} (hr : r < 39) (H : tm_Y s k v r n f)
    (h1 : ∀ s1 k1 v1 n1, tm_fr r s k v s1 k1 v1 → tm_Y s1 k1 v1 r n1 (tm_set f key w) → post 1 (k1, v1, s1, op, st, en, ch, ar, ak, ad, ac, sa, sk, sd, sc, wk, wd, wc))
    (h0 : tm_Ov (tm_set f key w) → post 0 (k, v, s, op, st, en, ch, ar, ak, ad, ac, sa, sk, sd, sc, wk, wd, wc)) : wpY_set post (k, v, s, op, st, en, ch, ar, ak, ad, ac, sa, sk, sd, sc, wk, wd, wc) (nI r) key w := by
  have hn := H.2.1
  have hin : vp_in (nI r) 39 := vp_in_nI hr (by omega)
  unfold wpY_set
  refine tm_yFind hr H (fun p hp e => br_t (nI_pos' (by omega)) ?_) (fun hf hne => br_f (by decide) ⟨hin, pk_eq n 10 (fun heq => ?_) (fun hneq => ?_) (by rw [nI_clamp (by omega), H.1])⟩)
  · have i1 : vp_in (nI (r * 10 + p)) 390 := vp_in_nI (by omega) (by omega)
    refine ⟨i1, nm_r (e' := upd k (r * 10 + p) key) (by rw [nI_clamp (by omega)]) ⟨i1, nm_r (e' := upd v (r * 10 + p) w) (by rw [nI_clamp (by omega)]) (h1 _ _ _ n ?_ ?_)⟩⟩
    · intro q hq
      exact ⟨rfl, fun i hi => ⟨pk_un (by omega), pk_un (by omega)⟩⟩
    · have ek : ∀ i, i < n → upd k (r * 10 + p) key (r * 10 + i) = k (r * 10 + i) := by
        intro i hi
        by_cases z : i = p
        · subst z; rw [pk_us]; exact e.symm
        · exact pk_un (by omega)
      exact ⟨H.1, hn, tm_I_congr H.2.2.1 ek, tm_rep H.2.2.1 H.2.2.2 hp e ek pk_us fun i hi z => pk_un (by omega)⟩
  · subst heq
    exact h0 (tm_Ov_of H.2.2.2 H.2.2.1 hf fun x hx => tm_set_ne hx)
  · have i1 : vp_in (nI (r * 10 + n)) 390 := vp_in_nI (by omega) (by omega)
    refine ⟨hin, nm_r (e' := nI (r * 10 + n)) (by rw [nI_clamp (by omega), H.1, tm_r10]) ⟨hin, hin, nm_r (e' := upd s r (nI (n + 1))) (by rw [nI_clamp (by omega), H.1, nI_1]) ?_⟩⟩
    refine ⟨i1, nm_r (e' := upd k (r * 10 + n) key) (by rw [nI_clamp (by omega)]) ⟨i1, nm_r (e' := upd v (r * 10 + n) w) (by rw [nI_clamp (by omega)]) (h1 _ _ _ (n + 1) ?_ ?_)⟩⟩
    · intro q hq
      exact ⟨pk_un hq, fun i hi => ⟨pk_un (by omega), pk_un (by omega)⟩⟩
    · have X := tm_app (K' := fun i => upd k (r * 10 + n) key (r * 10 + i)) (V' := fun i => upd v (r * 10 + n) w (r * 10 + i)) H.2.2.1 H.2.2.2 hne
        (fun i hi => ⟨pk_un (by omega), pk_un (by omega)⟩) ⟨pk_us, pk_us⟩
      exact ⟨pk_us, by omega, X.1, X.2⟩
theorem tm_yAdj {post : Int32 → SY → Prop} {s k v : Nat → Int32} {r n : Nat} {f : Int32 → Option Int32} {key d : Int32} (hr : r < 39) (H : tm_Y s k v r n f)
    (h1 : ∀ s1 k1 v1 n1, tm_fr r s k v s1 k1 v1 → tm_Y s1 k1 v1 r n1 (tm_set f key ((f key).getD 0 + d)) → post 1 (k1, v1, s1, op, st, en, ch, ar, ak, ad, ac, sa, sk, sd, sc, wk, wd, wc))
    (h0 : tm_Ov (tm_set f key ((f key).getD 0 + d)) → post 0 (k, v, s, op, st, en, ch, ar, ak, ad, ac, sa, sk, sd, sc, wk, wd, wc)) : wpY_adjusted post (k, v, s, op, st, en, ch, ar, ak, ad, ac, sa, sk, sd, sc, wk, wd, wc) (nI r) key d := by
  have hn := H.2.1
  unfold wpY_adjusted
  refine tm_yFind hr H (fun p hp e => br_t (nI_pos' (by omega)) ⟨vp_in_nI (by omega) (by omega), ?_⟩) (fun hf hne => br_f (by decide) ?_)
  · have ev := H.2.2.2.1 p hp
    dsimp only at ev
    rw [e] at ev
    rw [ev] at h1 h0
    rw [nI_clamp (by omega)]
    unfold wY_adjusted_24
    refine tm_ySet hr H (fun s1 k1 v1 n1 a b => ?_) (fun a => ?_)
    · exact ⟨by decide, h1 s1 k1 v1 n1 a b⟩
    · exact ⟨by decide, h0 a⟩
  · rw [hf] at h1 h0
    unfold wY_adjusted_24
    refine tm_ySet hr H (fun s1 k1 v1 n1 a b => ?_) (fun a => ?_)
    · exact ⟨by decide, h1 s1 k1 v1 n1 a b⟩
    · exact ⟨by decide, h0 a⟩
theorem tm_yCopy {post : SY → Prop} {s k v : Nat → Int32} {a b n : Nat} {f : Int32 → Option Int32} (ha : a < 39) (hb : b < 39) (H : tm_Y s k v a n f)
    (h : ∀ s1 k1 v1, tm_fr b s k v s1 k1 v1 → tm_Y s1 k1 v1 b n f → post (k1, v1, s1, op, st, en, ch, ar, ak, ad, ac, sa, sk, sd, sc, wk, wd, wc)) : wpY_copy post (k, v, s, op, st, en, ch, ar, ak, ad, ac, sa, sk, sd, sc, wk, wd, wc) (nI a) (nI b) := by
  have hn := H.2.1
  have hpost : post ((tm_cp k (a * 10) (b * 10) 10), (tm_cp v (a * 10) (b * 10) 10), (upd s b (nI n)), op, st, en, ch, ar, ak, ad, ac, sa, sk, sd, sc, wk, wd, wc) := by
    refine h _ _ _ ?_ ?_
    · intro q hq
      exact ⟨pk_un hq, fun i hi => ⟨if_neg (by omega), if_neg (by omega)⟩⟩
    · refine tm_Y_congr H (pk_us.trans H.1.symm) fun i hi => ⟨?_, ?_⟩
      · exact (if_pos (by omega)).trans (congrArg k (by omega))
      · exact (if_pos (by omega)).trans (congrArg v (by omega))
  have loop : ∀ q c, c ≤ 10 → 10 - c < q → wY_copy_2 post (nI a) (nI b) q (nI c) (tm_cp k (a * 10) (b * 10) c) (tm_cp v (a * 10) (b * 10) c) s op st en ch ar ak ad ac sa sk sd sc wk wd wc := by
    intro q
    induction q with
    | zero => intro c _ hm; omega
    | succ q ih =>
      intro c h2 hm
      refine pk_le 10 c (fun hle => ?_) (fun hgt => ?_)
      · have : c = 10 := by omega
        subst this
        exact ⟨vp_in_nI ha (by omega), vp_in_nI hb (by omega), nm_r (by rw [nI_clamp (by omega), nI_clamp (by omega), H.1]) hpost⟩
      · have i1 : vp_in (nI a * 10 + nI c) 390 := pk_in (a * 10 + c) 390 (by omega) (tm_r10 _ _)
        have i2 : vp_in (nI b * 10 + nI c) 390 := pk_in (b * 10 + c) 390 (by omega) (tm_r10 _ _)
        refine ⟨i1, i2, nm_r (e' := tm_cp k (a * 10) (b * 10) (c + 1)) ?_ ⟨i1, i2, nm_r (e' := tm_cp v (a * 10) (b * 10) (c + 1)) ?_ (nm_r (nI_1 c) (ih (c + 1) (by omega) (by omega)))⟩⟩
        · rw [tm_r10, tm_r10, nI_clamp (by omega), nI_clamp (by omega)]; exact tm_cp_1 k (by omega)
        · rw [tm_r10, tm_r10, nI_clamp (by omega), nI_clamp (by omega)]; exact tm_cp_1 v (by omega)
  refine ⟨11, ?_⟩
  have := loop 11 0 (by omega) (by omega)
  rw [tm_cp_0, tm_cp_0] at this
  exact this
theorem tm_ySame {post : Int32 → Prop} {s k v : Nat → Int32} {a b n : Nat} {f g : Int32 → Option Int32} (ha : a < 39) (hb : b < 39) (H : tm_Y s k v a n f) (G : tm_Y s k v b n g)
    (h1 : f = g → post 1) (h0 : f ≠ g → post 0) : ∃ q, wY_same_40 post (nI a) (nI b) k v s op st en ch ar ak ad ac sa sk sd sc wk wd wc q (nI a * 10) := by
  have hn := H.2.1
  have loop : ∀ q c, c ≤ n → n - c < q → (∀ i, i < c → g (k (a * 10 + i)) = some (v (a * 10 + i))) → wY_same_40 post (nI a) (nI b) k v s op st en ch ar ak ad ac sa sk sd sc wk wd wc q (nI (a * 10 + c)) := by
    intro q
    induction q with
    | zero => intro c _ hm; omega
    | succ q ih =>
      intro c h2 hm hq
      refine ⟨vp_in_nI ha (by omega), pk_le (a * 10 + n) (a * 10 + c) (fun hle => ?_) (fun hgt => ?_) (by rw [nI_clamp (by omega), H.1, tm_r10])⟩
      · have : c = n := by omega
        subst this
        refine h1 ?_
        funext x
        by_cases z : ∃ i, i < c ∧ k (a * 10 + i) = x
        · obtain ⟨i, hi, rfl⟩ := z
          rw [hq i hi]; exact H.2.2.2.1 i hi
        · have hf : f x = none := H.2.2.2.2 x fun i hi e => z ⟨i, hi, e⟩
          rw [hf]
          refine Classical.byContradiction fun hg => ?_
          have hI : tm_I (c + 1) (fun i => if i < c then k (a * 10 + i) else x) := by
            intro i j hi hj e
            dsimp only at e
            split at e <;> split at e
            · rename_i y w; exact H.2.2.1 i j y w e
            · rename_i y w; exact absurd ⟨i, y, e⟩ z
            · rename_i y w; exact absurd ⟨j, w, e.symm⟩ z
            · omega
          have := tm_card c (c + 1) _ (fun i => k (b * 10 + i)) hI fun i hi => by
            by_cases y : i < c
            · rw [if_pos y]
              exact tm_F_in G.2.2.2 (by rw [hq i y]; exact fun z => nomatch z)
            · rw [if_neg y]
              exact tm_F_in G.2.2.2 fun z => hg z.symm
          omega
      · have i1 : vp_in (nI (a * 10 + c)) 390 := vp_in_nI (by omega) (by omega)
        have x1 := H.2.2.2.1 c (by omega)
        dsimp only at x1
        refine ⟨i1, tm_yFind hb G (fun p hp e => br_f (nI_pos (by omega)) ⟨vp_in_nI (by omega) (by omega), i1, br_c (fun e2 => ?_) (fun e2 => ?_)⟩) (fun hf hne => br_t (by decide) ?_)⟩
        · rw [nI_clamp (by omega), nI_clamp (by omega)] at e2
          rw [nI_clamp (by omega)] at e
          refine nm_r (nI_1 (a * 10 + c)) (ih (c + 1) (by omega) (by omega) fun i hi => ?_)
          by_cases z : i = c
          · subst z
            rw [← e, ← e2]; exact G.2.2.2.1 p hp
          · exact hq i (by omega)
        · rw [nI_clamp (by omega), nI_clamp (by omega)] at e2
          rw [nI_clamp (by omega)] at e
          refine h0 fun z => e2 ?_
          subst z
          have x2 := G.2.2.2.1 p hp
          dsimp only at x2
          rw [e, x1] at x2
          exact (Option.some.inj x2).symm
        · rw [nI_clamp (by omega)] at hf
          refine h0 fun z => ?_
          subst z
          rw [hf] at x1
          exact nomatch x1
  exact ⟨n + 1, by rw [show nI a * 10 = nI (a * 10 + 0) from pk_mul a 10]; exact loop (n + 1) 0 (by omega) (by omega) fun i hi => absurd hi (Nat.not_lt_zero i)⟩
theorem tm_yKeyIn {post : Int32 → Prop} {J : Int32 → Prop} {s k v : Nat → Int32} {r n c : Nat} {f : Int32 → Option Int32} {pl : Int32} (hr : r < 39) (H : tm_Y s k v r n f) (hc : c < n)
    (h1 : nI (tm_bel (fun i => k (r * 10 + i)) (k (r * 10 + c)) n) = pl → post (k (r * 10 + c)))
    (h0 : nI (tm_bel (fun i => k (r * 10 + i)) (k (r * 10 + c)) n) ≠ pl → J (nI (r * 10 + (c + 1)))) : ∃ q, wY_keyAt_40 post J (nI r) pl (nI (r * 10 + c)) k v s op st en ch ar ak ad ac sa sk sd sc wk wd wc q 0 (nI r * 10) := by
  have hn := H.2.1
  have loop : ∀ q d, d ≤ n → n - d < q → wY_keyAt_40 post J (nI r) pl (nI (r * 10 + c)) k v s op st en ch ar ak ad ac sa sk sd sc wk wd wc q (nI (tm_bel (fun i => k (r * 10 + i)) (k (r * 10 + c)) d)) (nI (r * 10 + d)) := by
    intro q
    induction q with
    | zero => intro d _ hm; omega
    | succ q ih =>
      intro d h2 hm
      have i2 : vp_in (nI (r * 10 + c)) 390 := vp_in_nI (by omega) (by omega)
      refine ⟨vp_in_nI hr (by omega), pk_le (r * 10 + n) (r * 10 + d) (fun hle => ?_) (fun hgt => ?_) (by rw [nI_clamp (by omega), H.1, tm_r10])⟩
      · have : d = n := by omega
        subst this
        refine br_c (fun e => ⟨i2, ?_⟩) (fun e => nm_r (nI_1 _) (h0 e))
        rw [nI_clamp (by omega)]
        exact h1 e
      · refine ⟨vp_in_nI (by omega) (by omega), i2, br_c (fun e => ?_) (fun e => ?_)⟩
        · rw [nI_clamp (by omega), nI_clamp (by omega)] at e
          refine nm_r (nI_1 (r * 10 + d)) ?_
          have := ih (d + 1) (by omega) (by omega)
          rw [show tm_bel (fun i => k (r * 10 + i)) (k (r * 10 + c)) (d + 1) = tm_bel (fun i => k (r * 10 + i)) (k (r * 10 + c)) d from if_neg (Int32.not_lt.mpr e)] at this
          exact this
        · rw [nI_clamp (by omega), nI_clamp (by omega)] at e
          refine nm_r (nI_1 _) (nm_r (nI_1 (r * 10 + d)) ?_)
          have := ih (d + 1) (by omega) (by omega)
          rw [show tm_bel (fun i => k (r * 10 + i)) (k (r * 10 + c)) (d + 1) = tm_bel (fun i => k (r * 10 + i)) (k (r * 10 + c)) d + 1 from if_pos (Int32.not_le.mp e)] at this
          exact this
  exact ⟨n + 1, by rw [show nI r * 10 = nI (r * 10 + 0) from pk_mul r 10]; exact loop (n + 1) 0 (by omega) (by omega)⟩
theorem tm_yKey {post : Int32 → Prop} {s k v : Nat → Int32} {r n : Nat} {f : Int32 → Option Int32} {pl : Int32} {K V : Nat → Int32} (hr : r < 39) (H : tm_Y s k v r n f) (hO : tm_O n K) (hF : tm_F n K V f)
    (h1 : ∀ p, p < n → pl = nI p → post (K p)) (h0 : (∀ p, p < n → pl ≠ nI p) → post 0) : ∃ q, wY_keyAt_16 post (nI r) pl k v s op st en ch ar ak ad ac sa sk sd sc wk wd wc q (nI r * 10) := by
  have hn := H.2.1
  have rank : ∀ c, c < n → ∃ p, p < n ∧ K p = k (r * 10 + c) ∧ tm_bel (fun i => k (r * 10 + i)) (k (r * 10 + c)) n = p := by
    intro c hc
    obtain ⟨p, hp, e⟩ := tm_F_in hF (tm_F_none H.2.2.2 hc)
    exact ⟨p, hp, e, by have := tm_bel_eq hO hF H.2.2.1 H.2.2.2 hp; rw [e] at this; exact this⟩
  have loop : ∀ q c, c ≤ n → n - c < q → (∀ i, i < c → nI (tm_bel (fun i => k (r * 10 + i)) (k (r * 10 + i)) n) ≠ pl) → wY_keyAt_16 post (nI r) pl k v s op st en ch ar ak ad ac sa sk sd sc wk wd wc q (nI (r * 10 + c)) := by
    intro q
    induction q with
    | zero => intro c _ hm; omega
    | succ q ih =>
      intro c h2 hm hq
      refine ⟨vp_in_nI hr (by omega), pk_le (r * 10 + n) (r * 10 + c) (fun hle => ?_) (fun hgt => ?_) (by rw [nI_clamp (by omega), H.1, tm_r10])⟩
      · have : c = n := by omega
        subst this
        refine h0 fun p hp e => ?_
        obtain ⟨j, hj, ej⟩ := tm_F_in H.2.2.2 (tm_F_none hF hp)
        have := tm_bel_eq hO hF H.2.2.1 H.2.2.2 hp
        refine hq j hj ?_
        rw [ej, this]
        exact e.symm
      · refine nm_e (tm_yKeyIn hr H (show c < n by omega) (fun e => ?_) (fun e => ?_))
        · obtain ⟨p, hp, e1, e2⟩ := rank c (by omega)
          rw [e2] at e
          rw [← e1]
          exact h1 p hp e.symm
        · refine ih (c + 1) (by omega) (by omega) fun i hi => ?_
          by_cases z : i = c
          · subst z; exact e
          · exact hq i (by omega)
  exact ⟨n + 1, by rw [show nI r * 10 = nI (r * 10 + 0) from pk_mul r 10]; exact loop (n + 1) 0 (by omega) (by omega) fun i hi => absurd hi (Nat.not_lt_zero i)⟩
end
end
section
section
/-! families of maps: one function for both sides -/
def tm_PX (P : Nat → Prop) (G : Nat → Int32 → Option Int32) (s k w : Nat → Int32) : Prop := ∀ q, P q → ∃ n, tm_X s k w q n (G q)
def tm_PY (P : Nat → Prop) (G : Nat → Int32 → Option Int32) (s k w : Nat → Int32) : Prop := ∀ q, P q → ∃ n, tm_Y s k w q n (G q)
def tm_gu (G : Nat → Int32 → Option Int32) (b : Nat) (g : Int32 → Option Int32) : Nat → Int32 → Option Int32 := fun q => if q = b then g else G q
theorem tm_gu_s {G : Nat → Int32 → Option Int32} {b : Nat} {g : Int32 → Option Int32} : tm_gu G b g b = g := if_pos rfl
theorem tm_gu_n {G : Nat → Int32 → Option Int32} {b q : Nat} {g : Int32 → Option Int32} (h : q ≠ b) : tm_gu G b g q = G q := if_neg h
theorem tm_PX_of {P P' : Nat → Prop} {G G' : Nat → Int32 → Option Int32} {s k w : Nat → Int32} (h : tm_PX P G s k w) (e : ∀ q, P' q → P q ∧ G' q = G q) : tm_PX P' G' s k w := by
  intro q hq
  rw [(e q hq).2]
  exact h q (e q hq).1
theorem tm_PY_of {P P' : Nat → Prop} {G G' : Nat → Int32 → Option Int32} {s k w : Nat → Int32} (h : tm_PY P G s k w) (e : ∀ q, P' q → P q ∧ G' q = G q) : tm_PY P' G' s k w := by
  intro q hq
  rw [(e q hq).2]
  exact h q (e q hq).1
theorem tm_PX_u {P : Nat → Prop} {G : Nat → Int32 → Option Int32} {s k w s1 k1 w1 : Nat → Int32} {b n : Nat} {g : Int32 → Option Int32} (h : tm_PX P G s k w) (fr : tm_fr b s k w s1 k1 w1) (hb : tm_X s1 k1 w1 b n g) : tm_PX (fun q => P q ∨ q = b) (tm_gu G b g) s1 k1 w1 := by
  intro q hq
  by_cases z : q = b
  · subst z; rw [tm_gu_s]; exact ⟨n, hb⟩
  · rw [tm_gu_n z]
    obtain ⟨m, hm⟩ := h q (hq.resolve_right z)
    exact ⟨m, tm_fr_X fr z hm⟩
theorem tm_PY_u {P : Nat → Prop} {G : Nat → Int32 → Option Int32} {s k w s1 k1 w1 : Nat → Int32} {b n : Nat} {g : Int32 → Option Int32} (h : tm_PY P G s k w) (fr : tm_fr b s k w s1 k1 w1) (hb : tm_Y s1 k1 w1 b n g) : tm_PY (fun q => P q ∨ q = b) (tm_gu G b g) s1 k1 w1 := by
  intro q hq
  by_cases z : q = b
  · subst z; rw [tm_gu_s]; exact ⟨n, hb⟩
  · rw [tm_gu_n z]
    obtain ⟨m, hm⟩ := h q (hq.resolve_right z)
    exact ⟨m, tm_fr_Y fr z hm⟩
theorem tm_PX_s {P : Nat → Prop} {G : Nat → Int32 → Option Int32} {s k w s1 k1 w1 : Nat → Int32} {b n : Nat} {g : Int32 → Option Int32} (h : tm_PX P G s k w) (fr : tm_fr b s k w s1 k1 w1) (hb : tm_X s1 k1 w1 b n g) : tm_PX P (tm_gu G b g) s1 k1 w1 :=
  tm_PX_of (tm_PX_u h fr hb) fun _ hq => ⟨Or.inl hq, rfl⟩
theorem tm_PY_s {P : Nat → Prop} {G : Nat → Int32 → Option Int32} {s k w s1 k1 w1 : Nat → Int32} {b n : Nat} {g : Int32 → Option Int32} (h : tm_PY P G s k w) (fr : tm_fr b s k w s1 k1 w1) (hb : tm_Y s1 k1 w1 b n g) : tm_PY P (tm_gu G b g) s1 k1 w1 :=
  tm_PY_of (tm_PY_u h fr hb) fun _ hq => ⟨Or.inl hq, rfl⟩
theorem tm_sz {P P' : Nat → Prop} {G : Nat → Int32 → Option Int32} {s k w s' k' w' : Nat → Int32} {q : Nat} (h : tm_PX P G s k w) (h' : tm_PY P' G s' k' w') (hq : P q) (hq' : P' q) : s' q = s q := by
  obtain ⟨n, a⟩ := h q hq
  obtain ⟨m, b⟩ := h' q hq'
  rw [a.1, b.1, tm_nn (tm_XY a) b]
def tm_ad (f : Int32 → Option Int32) (key d : Int32) : Int32 → Option Int32 := tm_set f key ((f key).getD 0 + d)
section
variable {op st en ch ac ar ak ad sc sa sk sd wc wk wd : Nat → Int32}
theorem tm_xCp {post : SX → Prop} {P : Nat → Prop} {G : Nat → Int32 → Option Int32} {s k w : Nat → Int32} {a b : Nat} (ha : a < 35) (hb : b < 35) (H : tm_PX P G s k w) (hP : P a)
    (h : ∀ s1 k1 w1, tm_PX (fun q => P q ∨ q = b) (tm_gu G b (G a)) s1 k1 w1 → post (s1, k1, w1, op, st, en, ch, ac, ar, ak, ad, sc, sa, sk, sd, wc, wk, wd)) : wpX_copyMap post (s, k, w, op, st, en, ch, ac, ar, ak, ad, sc, sa, sk, sd, wc, wk, wd) (nI a) (nI b) := by
  obtain ⟨n, hn⟩ := H a hP
  exact tm_xCopy ha hb hn fun s1 k1 w1 x y => h s1 k1 w1 (tm_PX_u H x y)
theorem tm_yCp {post : SY → Prop} {P : Nat → Prop} {G : Nat → Int32 → Option Int32} {s k w : Nat → Int32} {a b : Nat} (ha : a < 39) (hb : b < 39) (H : tm_PY P G s k w) (hP : P a)
    (h : ∀ s1 k1 w1, tm_PY (fun q => P q ∨ q = b) (tm_gu G b (G a)) s1 k1 w1 → post (k1, w1, s1, op, st, en, ch, ar, ak, ad, ac, sa, sk, sd, sc, wk, wd, wc)) : wpY_copy post (k, w, s, op, st, en, ch, ar, ak, ad, ac, sa, sk, sd, sc, wk, wd, wc) (nI a) (nI b) := by
  obtain ⟨n, hn⟩ := H a hP
  exact tm_yCopy ha hb hn fun s1 k1 w1 x y => h s1 k1 w1 (tm_PY_u H x y)
theorem tm_xSt {post : Int32 → SX → Prop} {P : Nat → Prop} {G : Nat → Int32 → Option Int32} {s k w : Nat → Int32} {r : Nat} {key x : Int32} (hr : r < 35) (H : tm_PX P G s k w) (hP : P r)
    (h1 : ∀ s1 k1 w1, tm_PX P (tm_gu G r (tm_set (G r) key x)) s1 k1 w1 → post 1 (s1, k1, w1, op, st, en, ch, ac, ar, ak, ad, sc, sa, sk, sd, wc, wk, wd)) (h0 : tm_Ov (tm_set (G r) key x) → post 0 (s, k, w, op, st, en, ch, ac, ar, ak, ad, sc, sa, sk, sd, wc, wk, wd)) : wpX_setEntry post (s, k, w, op, st, en, ch, ac, ar, ak, ad, sc, sa, sk, sd, wc, wk, wd) (nI r) key x := by
  obtain ⟨n, hn⟩ := H r hP
  exact tm_xSet hr hn (fun s1 k1 w1 n1 x y => h1 s1 k1 w1 (tm_PX_s H x y)) h0
theorem tm_ySt {post : Int32 → SY → Prop} {P : Nat → Prop} {G : Nat → Int32 → Option Int32} {s k w : Nat → Int32} {r : Nat} {key x : Int32} (hr : r < 39) (H : tm_PY P G s k w) (hP : P r)
    (h1 : ∀ s1 k1 w1, tm_PY P (tm_gu G r (tm_set (G r) key x)) s1 k1 w1 → post 1 (k1, w1, s1, op, st, en, ch, ar, ak, ad, ac, sa, sk, sd, sc, wk, wd, wc)) (h0 : tm_Ov (tm_set (G r) key x) → post 0 (k, w, s, op, st, en, ch, ar, ak, ad, ac, sa, sk, sd, sc, wk, wd, wc)) : wpY_set post (k, w, s, op, st, en, ch, ar, ak, ad, ac, sa, sk, sd, sc, wk, wd, wc) (nI r) key x := by
  obtain ⟨n, hn⟩ := H r hP
  exact tm_ySet hr hn (fun s1 k1 w1 n1 x y => h1 s1 k1 w1 (tm_PY_s H x y)) h0
theorem tm_xAj {post : Int32 → SX → Prop} {P : Nat → Prop} {G : Nat → Int32 → Option Int32} {s k w : Nat → Int32} {r : Nat} {key d : Int32} (hr : r < 35) (H : tm_PX P G s k w) (hP : P r)
    (h1 : ∀ s1 k1 w1, tm_PX P (tm_gu G r (tm_ad (G r) key d)) s1 k1 w1 → post 1 (s1, k1, w1, op, st, en, ch, ac, ar, ak, ad, sc, sa, sk, sd, wc, wk, wd)) (h0 : tm_Ov (tm_ad (G r) key d) → post 0 (s, k, w, op, st, en, ch, ac, ar, ak, ad, sc, sa, sk, sd, wc, wk, wd)) : wpX_adjustMap post (s, k, w, op, st, en, ch, ac, ar, ak, ad, sc, sa, sk, sd, wc, wk, wd) (nI r) key d := by
  obtain ⟨n, hn⟩ := H r hP
  exact tm_xAdj hr hn (fun s1 k1 w1 n1 x y => h1 s1 k1 w1 (tm_PX_s H x y)) h0
theorem tm_yAj {post : Int32 → SY → Prop} {P : Nat → Prop} {G : Nat → Int32 → Option Int32} {s k w : Nat → Int32} {r : Nat} {key d : Int32} (hr : r < 39) (H : tm_PY P G s k w) (hP : P r)
    (h1 : ∀ s1 k1 w1, tm_PY P (tm_gu G r (tm_ad (G r) key d)) s1 k1 w1 → post 1 (k1, w1, s1, op, st, en, ch, ar, ak, ad, ac, sa, sk, sd, sc, wk, wd, wc)) (h0 : tm_Ov (tm_ad (G r) key d) → post 0 (k, w, s, op, st, en, ch, ar, ak, ad, ac, sa, sk, sd, sc, wk, wd, wc)) : wpY_adjusted post (k, w, s, op, st, en, ch, ar, ak, ad, ac, sa, sk, sd, sc, wk, wd, wc) (nI r) key d := by
  obtain ⟨n, hn⟩ := H r hP
  exact tm_yAdj hr hn (fun s1 k1 w1 n1 x y => h1 s1 k1 w1 (tm_PY_s H x y)) h0
end
theorem tm_noX {P : Nat → Prop} {G : Nat → Int32 → Option Int32} {s k w : Nat → Int32} {q : Nat} {g : Int32 → Option Int32} (h : tm_PX P G s k w) (hP : P q) (e : G q = g) (ho : tm_Ov g) : False := by
  obtain ⟨n, hn⟩ := h q hP
  exact tm_no (tm_XY hn) (e ▸ ho)
theorem tm_noY {P : Nat → Prop} {G : Nat → Int32 → Option Int32} {s k w : Nat → Int32} {q : Nat} {g : Int32 → Option Int32} (h : tm_PY P G s k w) (hP : P q) (e : G q = g) (ho : tm_Ov g) : False := by
  obtain ⟨n, hn⟩ := h q hP
  exact tm_no hn (e ▸ ho)
/-! the relation -/
def tm_P (op st : Nat → Int32) (q : Nat) : Prop := q < 22 ∨ (22 ≤ q ∧ q < 34 ∧ op ((q - 22) / 4) ≠ 0 ∧ st (q - 22) ≠ 0)
def tm_Q (st ac ar sc sa wc : Nat → Int32) : Prop :=
  (∀ i, i < 12 → st i = 0 ∨ st i = 1 ∨ st i = 2) ∧
  (∀ t, t < 3 → ∃ c, c ≤ 8 ∧ ac t = nI c ∧ ∀ j, j < c → ∃ r, r < 4 ∧ ar (t * 8 + j) = nI r ∧ st (t * 4 + r) = 2) ∧
  (∀ t, t < 3 → ∃ c, c ≤ 6 ∧ sc t = nI c ∧ ∀ j, j < c → ∃ g, g < 2 ∧ sa (t * 6 + j) = nI g) ∧
  (∀ g, g < 2 → ∃ c, c ≤ 8 ∧ wc g = nI c)
def i_Rel (_ : Nat) (u : SX) (v : SY) : Prop := ∃ (s k w s' k' w' op st en ch ac ar ak ad sc sa sk sd wc wk wd : Nat → Int32) (G : Nat → Int32 → Option Int32),
  u = (s, k, w, op, st, en, ch, ac, ar, ak, ad, sc, sa, sk, sd, wc, wk, wd) ∧ v = (k', w', s', op, st, en, ch, ar, ak, ad, ac, sa, sk, sd, sc, wk, wd, wc) ∧ tm_PX (tm_P op st) G s k w ∧ tm_PY (tm_P op st) G s' k' w' ∧ tm_Q st ac ar sc sa wc
theorem i_up {k : Nat} {u : SX} {v : SY} (h : i_Rel k u v) : i_Rel (k + 5) u v := h
theorem i_vc0 (k0 : Int32) : wpX_init (fun u => wpY_init (fun v => i_Rel 1 u v) k0) k0 := by
  have e0 : tm_F 0 (fun _ => (0 : Int32)) (fun _ => 0) (fun _ => none) := ⟨fun i hi => absurd hi (Nat.not_lt_zero i), fun _ _ => rfl⟩
  refine ⟨fun _ => 0, fun _ => 0, fun _ => 0, fun _ => 0, fun _ => 0, fun _ => 0, fun _ => 0, fun _ => 0, fun _ => 0, fun _ => 0, fun _ => 0, fun _ => 0, fun _ => 0, fun _ => 0, fun _ => 0, fun _ => 0, fun _ => 0, fun _ => 0, fun _ => 0, fun _ => 0, fun _ => 0, fun _ _ => none, rfl, rfl, ?_, ?_, ?_⟩
  · intro q _
    exact ⟨0, rfl, by omega, fun i j _ hj => absurd hj (Nat.not_lt_zero j), e0⟩
  · intro q _
    exact ⟨0, rfl, by omega, fun i j hi => absurd hi (Nat.not_lt_zero i), e0⟩
  · exact ⟨fun _ _ => Or.inl rfl, fun _ _ => ⟨0, by omega, rfl, fun j hj => absurd hj (Nat.not_lt_zero j)⟩, fun _ _ => ⟨0, by omega, rfl, fun j hj => absurd hj (Nat.not_lt_zero j)⟩, fun _ _ => ⟨0, by omega, rfl⟩⟩
section
variable {op st en ch ac ar ak ad sc sa sk sd wc wk wd : Nat → Int32}
theorem tm_mk {m : Nat} {s k w s' k' w' : Nat → Int32} {G : Nat → Int32 → Option Int32} (hX : tm_PX (tm_P op st) G s k w) (hY : tm_PY (tm_P op st) G s' k' w') (hQ : tm_Q st ac ar sc sa wc) : i_Rel m (s, k, w, op, st, en, ch, ac, ar, ak, ad, sc, sa, sk, sd, wc, wk, wd) (k', w', s', op, st, en, ch, ar, ak, ad, ac, sa, sk, sd, sc, wk, wd, wc) :=
  ⟨s, k, w, s', k', w', op, st, en, ch, ac, ar, ak, ad, sc, sa, sk, sd, wc, wk, wd, G, rfl, rfl, hX, hY, hQ⟩
/-! guards -/
theorem tm_ix (x : Int32) {n : Nat} (hn : n < 2 ^ 31) : (x < 0 ∨ nI n ≤ x) ∨ ∃ j : Nat, j < n ∧ x = nI j := by
  rcases pk_ix x hn with h | h | h
  · exact Or.inl (Or.inl h)
  · exact Or.inl (Or.inr h)
  · exact Or.inr h
theorem tm_10 : ¬ (1 : Int32) = 0 := by decide
theorem tm_xB0 {post : Int32 → Prop} {x : Int32} {b : Nat} (h : x < 0 ∨ nI b ≤ x) (p : post 0) : wpX_isBelow post x (nI b) := by
  by_cases z : x < 0
  · exact br_t z p
  · exact br_f z (br_t (h.resolve_left z) p)
theorem tm_xB1 {post : Int32 → Prop} {j b : Nat} (h : j < b) (hb : b < 2 ^ 31) (p : post 1) : wpX_isBelow post (nI j) (nI b) := br_f (nI_pos (by omega)) (br_f (nI_ge h hb) p)
theorem tm_xV0 {post : Int32 → Prop} {x : Int32} (h : x < 0 ∨ nI 4 ≤ x) (p : post 0) : wpX_isVariable post x := tm_xB0 (b := 4) (post := fun r => narrow .boolean (.int r) = .int r ∧ post r) h ⟨by decide, p⟩
theorem tm_xV1 {post : Int32 → Prop} {j : Nat} (h : j < 4) (p : post 1) : wpX_isVariable post (nI j) := tm_xB1 (b := 4) (post := fun r => narrow .boolean (.int r) = .int r ∧ post r) h (by omega) ⟨by decide, p⟩
theorem tm_xR0 {post : Int32 → Prop} {x : Int32} (h : x < 0 ∨ nI 4 ≤ x) (p : post 0) : wpX_isRef post x := tm_xB0 (b := 4) (post := fun r => narrow .boolean (.int r) = .int r ∧ post r) h ⟨by decide, p⟩
theorem tm_xR1 {post : Int32 → Prop} {j : Nat} (h : j < 4) (p : post 1) : wpX_isRef post (nI j) := tm_xB1 (b := 4) (post := fun r => narrow .boolean (.int r) = .int r ∧ post r) h (by omega) ⟨by decide, p⟩
theorem tm_xG0 {post : Int32 → Prop} {x : Int32} (h : x < 0 ∨ nI 2 ≤ x) (p : post 0) : wpX_isAgent post x := tm_xB0 (b := 2) (post := fun r => narrow .boolean (.int r) = .int r ∧ post r) h ⟨by decide, p⟩
theorem tm_xG1 {post : Int32 → Prop} {j : Nat} (h : j < 2) (p : post 1) : wpX_isAgent post (nI j) := tm_xB1 (b := 2) (post := fun r => narrow .boolean (.int r) = .int r ∧ post r) h (by omega) ⟨by decide, p⟩
theorem tm_xT0 {post : Int32 → Prop} {x : Int32} (h : x < 0 ∨ nI 3 ≤ x) (p : post 0) : wpX_isTransaction post x := tm_xB0 (b := 3) (post := fun r => narrow .boolean (.int r) = .int r ∧ post r) h ⟨by decide, p⟩
theorem tm_xT1 {post : Int32 → Prop} {j : Nat} (h : j < 3) (p : post 1) : wpX_isTransaction post (nI j) := tm_xB1 (b := 3) (post := fun r => narrow .boolean (.int r) = .int r ∧ post r) h (by omega) ⟨by decide, p⟩
theorem tm_yB0 {post : Int32 → Prop} {s k w : Nat → Int32} {x : Int32} (b : Nat) (h : x < 0 ∨ nI b ≤ x) (p : post 0) : wpY_among post (k, w, s, op, st, en, ch, ar, ak, ad, ac, sa, sk, sd, sc, wk, wd, wc) x (nI b) := by
  by_cases z : x < 0
  · exact br_t z p
  · exact br_f z (br_t (h.resolve_left z) p)
theorem tm_yB1 {post : Int32 → Prop} {s k w : Nat → Int32} {j : Nat} (b : Nat) (h : j < b) (hb : b < 2 ^ 31) (p : post 1) : wpY_among post (k, w, s, op, st, en, ch, ar, ak, ad, ac, sa, sk, sd, sc, wk, wd, wc) (nI j) (nI b) := br_f (nI_pos (by omega)) (br_f (nI_ge h hb) p)
def tm_C (op : Nat → Int32) (x : Int32) : Prop := (x < 0 ∨ nI 3 ≤ x) ∨ ∃ j, j < 3 ∧ x = nI j ∧ op j = 0
theorem tm_cO (op : Nat → Int32) (x : Int32) : tm_C op x ∨ ∃ j, j < 3 ∧ x = nI j ∧ op j ≠ 0 := by
  rcases tm_ix x (n := 3) (by omega) with h | ⟨j, hj, e⟩
  · exact Or.inl (Or.inl h)
  · by_cases z : op j = 0
    · exact Or.inl (Or.inr ⟨j, hj, e, z⟩)
    · exact Or.inr ⟨j, hj, e, z⟩
theorem tm_xO0 {post : Int32 → Prop} {s k w : Nat → Int32} {x : Int32} (h : tm_C op x) (p : post 0) : wpX_isOpen post (s, k, w, op, st, en, ch, ac, ar, ak, ad, sc, sa, sk, sd, wc, wk, wd) x := by
  unfold wpX_isOpen
  rcases h with h | ⟨j, hj, rfl, h⟩
  · exact tm_xT0 h (br_t rfl p)
  · refine tm_xT1 hj (br_f tm_10 ⟨vp_in_nI hj (by omega), br_t ?_ p⟩)
    rw [nI_clamp (by omega)]; exact h
theorem tm_xO1 {post : Int32 → Prop} {s k w : Nat → Int32} {j : Nat} (hj : j < 3) (h : op j ≠ 0) (p : post 1) : wpX_isOpen post (s, k, w, op, st, en, ch, ac, ar, ak, ad, sc, sa, sk, sd, wc, wk, wd) (nI j) := by
  unfold wpX_isOpen
  refine tm_xT1 hj (br_f tm_10 ⟨vp_in_nI hj (by omega), br_f ?_ p⟩)
  rw [nI_clamp (by omega)]; exact h
theorem tm_yO0 {post : Int32 → Prop} {s k w : Nat → Int32} {x : Int32} (h : tm_C op x) (p : post 0) : wpY_isOpen post (k, w, s, op, st, en, ch, ar, ak, ad, ac, sa, sk, sd, sc, wk, wd, wc) x := by
  unfold wpY_isOpen
  rcases h with h | ⟨j, hj, rfl, h⟩
  · by_cases z : x < 0
    · exact br_t z p
    · exact br_f z (br_t (h.resolve_left z) p)
  · refine br_f (nI_pos (by omega)) (br_f (nI_ge (b := 3) hj (by omega)) ⟨vp_in_nI hj (by omega), br_t ?_ p⟩)
    rw [nI_clamp (by omega)]; exact h
theorem tm_yO1 {post : Int32 → Prop} {s k w : Nat → Int32} {j : Nat} (hj : j < 3) (h : op j ≠ 0) (p : post 1) : wpY_isOpen post (k, w, s, op, st, en, ch, ar, ak, ad, ac, sa, sk, sd, sc, wk, wd, wc) (nI j) := by
  unfold wpY_isOpen
  refine br_f (nI_pos (by omega)) (br_f (nI_ge (b := 3) hj (by omega)) ⟨vp_in_nI hj (by omega), br_f ?_ p⟩)
  rw [nI_clamp (by omega)]; exact h
end
end
end
section
section
theorem tm_F_get {n p : Nat} {K V : Nat → Int32} {f : Int32 → Option Int32} {key d : Int32} (h : tm_F n K V f) (hp : p < n) (e : K p = key) : V p = (f key).getD d := by
  rw [← e, h.1 p hp]; rfl
theorem i_vc_put {k : Nat} {u : SX} {v : SY} (I : i_Rel k u v) (hk : k + 5 ≤ 2561) (v1 : Int32) (v2 : Int32) (v3 : Int32) : wpX_put (fun r u' => wpY_put (fun r' v' => r' = r ∧ i_Rel (k + 5) u' v') v v1 v2 v3) u v1 v2 v3 := by
  obtain ⟨s, k, w, s', k', w', op, st, en, ch, ac, ar, ak, ad, sc, sa, sk, sd, wc, wk, wd, G, rfl, rfl, hX, hY, hQ⟩ := I
  unfold wpX_put wpY_put
  rcases tm_ix v1 (n := 4) (by omega) with h | ⟨j, hj, rfl⟩
  · exact tm_xV0 h (br_t rfl (tm_yB0 4 h (br_t rfl ⟨rfl, tm_mk hX hY hQ⟩)))
  · have hP : tm_P op st j := Or.inl (by omega)
    refine tm_xV1 hj (br_f tm_10 ?_)
    refine tm_xSt (by omega) hX hP (fun s1 k1 w1 HX => ?_) (fun ho => ?_)
    · refine br_f tm_10 ⟨vp_in_nI (by omega) (by omega), ?_⟩
      refine tm_yB1 4 hj (by omega) (br_f tm_10 ?_)
      refine tm_ySt (by omega) hY hP (fun s2 k2 w2 HY => ?_) (fun ho => (tm_noX HX hP tm_gu_s ho).elim)
      refine br_f tm_10 ⟨vp_in_nI (by omega) (by omega), ?_, tm_mk HX HY hQ⟩
      rw [nI_clamp (by omega)]
      exact tm_sz HX HY hP hP
    · refine br_t rfl ?_
      refine tm_yB1 4 hj (by omega) (br_f tm_10 ?_)
      exact tm_ySt (by omega) hY hP (fun s2 k2 w2 HY => (tm_noY HY hP tm_gu_s ho).elim) (fun _ => br_t rfl ⟨rfl, tm_mk hX hY hQ⟩)
theorem i_vc_get {k : Nat} {u : SX} {v : SY} (I : i_Rel k u v) (hk : k + 5 ≤ 2561) (v1 : Int32) (v2 : Int32) (v3 : Int32) : wpX_get (fun r => wpY_get (fun r' => r' = r ∧ i_Rel (k + 5) u v) v v1 v2 v3) u v1 v2 v3 := by
  obtain ⟨s, k, w, s', k', w', op, st, en, ch, ac, ar, ak, ad, sc, sa, sk, sd, wc, wk, wd, G, rfl, rfl, hX, hY, hQ⟩ := I
  unfold wpX_get wpY_get
  rcases tm_ix v1 (n := 4) (by omega) with h | ⟨j, hj, rfl⟩
  · exact tm_xV0 h (br_t rfl (tm_yB0 4 h (br_t rfl ⟨rfl, tm_mk hX hY hQ⟩)))
  · have hP : tm_P op st j := Or.inl (by omega)
    obtain ⟨n, HX⟩ := hX j hP
    obtain ⟨m, HY⟩ := hY j hP
    have hm := HY.2.1
    refine tm_xV1 hj (br_f tm_10 ?_)
    refine tm_xVal (by omega) HX ?_
    refine tm_yB1 4 hj (by omega) (br_f tm_10 ?_)
    refine tm_yFind (by omega) HY (fun p hp e => br_t (nI_pos' (by omega)) ⟨vp_in_nI (by omega) (by omega), ?_, tm_mk hX hY hQ⟩) (fun hf hne => br_f (by decide) ⟨?_, tm_mk hX hY hQ⟩)
    · rw [nI_clamp (by omega)]
      exact tm_F_get (K := fun i => k' (j * 10 + i)) (V := fun i => w' (j * 10 + i)) HY.2.2.2 hp e
    · rw [hf]; rfl
theorem i_vc_size {k : Nat} {u : SX} {v : SY} (I : i_Rel k u v) (hk : k + 5 ≤ 2561) (v1 : Int32) : wpX_size (fun r => wpY_size (fun r' => r' = r ∧ i_Rel (k + 5) u v) v v1) u v1 := by
  obtain ⟨s, k, w, s', k', w', op, st, en, ch, ac, ar, ak, ad, sc, sa, sk, sd, wc, wk, wd, G, rfl, rfl, hX, hY, hQ⟩ := I
  unfold wpX_size wpY_size
  rcases tm_ix v1 (n := 4) (by omega) with h | ⟨j, hj, rfl⟩
  · exact tm_xV0 h (br_t rfl (tm_yB0 4 h (br_t rfl ⟨rfl, tm_mk hX hY hQ⟩)))
  · have hP : tm_P op st j := Or.inl (by omega)
    refine tm_xV1 hj (br_f tm_10 ⟨vp_in_nI (by omega) (by omega), ?_⟩)
    refine tm_yB1 4 hj (by omega) (br_f tm_10 ⟨vp_in_nI (by omega) (by omega), ?_, tm_mk hX hY hQ⟩)
    rw [nI_clamp (by omega)]
    exact tm_sz hX hY hP hP
theorem i_vc_keyAt {k : Nat} {u : SX} {v : SY} (I : i_Rel k u v) (hk : k + 5 ≤ 2561) (v1 : Int32) (v2 : Int32) : wpX_keyAt (fun r => wpY_keyAt (fun r' => r' = r ∧ i_Rel (k + 5) u v) v v1 v2) u v1 v2 := by
  obtain ⟨s, ky, w, s', k', w', op, st, en, ch, ac, ar, ak, ad, sc, sa, sk, sd, wc, wk, wd, G, rfl, rfl, hX, hY, hQ⟩ := I
  unfold wpX_keyAt wpY_keyAt
  rcases tm_ix v1 (n := 4) (by omega) with h | ⟨j, hj, rfl⟩
  · exact tm_xV0 h (br_t rfl (tm_yB0 4 h (br_t rfl ⟨rfl, tm_mk hX hY hQ⟩)))
  · have hP : tm_P op st j := Or.inl (by omega)
    obtain ⟨n, HX⟩ := hX j hP
    obtain ⟨m, HY⟩ := hY j hP
    cases tm_nn (tm_XY HX) HY
    have hn := HX.2.1
    have e10 : ∀ p, nI j * 10 + nI p = nI (j * 10 + p) := tm_r10 j
    rcases tm_ix v2 (n := n) (by omega) with z | ⟨p, hp, rfl⟩
    · have hno : ∀ p, p < n → v2 ≠ nI p := by
        intro p hp e
        rcases z with z | z
        · rw [e] at z; exact nI_pos (by omega) z
        · rw [e] at z; exact nI_ge hp (by omega) z
      have hend : ∀ r : Int32, r = 0 → wpY_among (fun r_1 => (r_1 = 0 → (0 : Int32) = r ∧ i_Rel (k + 5) (s, ky, w, op, st, en, ch, ac, ar, ak, ad, sc, sa, sk, sd, wc, wk, wd) (k', w', s', op, st, en, ch, ar, ak, ad, ac, sa, sk, sd, sc, wk, wd, wc)) ∧ (¬ r_1 = 0 → ∀ x3 : Int32, x3 = nI j * 10 → ∃ n16 : Nat, wY_keyAt_16 (fun r' => r' = r ∧ i_Rel (k + 5) (s, ky, w, op, st, en, ch, ac, ar, ak, ad, sc, sa, sk, sd, wc, wk, wd) (k', w', s', op, st, en, ch, ar, ak, ad, ac, sa, sk, sd, sc, wk, wd, wc)) (nI j) v2 k' w' s' op st en ch ar ak ad ac sa sk sd sc wk wd wc n16 x3)) (k', w', s', op, st, en, ch, ar, ak, ad, ac, sa, sk, sd, sc, wk, wd, wc) (nI j) 4 := by
        intro r hr
        refine tm_yB1 4 hj (by omega) (br_f tm_10 (nm_e ?_))
        exact tm_yKey (by omega) HY HX.2.2.1 HX.2.2.2 (fun p hp e => absurd e (hno p hp)) (fun _ => ⟨hr.symm, tm_mk hX hY hQ⟩)
      refine tm_xV1 hj (br_f tm_10 ?_)
      by_cases y : v2 < 0
      · exact br_t y (hend 0 rfl)
      · refine br_f y ⟨vp_in_nI (by omega) (by omega), br_f ?_ (hend 0 rfl)⟩
        rw [nI_clamp (by omega), HX.1]
        exact Int32.not_lt.mpr (z.resolve_left y)
    · refine tm_xV1 hj (br_f tm_10 (br_f (nI_pos (by omega)) ⟨vp_in_nI (by omega) (by omega), br_t ?_ ⟨pk_in (j * 10 + p) 350 (by omega) (e10 p), ?_⟩⟩))
      · rw [nI_clamp (by omega), HX.1]; exact nI_lt hp (by omega)
      · rw [e10, nI_clamp (by omega)]
        refine tm_yB1 4 hj (by omega) (br_f tm_10 (nm_e ?_))
        refine tm_yKey (by omega) HY HX.2.2.1 HX.2.2.2 (fun p' hp' e => ⟨?_, tm_mk hX hY hQ⟩) (fun h => absurd rfl (h p hp))
        rw [nI_eq (by omega) (by omega)] at e
        rw [e]
theorem i_vc_same {k : Nat} {u : SX} {v : SY} (I : i_Rel k u v) (hk : k + 5 ≤ 2561) (v1 : Int32) (v2 : Int32) : wpX_same (fun r => wpY_same (fun r' => r' = r ∧ i_Rel (k + 5) u v) v v1 v2) u v1 v2 := by
  obtain ⟨s, k, w, s', k', w', op, st, en, ch, ac, ar, ak, ad, sc, sa, sk, sd, wc, wk, wd, G, rfl, rfl, hX, hY, hQ⟩ := I
  unfold wpX_same wpY_same
  rcases tm_ix v1 (n := 4) (by omega) with h | ⟨a, ha, rfl⟩
  · exact tm_xV0 h (br_t rfl (tm_yB0 4 h (br_t rfl ⟨rfl, tm_mk hX hY hQ⟩)))
  · refine tm_xV1 ha (br_f tm_10 ?_)
    rcases tm_ix v2 (n := 4) (by omega) with h | ⟨b, hb, rfl⟩
    · exact tm_xV0 h (br_t rfl (tm_yB1 4 ha (by omega) (br_f tm_10 (tm_yB0 4 h (br_t rfl ⟨rfl, tm_mk hX hY hQ⟩)))))
    · have hPa : tm_P op st a := Or.inl (by omega)
      have hPb : tm_P op st b := Or.inl (by omega)
      obtain ⟨n, HX⟩ := hX a hPa
      obtain ⟨m, HY⟩ := hY a hPa
      cases tm_nn (tm_XY HX) HY
      obtain ⟨n2, HX2⟩ := hX b hPb
      obtain ⟨m2, HY2⟩ := hY b hPb
      cases tm_nn (tm_XY HX2) HY2
      have hn := HX.2.1
      have hn2 := HX2.2.1
      refine tm_xV1 hb (br_f tm_10 ?_)
      refine tm_xEq (by omega) (by omega) HX HX2 (fun e => br_f tm_10 ?_) (fun e => br_t rfl ?_)
      · refine tm_yB1 4 ha (by omega) (br_f tm_10 (tm_yB1 4 hb (by omega) (br_f tm_10 ⟨vp_in_nI (by omega) (by omega), vp_in_nI (by omega) (by omega), ?_⟩)))
        rw [nI_clamp (by omega), nI_clamp (by omega), HY.1, HY2.1]
        refine pk_eq n n2 (fun e2 => nm_e ?_) (fun e2 => absurd (tm_nn (tm_XY HX) (e ▸ tm_XY HX2)) e2)
        subst e2
        exact tm_ySame (by omega) (by omega) HY HY2 (fun _ => ⟨rfl, tm_mk hX hY hQ⟩) (fun z => absurd e z)
      · refine tm_yB1 4 ha (by omega) (br_f tm_10 (tm_yB1 4 hb (by omega) (br_f tm_10 ⟨vp_in_nI (by omega) (by omega), vp_in_nI (by omega) (by omega), ?_⟩)))
        rw [nI_clamp (by omega), nI_clamp (by omega), HY.1, HY2.1]
        refine pk_eq n n2 (fun e2 => nm_e ?_) (fun e2 => ⟨rfl, tm_mk hX hY hQ⟩)
        subst e2
        exact tm_ySame (by omega) (by omega) HY HY2 (fun z => absurd z e) (fun _ => ⟨rfl, tm_mk hX hY hQ⟩)
theorem i_vc_remove {k : Nat} {u : SX} {v : SY} (I : i_Rel k u v) (hk : k + 5 ≤ 2561) (v1 : Int32) (v2 : Int32) : wpX_remove (fun r u' => wpY_remove (fun r' v' => r' = r ∧ i_Rel (k + 5) u' v') v v1 v2) u v1 v2 := by
  obtain ⟨s, k, w, s', k', w', op, st, en, ch, ac, ar, ak, ad, sc, sa, sk, sd, wc, wk, wd, G, rfl, rfl, hX, hY, hQ⟩ := I
  unfold wpX_remove wpY_remove
  rcases tm_ix v1 (n := 4) (by omega) with h | ⟨j, hj, rfl⟩
  · exact tm_xV0 h (br_t rfl (tm_yB0 4 h (br_t rfl ⟨rfl, tm_mk hX hY hQ⟩)))
  · have hP : tm_P op st j := Or.inl (by omega)
    obtain ⟨n, HX⟩ := hX j hP
    obtain ⟨m, HY⟩ := hY j hP
    cases tm_nn (tm_XY HX) HY
    have hn := HX.2.1
    refine tm_xV1 hj (br_f tm_10 ?_)
    refine tm_xLook (by omega) HX (fun p hp e => br_f tm_10 ?_) (fun p hp hl hg => br_t rfl ?_)
    · refine tm_xDrop (by omega) HX hp e (fun s1 k1 w1 n1 fr H1 => ?_)
      have h1 := tm_PX_s hX fr H1
      refine tm_yB1 4 hj (by omega) (br_f tm_10 ?_)
      refine tm_yFind (by omega) HY (fun q hq e' => br_t (nI_pos' (by omega)) ?_) (fun hf hne => absurd hf (e ▸ tm_F_none HX.2.2.2 hp))
      obtain ⟨m, rfl⟩ : ∃ m, n = m + 1 := ⟨n - 1, by omega⟩
      have i0 : vp_in (nI j) 39 := vp_in_nI (by omega) (by omega)
      have i1 : vp_in (nI (j * 10 + m)) 390 := vp_in_nI (by omega) (by omega)
      have i2 : vp_in (nI (j * 10 + q)) 390 := vp_in_nI (by omega) (by omega)
      refine ⟨i0, nm_r (e' := nI (j * 10 + m)) (by rw [nI_clamp (by omega), HY.1, tm_r10, ← Nat.add_assoc, nI_pred]) ⟨i1, i2, nm_r (e' := upd k' (j * 10 + q) (k' (j * 10 + m))) (by rw [nI_clamp (by omega), nI_clamp (by omega)])
        ⟨i1, i2, nm_r (e' := upd w' (j * 10 + q) (w' (j * 10 + m))) (by rw [nI_clamp (by omega), nI_clamp (by omega)]) ⟨i0, i0, nm_r (e' := upd s' j (nI m)) (by rw [nI_clamp (by omega), HY.1, nI_pred]) ⟨rfl, ?_⟩⟩⟩⟩⟩
      have fr' : tm_fr j s' k' w' (upd s' j (nI m)) (upd k' (j * 10 + q) (k' (j * 10 + m))) (upd w' (j * 10 + q) (w' (j * 10 + m))) :=
        fun x hx => ⟨pk_un hx, fun i hi => ⟨pk_un (by omega), pk_un (by omega)⟩⟩
      have Z := tm_swp (K' := fun i => upd k' (j * 10 + q) (k' (j * 10 + m)) (j * 10 + i)) (V' := fun i => upd w' (j * 10 + q) (w' (j * 10 + m)) (j * 10 + i)) HY.2.2.1 HY.2.2.2 hq e'
        (fun i hi hne => ⟨pk_un (by omega), pk_un (by omega)⟩) ⟨pk_us, pk_us⟩
      exact tm_mk h1 (tm_PY_s hY fr' ⟨pk_us, by omega, Z.1, Z.2⟩) hQ
    · refine tm_yB1 4 hj (by omega) (br_f tm_10 ?_)
      have hno : G j v2 = none := by
        refine HX.2.2.2.2 v2 fun i hi e => ?_
        by_cases a : i < p
        · exact Int32.ne_of_lt (hl i a) e
        · exact Int32.ne_of_lt (hg i (by omega) hi) e.symm
      exact tm_yFind (by omega) HY (fun q hq e' => absurd hno (e' ▸ tm_F_none HY.2.2.2 hq)) (fun hf hne => br_f (by decide) ⟨rfl, tm_mk hX hY hQ⟩)
end
end
section
section
theorem tm_r4 (t r : Nat) : nI t * 4 + nI r = nI (t * 4 + r) := by rw [show (4 : Int32) = nI 4 from rfl, pk_mul, nI_add]
theorem tm_r8 (t r : Nat) : nI t * 8 + nI r = nI (t * 8 + r) := by rw [show (8 : Int32) = nI 8 from rfl, pk_mul, nI_add]
theorem tm_r6 (t r : Nat) : nI t * 6 + nI r = nI (t * 6 + r) := by rw [show (6 : Int32) = nI 6 from rfl, pk_mul, nI_add]
theorem tm_a4 (r : Nat) : 4 + nI r = nI (4 + r) := nI_add 4 r
theorem tm_a8 (r : Nat) : 8 + nI r = nI (8 + r) := nI_add 8 r
theorem tm_a10 (r : Nat) : 10 + nI r = nI (10 + r) := nI_add 10 r
theorem tm_a22 (r : Nat) : 22 + nI r = nI (22 + r) := nI_add 22 r
theorem tm_b10 (t r : Nat) : 10 + nI t * 4 + nI r = nI (10 + (t * 4 + r)) := by rw [show (4 : Int32) = nI 4 from rfl, pk_mul, tm_a10, nI_add, Nat.add_assoc]
theorem tm_b22 (t r : Nat) : 22 + nI t * 4 + nI r = nI (22 + (t * 4 + r)) := by rw [show (4 : Int32) = nI 4 from rfl, pk_mul, tm_a22, nI_add, Nat.add_assoc]
def tm_sn (st : Nat → Int32) (i : Nat) : Nat := if st i = 0 then 10 + i else 22 + i
theorem tm_sn_lt {st : Nat → Int32} {i : Nat} (h : i < 12) : tm_sn st i < 34 := by unfold tm_sn; split <;> omega
theorem tm_P_sn {op st : Nat → Int32} {t r : Nat} (ht : t < 3) (hr : r < 4) (ho : op t ≠ 0) : tm_P op st (tm_sn st (t * 4 + r)) := by
  unfold tm_sn
  split
  · exact Or.inl (by omega)
  · rename_i z
    refine Or.inr ⟨by omega, by omega, ?_, ?_⟩
    · rw [show (22 + (t * 4 + r) - 22) / 4 = t by omega]; exact ho
    · rw [show 22 + (t * 4 + r) - 22 = t * 4 + r by omega]; exact z
theorem tm_P_own {op st : Nat → Int32} {t r : Nat} (ht : t < 3) (hr : r < 4) (ho : op t ≠ 0) (hs : st (t * 4 + r) ≠ 0) : tm_P op st (22 + (t * 4 + r)) := by
  refine Or.inr ⟨by omega, by omega, ?_, ?_⟩
  · rw [show (22 + (t * 4 + r) - 22) / 4 = t by omega]; exact ho
  · rw [show 22 + (t * 4 + r) - 22 = t * 4 + r by omega]; exact hs
theorem tm_P_34 {op st : Nat → Int32} : ¬ tm_P op st 34 := by
  intro h
  rcases h with h | h <;> omega
section
variable {op st en ch ac ar ak ad sc sa sk sd wc wk wd : Nat → Int32}
theorem tm_xSeen {post : Int32 → Prop} {s k w : Nat → Int32} {t r : Nat} (ht : t < 3) (hr : r < 4) (h : post (nI (tm_sn st (t * 4 + r)))) : wpX_seenMap post (s, k, w, op, st, en, ch, ac, ar, ak, ad, sc, sa, sk, sd, wc, wk, wd) (nI t) (nI r) := by
  refine nm_r (tm_r4 t r) ⟨vp_in_nI (by omega) (by omega), br_c (fun z => ?_) (fun z => ?_)⟩
  · rw [nI_clamp (by omega)] at z
    rw [tm_sn, if_pos z] at h
    rw [tm_a10]; exact h
  · rw [nI_clamp (by omega)] at z
    rw [tm_sn, if_neg z] at h
    rw [tm_a22]; exact h
theorem tm_ySeen {post : Int32 → Prop} {s k w : Nat → Int32} {t r : Nat} (ht : t < 3) (hr : r < 4) (h : post (nI (tm_sn st (t * 4 + r)))) : wpY_seen post (k, w, s, op, st, en, ch, ar, ak, ad, ac, sa, sk, sd, sc, wk, wd, wc) (nI t) (nI r) := by
  refine ⟨pk_in (t * 4 + r) 12 (by omega) (tm_r4 t r), br_c (fun z => ?_) (fun z => ?_)⟩
  · rw [tm_r4, nI_clamp (by omega)] at z
    rw [tm_sn, if_pos z] at h
    rw [tm_b10]; exact h
  · rw [tm_r4, nI_clamp (by omega)] at z
    rw [tm_sn, if_neg z] at h
    rw [tm_b22]; exact h
theorem tm_xJoin {post : SX → Prop} {s k w : Nat → Int32} {g c : Nat} {key d : Int32} (hg : g < 2) (hc : c < 8) (e : wc g = nI c)
    (h : post (s, k, w, op, st, en, ch, ac, ar, ak, ad, sc, sa, sk, sd, upd wc g (nI (c + 1)), upd wk (g * 8 + c) key, upd wd (g * 8 + c) d)) : wpX_joinQueue post (s, k, w, op, st, en, ch, ac, ar, ak, ad, sc, sa, sk, sd, wc, wk, wd) (nI g) key d := by
  have i0 : vp_in (nI g) 2 := vp_in_nI hg (by omega)
  have i1 : vp_in (nI (g * 8 + c)) 16 := vp_in_nI (by omega) (by omega)
  exact ⟨i0, nm_r (e' := nI (g * 8 + c)) (by rw [nI_clamp (by omega), e, tm_r8]) ⟨i1, nm_r (e' := upd wk (g * 8 + c) key) (by rw [nI_clamp (by omega)]) ⟨i1, nm_r (e' := upd wd (g * 8 + c) d) (by rw [nI_clamp (by omega)])
    ⟨i0, i0, nm_r (e' := upd wc g (nI (c + 1))) (by rw [nI_clamp (by omega), e, nI_1]) h⟩⟩⟩⟩
theorem tm_yEnq {post : Int32 → SY → Prop} {s k w : Nat → Int32} {g c : Nat} {key d : Int32} (hg : g < 2) (hc : c < 8) (e : wc g = nI c)
    (h : post (nI (c + 1)) (k, w, s, op, st, en, ch, ar, ak, ad, ac, sa, sk, sd, sc, upd wk (g * 8 + c) key, upd wd (g * 8 + c) d, upd wc g (nI (c + 1)))) : wpY_enqueue post (k, w, s, op, st, en, ch, ar, ak, ad, ac, sa, sk, sd, sc, wk, wd, wc) (nI g) key d := by
  have i0 : vp_in (nI g) 2 := vp_in_nI hg (by omega)
  have e1 : nI g * 8 + wc (nI g).toNatClampNeg = nI (g * 8 + c) := by rw [nI_clamp (by omega), e, tm_r8]
  have i1 : vp_in (nI g * 8 + wc (nI g).toNatClampNeg) 16 := pk_in (g * 8 + c) 16 (by omega) e1
  refine ⟨i0, i1, nm_r (e' := upd wk (g * 8 + c) key) (by rw [e1, nI_clamp (by omega)]) ⟨i0, i1, nm_r (e' := upd wd (g * 8 + c) d) (by rw [e1, nI_clamp (by omega)])
    ⟨i0, i0, nm_r (e' := upd wc g (nI (c + 1))) (by rw [nI_clamp (by omega), e, nI_1]) ⟨i0, ?_⟩⟩⟩⟩
  rw [nI_clamp (by omega), pk_us]
  exact h
end
theorem tm_wc {wc : Nat → Int32} {g c : Nat} (h : ∀ g, g < 2 → ∃ c, c ≤ 8 ∧ wc g = nI c) (hc : c ≤ 8) : ∀ q, q < 2 → ∃ d, d ≤ 8 ∧ upd wc g (nI c) q = nI d := by
  intro q hq
  by_cases z : q = g
  · subst z; exact ⟨c, hc, pk_us⟩
  · rw [pk_un z]; exact h q hq
theorem i_vc_waiting {k : Nat} {u : SX} {v : SY} (I : i_Rel k u v) (hk : k + 5 ≤ 2561) (v1 : Int32) : wpX_waiting (fun r => wpY_waiting (fun r' => r' = r ∧ i_Rel (k + 5) u v) v v1) u v1 := by
  obtain ⟨s, k, w, s', k', w', op, st, en, ch, ac, ar, ak, ad, sc, sa, sk, sd, wc, wk, wd, G, rfl, rfl, hX, hY, hQ⟩ := I
  unfold wpX_waiting wpY_waiting
  rcases tm_ix v1 (n := 2) (by omega) with h | ⟨j, hj, rfl⟩
  · exact tm_xG0 h (br_t rfl (tm_yB0 2 h (br_t rfl ⟨rfl, tm_mk hX hY hQ⟩)))
  · exact tm_xG1 hj (br_f tm_10 ⟨vp_in_nI (by omega) (by omega), tm_yB1 2 hj (by omega) (br_f tm_10 ⟨vp_in_nI (by omega) (by omega), rfl, tm_mk hX hY hQ⟩)⟩)
theorem i_vc_ensure {k : Nat} {u : SX} {v : SY} (I : i_Rel k u v) (hk : k + 5 ≤ 2561) (v1 : Int32) (v2 : Int32) : wpX_ensure (fun r u' => wpY_ensure (fun r' v' => r' = r ∧ i_Rel (k + 5) u' v') v v1 v2) u v1 v2 := by
  obtain ⟨s, k, w, s', k', w', op, st, en, ch, ac, ar, ak, ad, sc, sa, sk, sd, wc, wk, wd, G, rfl, rfl, hX, hY, hQ⟩ := I
  unfold wpX_ensure wpY_ensure
  rcases tm_cO op v1 with h | ⟨t, ht, rfl, ho⟩
  · exact tm_xO0 h (br_t rfl (tm_yO0 h (br_t rfl ⟨rfl, tm_mk hX hY hQ⟩)))
  · refine tm_xO1 ht ho (br_f tm_10 ?_)
    rcases tm_ix v2 (n := 4) (by omega) with h | ⟨r, hr, rfl⟩
    · exact tm_xR0 h (br_t rfl (tm_yO1 ht ho (br_f tm_10 (tm_yB0 4 h (br_t rfl ⟨rfl, tm_mk hX hY hQ⟩)))))
    · have i1 : vp_in (nI t * 4 + nI r) 12 := pk_in (t * 4 + r) 12 (by omega) (tm_r4 t r)
      refine tm_xR1 hr (br_f tm_10 ⟨i1, nm_e ?_⟩)
      exact tm_yO1 ht ho (br_f tm_10 (tm_yB1 4 hr (by omega) (br_f tm_10 ⟨i1, nm_e ⟨rfl, tm_mk hX hY hQ⟩⟩)))
theorem i_vc_load {k : Nat} {u : SX} {v : SY} (I : i_Rel k u v) (hk : k + 5 ≤ 2561) (v1 : Int32) (v2 : Int32) (v3 : Int32) : wpX_load (fun r u' => wpY_load (fun r' v' => r' = r ∧ i_Rel (k + 5) u' v') v v1 v2 v3) u v1 v2 v3 := by
  obtain ⟨s, k, w, s', k', w', op, st, en, ch, ac, ar, ak, ad, sc, sa, sk, sd, wc, wk, wd, G, rfl, rfl, hX, hY, hQ⟩ := I
  unfold wpX_load wpY_load
  rcases tm_ix v3 (n := 4) (by omega) with h | ⟨j, hj, rfl⟩
  · exact tm_xV0 h (br_t rfl (tm_yB0 4 h (br_t rfl ⟨rfl, tm_mk hX hY hQ⟩)))
  · refine tm_xV1 hj (br_f tm_10 ?_)
    have hPj : tm_P op st j := Or.inl (by omega)
    have i1 : vp_in (nI j) 35 := vp_in_nI (by omega) (by omega)
    have i2 : vp_in (nI j) 39 := vp_in_nI (by omega) (by omega)
    by_cases z : v1 = -1
    · refine br_t z ?_
      rcases tm_ix v2 (n := 6) (by omega) with h | ⟨r, hr, rfl⟩
      · refine tm_xB0 (b := 6) h (br_t rfl (tm_yB1 4 hj (by omega) (br_f tm_10 ?_)))
        refine br_c (fun y => br_t z (br_f ?_ ⟨rfl, tm_mk hX hY hQ⟩)) (fun y => ⟨rfl, tm_mk hX hY hQ⟩)
        have h6 := h.resolve_left (Int32.not_lt.mpr y)
        intro h5
        have := Int32.le_trans h6 h5
        exact absurd this (by decide)
      · refine tm_xB1 (b := 6) hr (by omega) (br_f tm_10 ?_)
        have hPr : tm_P op st (4 + r) := Or.inl (by omega)
        rw [tm_a4]
        refine tm_xCp (by omega) (by omega) hX hPr (fun s1 k1 w1 HX => ⟨i1, ?_⟩)
        refine tm_yB1 4 hj (by omega) (br_f tm_10 (br_t (nI_pos' (by omega)) (br_t z (br_t (nI_le (b := 5) (by omega) (by omega)) ?_))))
        refine tm_yCp (by omega) (by omega) hY hPr (fun s2 k2 w2 HY => ⟨i2, ?_, ?_⟩)
        · rw [nI_clamp (by omega)]; exact tm_sz HX HY (Or.inl hPj) (Or.inl hPj)
        · exact tm_mk (tm_PX_of HX fun q hq => ⟨Or.inl hq, rfl⟩) (tm_PY_of HY fun q hq => ⟨Or.inl hq, rfl⟩) hQ
    · refine br_f z ?_
      rcases tm_cO op v1 with h | ⟨t, ht, rfl, ho⟩
      · refine tm_xO0 h (br_t rfl (tm_yB1 4 hj (by omega) (br_f tm_10 ?_)))
        exact br_c (fun y => br_f z (tm_yO0 h (br_t rfl ⟨rfl, tm_mk hX hY hQ⟩))) (fun y => ⟨rfl, tm_mk hX hY hQ⟩)
      · refine tm_xO1 ht ho (br_f tm_10 ?_)
        rcases tm_ix v2 (n := 4) (by omega) with h | ⟨r, hr, rfl⟩
        · refine tm_xR0 h (br_t rfl (tm_yB1 4 hj (by omega) (br_f tm_10 ?_)))
          refine br_c (fun y => br_f z (tm_yO1 ht ho (br_f tm_10 (br_f ?_ ⟨rfl, tm_mk hX hY hQ⟩)))) (fun y => ⟨rfl, tm_mk hX hY hQ⟩)
          have h6 := h.resolve_left (Int32.not_lt.mpr y)
          intro h5
          have := Int32.le_trans h6 h5
          exact absurd this (by decide)
        · have hPr := tm_P_sn (st := st) ht hr ho
          have hlt := tm_sn_lt (st := st) (i := t * 4 + r) (by omega)
          refine tm_xR1 hr (br_f tm_10 (tm_xSeen ht hr ?_))
          refine tm_xCp (by omega) (by omega) hX hPr (fun s1 k1 w1 HX => ⟨i1, ?_⟩)
          refine tm_yB1 4 hj (by omega) (br_f tm_10 (br_t (nI_pos' (by omega)) (br_f z (tm_yO1 ht ho (br_f tm_10 (br_t (nI_le (b := 3) (by omega) (by omega)) (tm_ySeen ht hr ?_)))))))
          refine tm_yCp (by omega) (by omega) hY hPr (fun s2 k2 w2 HY => ⟨i2, ?_, ?_⟩)
          · rw [nI_clamp (by omega)]; exact tm_sz HX HY (Or.inl hPj) (Or.inl hPj)
          · exact tm_mk (tm_PX_of HX fun q hq => ⟨Or.inl hq, rfl⟩) (tm_PY_of HY fun q hq => ⟨Or.inl hq, rfl⟩) hQ
theorem tm_P_up {op st : Nat → Int32} {i q : Nat} {x : Int32} (h : tm_P op (upd st i x) q) : tm_P op st q ∨ q = 22 + i := by
  rcases h with h | ⟨h1, h2, h3, h4⟩
  · exact Or.inl (Or.inl h)
  · by_cases z : q = 22 + i
    · exact Or.inr z
    · rw [pk_un (by omega)] at h4
      exact Or.inl (Or.inr ⟨h1, h2, h3, h4⟩)
theorem i_vc_store {k : Nat} {u : SX} {v : SY} (I : i_Rel k u v) (hk : k + 5 ≤ 2561) (v1 : Int32) (v2 : Int32) (v3 : Int32) : wpX_store (fun r u' => wpY_store (fun r' v' => r' = r ∧ i_Rel (k + 5) u' v') v v1 v2 v3) u v1 v2 v3 := by
  obtain ⟨s, k, w, s', k', w', op, st, en, ch, ac, ar, ak, ad, sc, sa, sk, sd, wc, wk, wd, G, rfl, rfl, hX, hY, hQ⟩ := I
  unfold wpX_store wpY_store
  rcases tm_cO op v1 with h | ⟨t, ht, rfl, ho⟩
  · exact tm_xO0 h (br_t rfl (tm_yO0 h (br_t rfl ⟨rfl, tm_mk hX hY hQ⟩)))
  · refine tm_xO1 ht ho (br_f tm_10 ?_)
    rcases tm_ix v2 (n := 4) (by omega) with h | ⟨r, hr, rfl⟩
    · exact tm_xR0 h (br_t rfl (tm_yO1 ht ho (br_f tm_10 (tm_yB0 4 h (br_t rfl ⟨rfl, tm_mk hX hY hQ⟩)))))
    · refine tm_xR1 hr (br_f tm_10 ?_)
      rcases tm_ix v3 (n := 4) (by omega) with h | ⟨j, hj, rfl⟩
      · exact tm_xV0 h (br_t rfl (tm_yO1 ht ho (br_f tm_10 (tm_yB1 4 hr (by omega) (br_f tm_10 (tm_yB0 4 h (br_t rfl ⟨rfl, tm_mk hX hY hQ⟩)))))))
      · have hPj : tm_P op st j := Or.inl (by omega)
        have i1 : vp_in (nI j) 35 := vp_in_nI (by omega) (by omega)
        have i2 : vp_in (nI j) 39 := vp_in_nI (by omega) (by omega)
        have i3 : vp_in (nI (t * 4 + r)) 12 := vp_in_nI (by omega) (by omega)
        have i4 : vp_in (nI t * 4 + nI r) 12 := pk_in (t * 4 + r) 12 (by omega) (tm_r4 t r)
        have e4 : (nI t * 4 + nI r).toNatClampNeg = t * 4 + r := by rw [tm_r4, nI_clamp (by omega)]
        refine tm_xV1 hj (br_f tm_10 (nm_r (tm_r4 t r) ⟨i3, br_c (fun y => ?_) (fun y => ⟨i3, nm_r (e' := upd st (t * 4 + r) 1) (by rw [nI_clamp (by omega)]) ?_⟩)⟩))
        · rw [nI_clamp (by omega)] at y
          refine tm_yO1 ht ho (br_f tm_10 (tm_yB1 4 hr (by omega) (br_f tm_10 (tm_yB1 4 hj (by omega) (br_f tm_10 ⟨i4, br_t ?_ ⟨rfl, tm_mk hX hY hQ⟩⟩)))))
          rw [e4]; exact y
        · rw [nI_clamp (by omega)] at y
          rw [tm_a22]
          refine tm_xCp (by omega) (by omega) hX hPj (fun s1 k1 w1 HX => ⟨i1, ?_⟩)
          refine tm_yO1 ht ho (br_f tm_10 (tm_yB1 4 hr (by omega) (br_f tm_10 (tm_yB1 4 hj (by omega) (br_f tm_10 ⟨i4, br_f (by rw [e4]; exact y) ⟨i4, nm_r (e' := upd st (t * 4 + r) 1) (by rw [e4]) ?_⟩⟩)))))
          rw [tm_b22]
          refine tm_yCp (by omega) (by omega) hY hPj (fun s2 k2 w2 HY => ⟨i2, ?_, ?_⟩)
          · rw [nI_clamp (by omega)]; exact tm_sz HX HY (Or.inl hPj) (Or.inl hPj)
          · refine tm_mk (tm_PX_of HX fun q hq => ⟨tm_P_up hq, rfl⟩) (tm_PY_of HY fun q hq => ⟨tm_P_up hq, rfl⟩) ⟨?_, ?_, hQ.2.2⟩
            · intro i hi
              by_cases x : i = t * 4 + r
              · subst x; exact Or.inr (Or.inl pk_us)
              · rw [pk_un x]; exact hQ.1 i hi
            · intro t' ht'
              obtain ⟨c, hc, e, hh⟩ := hQ.2.1 t' ht'
              refine ⟨c, hc, e, fun x hx => ?_⟩
              obtain ⟨r', a, b, c2⟩ := hh x hx
              have hne : t' * 4 + r' ≠ t * 4 + r := fun x => y (by rw [← x]; exact c2)
              exact ⟨r', a, b, by rw [pk_un hne]; exact c2⟩
theorem i_vc_send {k : Nat} {u : SX} {v : SY} (I : i_Rel k u v) (hk : k + 5 ≤ 2561) (v1 : Int32) (v2 : Int32) (v3 : Int32) (v4 : Int32) : wpX_send (fun r u' => wpY_send (fun r' v' => r' = r ∧ i_Rel (k + 5) u' v') v v1 v2 v3 v4) u v1 v2 v3 v4 := by
  obtain ⟨s, k, w, s', k', w', op, st, en, ch, ac, ar, ak, ad, sc, sa, sk, sd, wc, wk, wd, G, rfl, rfl, hX, hY, hQ⟩ := I
  unfold wpX_send wpY_send
  rcases tm_ix v2 (n := 2) (by omega) with h | ⟨g, hg, rfl⟩
  · exact tm_xG0 h (br_t rfl (tm_yB0 2 h (br_t rfl ⟨rfl, tm_mk hX hY hQ⟩)))
  · refine tm_xG1 hg (br_f tm_10 ?_)
    by_cases z : v1 = -1
    · refine br_t z ?_
      obtain ⟨c, hc, e⟩ := hQ.2.2.2 g hg
      have i0 : vp_in (nI g) 2 := vp_in_nI hg (by omega)
      have ew : wc (nI g).toNatClampNeg = nI c := by rw [nI_clamp (by omega), e]
      by_cases y : c = 8
      · subst y
        refine ⟨i0, br_f (by rw [ew]; decide) ?_⟩
        exact tm_yB1 2 hg (by omega) (br_f tm_10 (br_t z (br_t z ⟨i0, br_t ew ⟨rfl, tm_mk hX hY hQ⟩⟩)))
      · refine ⟨i0, br_t (by rw [ew]; exact nI_lt (b := 8) (by omega) (by omega)) ?_⟩
        refine tm_xJoin hg (by omega) e ⟨i0, ?_⟩
        refine tm_yB1 2 hg (by omega) (br_f tm_10 (br_t z (br_t z ⟨i0, br_f ?_ ?_⟩)))
        · rw [ew]; exact fun q => y ((nI_eq (b := 8) (by omega) (by omega)).mp q)
        · refine tm_yEnq hg (by omega) e ⟨?_, tm_mk hX hY ⟨hQ.1, hQ.2.1, hQ.2.2.1, tm_wc hQ.2.2.2 (by omega)⟩⟩
          rw [nI_clamp (by omega), pk_us]
    · refine br_f z ?_
      rcases tm_cO op v1 with h | ⟨t, ht, rfl, ho⟩
      · exact tm_xO0 h (br_t rfl (tm_yB1 2 hg (by omega) (br_f tm_10 (br_f z (tm_yO0 h (br_t rfl ⟨rfl, tm_mk hX hY hQ⟩))))))
      · refine tm_xO1 ht ho (br_f tm_10 ?_)
        obtain ⟨c, hc, e, hh⟩ := hQ.2.2.1 t ht
        have i0 : vp_in (nI t) 3 := vp_in_nI ht (by omega)
        have ew : sc (nI t).toNatClampNeg = nI c := by rw [nI_clamp (by omega), e]
        by_cases y : c = 6
        · subst y
          refine ⟨i0, nm_r (e' := nI 6) ew (br_f (by decide) ?_)⟩
          exact tm_yB1 2 hg (by omega) (br_f tm_10 (br_f z (tm_yO1 ht ho (br_f tm_10 (br_f z ⟨i0, br_t ew ⟨rfl, tm_mk hX hY hQ⟩⟩)))))
        · have i1 : vp_in (nI (t * 6 + c)) 18 := vp_in_nI (by omega) (by omega)
          have ec : (nI (t * 6 + c)).toNatClampNeg = t * 6 + c := nI_clamp (by omega)
          refine ⟨i0, nm_r (e' := nI c) ew (br_t (nI_lt (b := 6) (by omega) (by omega)) (nm_r (e' := nI (t * 6 + c)) (tm_r6 t c) ⟨i1, nm_r (e' := upd sa (t * 6 + c) (nI g)) (by rw [ec]) ⟨i1, nm_r (e' := upd sk (t * 6 + c) v3) (by rw [ec])
            ⟨i1, nm_r (e' := upd sd (t * 6 + c) v4) (by rw [ec]) ⟨i0, i0, nm_r (e' := upd sc t (nI (c + 1))) (by rw [ew, nI_1, nI_clamp (by omega)]) ⟨i0, ?_⟩⟩⟩⟩⟩))⟩
          refine tm_yB1 2 hg (by omega) (br_f tm_10 (br_f z (tm_yO1 ht ho (br_f tm_10 (br_f z ⟨i0, br_f ?_ ⟨i0, ?_⟩⟩)))))
          · rw [ew]; exact fun q => y ((nI_eq (b := 6) (by omega) (by omega)).mp q)
          · refine nm_r (e' := nI (t * 6 + c)) (by rw [ew, tm_r6]) ⟨i1, nm_r (e' := upd sa (t * 6 + c) (nI g)) (by rw [ec]) ⟨i1, nm_r (e' := upd sk (t * 6 + c) v3) (by rw [ec])
              ⟨i1, nm_r (e' := upd sd (t * 6 + c) v4) (by rw [ec]) ⟨i0, i0, nm_r (e' := upd sc t (nI (c + 1))) (by rw [ew, nI_1, nI_clamp (by omega)]) ⟨i0, rfl, tm_mk hX hY ⟨hQ.1, hQ.2.1, ?_, hQ.2.2.2⟩⟩⟩⟩⟩⟩
            intro t' ht'
            by_cases x : t' = t
            · subst x
              refine ⟨c + 1, by omega, pk_us, fun j hj => ?_⟩
              by_cases x : j = c
              · subst x; exact ⟨g, hg, pk_us⟩
              · rw [pk_un (by omega)]; exact hh j (by omega)
            · obtain ⟨c', hc', e', hh'⟩ := hQ.2.2.1 t' ht'
              refine ⟨c', hc', by rw [pk_un x]; exact e', fun j hj => ?_⟩
              rw [pk_un (by omega)]; exact hh' j hj
end
end
section
section
section
variable {op st en ch ac ar ak ad sc sa sk sd wc wk wd : Nat → Int32}
theorem tm_xOld {post : SX → Prop} {s k w : Nat → Int32} {g m : Nat} (hg : g < 2) (hm : m < 8) (e : wc g = nI (m + 1))
    (h : post (s, k, w, op, st, en, ch, ac, ar, ak, ad, sc, sa, sk, sd, upd wc g (nI m), tm_dn wk (g * 8) (g * 8 + m), tm_dn wd (g * 8) (g * 8 + m))) : wpX_dropOldestAction post (s, k, w, op, st, en, ch, ac, ar, ak, ad, sc, sa, sk, sd, wc, wk, wd) (nI g) := by
  have i0 : vp_in (nI g) 2 := vp_in_nI hg (by omega)
  have loop : ∀ q c, g * 8 ≤ c → c ≤ g * 8 + m → g * 8 + m - c < q → wX_dropOldestAction_19 post (nI g) (nI (g * 8 + m)) q (nI c) s k w op st en ch ac ar ak ad sc sa sk sd wc (tm_dn wk (g * 8) c) (tm_dn wd (g * 8) c) := by
    intro q
    induction q with
    | zero => intro c _ _ hm; omega
    | succ q ih =>
      intro c h1 h2 hm
      refine pk_le (g * 8 + m) c (fun hle => ?_) (fun hgt => ?_)
      · have : c = g * 8 + m := by omega
        subst this
        exact ⟨i0, i0, nm_r (by rw [nI_clamp (by omega), e, nI_pred]) h⟩
      · have i1 : vp_in (nI c + 1) 16 := pk_in (c + 1) 16 (by omega) (nI_1 c)
        have i2 : vp_in (nI c) 16 := vp_in_nI (by omega) (by omega)
        refine ⟨i1, i2, nm_r (e' := tm_dn wk (g * 8) (c + 1)) ?_ ⟨i1, i2, nm_r (e' := tm_dn wd (g * 8) (c + 1)) ?_ (nm_r (nI_1 c) (ih (c + 1) (by omega) (by omega) (by omega)))⟩⟩
        · rw [nI_1, nI_clamp (by omega), nI_clamp (by omega)]; exact tm_dn_1 wk h1
        · rw [nI_1, nI_clamp (by omega), nI_clamp (by omega)]; exact tm_dn_1 wd h1
  refine nm_r (e' := nI (g * 8)) (pk_mul g 8) ⟨i0, nm_r (e' := nI (g * 8 + m)) (by rw [nI_clamp (by omega), e, nI_add, ← Nat.add_assoc, nI_pred]) ⟨m + 1, ?_⟩⟩
  have := loop (m + 1) (g * 8) (by omega) (by omega) (by omega)
  rw [tm_dn_0, tm_dn_0] at this
  exact this
theorem tm_yOld {post : Int32 → SY → Prop} {s k w : Nat → Int32} {g m : Nat} {key d : Int32} (hg : g < 2) (hm : m < 8) (e : wc g = nI m)
    (h : wpY_adjusted (fun r u => match u with | (b, c, a, d1, d2, d3, d4, d6, d7, d8, d5, d10, d11, d12, d9, d14, d15, d13) => (r = 0 → post (-2) (b, c, a, d1, d2, d3, d4, d6, d7, d8, d5, d10, d11, d12, d9, d14, d15, d13)) ∧ (¬ r = 0 → post 1 (b, c, a, d1, d2, d3, d4, d6, d7, d8, d5, d10, d11, d12, d9, d14, d15, d13)))
      (k, w, s, op, st, en, ch, ar, ak, ad, ac, sa, sk, sd, sc, tm_dn wk (g * 8) (g * 8 + m), tm_dn wd (g * 8) (g * 8 + m), wc) (8 + nI g) key d) : ∃ n, wY_act_58 post (nI g) key d n (nI (g * 8)) k w s op st en ch ar ak ad ac sa sk sd sc wk wd wc := by
  have i0 : vp_in (nI g) 2 := vp_in_nI hg (by omega)
  have loop : ∀ q c, g * 8 ≤ c → c ≤ g * 8 + m → g * 8 + m - c < q → wY_act_58 post (nI g) key d q (nI c) k w s op st en ch ar ak ad ac sa sk sd sc (tm_dn wk (g * 8) c) (tm_dn wd (g * 8) c) wc := by
    intro q
    induction q with
    | zero => intro c _ _ hm; omega
    | succ q ih =>
      intro c h1 h2 hm
      refine ⟨i0, pk_le (g * 8 + m) c (fun hle => ?_) (fun hgt => ?_) (by rw [nI_clamp (by omega), e, tm_r8])⟩
      · have : c = g * 8 + m := by omega
        subst this
        exact h
      · have i1 : vp_in (nI c + 1) 16 := pk_in (c + 1) 16 (by omega) (nI_1 c)
        have i2 : vp_in (nI c) 16 := vp_in_nI (by omega) (by omega)
        refine ⟨i1, i2, nm_r (e' := tm_dn wk (g * 8) (c + 1)) ?_ ⟨i1, i2, nm_r (e' := tm_dn wd (g * 8) (c + 1)) ?_ (nm_r (nI_1 c) (ih (c + 1) (by omega) (by omega) (by omega)))⟩⟩
        · rw [nI_1, nI_clamp (by omega), nI_clamp (by omega)]; exact tm_dn_1 wk h1
        · rw [nI_1, nI_clamp (by omega), nI_clamp (by omega)]; exact tm_dn_1 wd h1
  refine ⟨m + 1, ?_⟩
  have := loop (m + 1) (g * 8) (by omega) (by omega) (by omega)
  rw [tm_dn_0, tm_dn_0] at this
  exact this
end
theorem i_vc_act {k : Nat} {u : SX} {v : SY} (I : i_Rel k u v) (hk : k + 5 ≤ 2561) (v1 : Int32) : wpX_act (fun r u' => wpY_act (fun r' v' => r' = r ∧ i_Rel (k + 5) u' v') v v1) u v1 := by
  obtain ⟨s, k, w, s', k', w', op, st, en, ch, ac, ar, ak, ad, sc, sa, sk, sd, wc, wk, wd, G, rfl, rfl, hX, hY, hQ⟩ := I
  unfold wpX_act
  rcases tm_ix v1 (n := 2) (by omega) with h | ⟨g, hg, rfl⟩
  · exact tm_xG0 h (br_t rfl (by unfold wpY_act; exact tm_yB0 2 h (br_t rfl ⟨rfl, tm_mk hX hY hQ⟩)))
  · obtain ⟨c, hc, e⟩ := hQ.2.2.2 g hg
    have i0 : vp_in (nI g) 2 := vp_in_nI hg (by omega)
    have ew : wc (nI g).toNatClampNeg = nI c := by rw [nI_clamp (by omega), e]
    refine tm_xG1 hg (br_f tm_10 ?_)
    cases c with
    | zero => exact ⟨i0, br_t ew (by unfold wpY_act; exact tm_yB1 2 hg (by omega) (br_f tm_10 ⟨i0, br_t ew ⟨rfl, tm_mk hX hY hQ⟩⟩))⟩
    | succ m =>
      have hne : ¬ wc (nI g).toNatClampNeg = 0 := by rw [ew]; exact nI_ne0 (by omega) (by omega)
      have i1 : vp_in (nI (g * 8)) 16 := vp_in_nI (by omega) (by omega)
      have i2 : vp_in (nI g * 8) 16 := pk_in (g * 8) 16 (by omega) (pk_mul g 8)
      have ec : (nI (g * 8)).toNatClampNeg = g * 8 := nI_clamp (by omega)
      have ec2 : (nI g * 8).toNatClampNeg = g * 8 := by rw [show nI g * 8 = nI (g * 8) from pk_mul g 8, ec]
      have hPg : tm_P op st (8 + g) := Or.inl (by omega)
      have hQ' : tm_Q st ac ar sc sa (upd wc g (nI m)) := ⟨hQ.1, hQ.2.1, hQ.2.2.1, tm_wc hQ.2.2.2 (by omega)⟩
      refine ⟨i0, br_f hne (nm_r (e' := nI (g * 8)) (pk_mul g 8) ⟨i1, nm_r (e' := wk (g * 8)) (by rw [ec]) ⟨i1, nm_r (e' := wd (g * 8)) (by rw [ec]) ?_⟩⟩)⟩
      refine tm_xOld hg (by omega) e ?_
      have yy : ∀ post : Int32 → SY → Prop, wpY_adjusted (fun r u => match u with | (b, c, a, d1, d2, d3, d4, d6, d7, d8, d5, d10, d11, d12, d9, d14, d15, d13) => (r = 0 → post (-2) (b, c, a, d1, d2, d3, d4, d6, d7, d8, d5, d10, d11, d12, d9, d14, d15, d13)) ∧ (¬ r = 0 → post 1 (b, c, a, d1, d2, d3, d4, d6, d7, d8, d5, d10, d11, d12, d9, d14, d15, d13)))
        (k', w', s', op, st, en, ch, ar, ak, ad, ac, sa, sk, sd, sc, tm_dn wk (g * 8) (g * 8 + m), tm_dn wd (g * 8) (g * 8 + m), upd wc g (nI m)) (8 + nI g) (wk (g * 8)) (wd (g * 8)) → wpY_act post (k', w', s', op, st, en, ch, ar, ak, ad, ac, sa, sk, sd, sc, wk, wd, wc) (nI g) := by
        intro post h
        unfold wpY_act
        refine tm_yB1 2 hg (by omega) (br_f tm_10 ⟨i0, br_f hne ⟨i2, nm_r (e' := wk (g * 8)) (by rw [ec2]) ⟨i2, nm_r (e' := wd (g * 8)) (by rw [ec2]) ⟨i0, i0, nm_r (e' := upd wc g (nI m)) (by rw [ew, nI_clamp (by omega), nI_pred]) (nm_r (e' := nI (g * 8)) (pk_mul g 8) ?_)⟩⟩⟩⟩)
        exact tm_yOld hg (by omega) pk_us h
      rw [tm_a8] at yy ⊢
      refine tm_xAj (by omega) hX hPg (fun s1 k1 w1 HX => br_f tm_10 (yy _ ?_)) (fun hov => br_t rfl (yy _ ?_))
      · exact tm_yAj (by omega) hY hPg (fun s2 k2 w2 HY => br_f tm_10 ⟨rfl, tm_mk HX HY hQ'⟩) (fun hov => (tm_noX HX hPg tm_gu_s hov).elim)
      · exact tm_yAj (by omega) hY hPg (fun s2 k2 w2 HY => (tm_noY HY hPg tm_gu_s hov).elim) (fun _ => br_t rfl ⟨rfl, tm_mk hX hY hQ'⟩)
/-! begin -/
def tm_zr (t : Nat) (a : Nat → Int32) (z : Int32) : Nat → Nat → Int32
  | 0 => a
  | c + 1 => upd (tm_zr t a z c) (t * 4 + c) z
def tm_gB (t : Nat) (G : Nat → Int32 → Option Int32) : Nat → Nat → Int32 → Option Int32
  | 0 => G
  | c + 1 => tm_gu (tm_gB t G c) (10 + (t * 4 + c)) (tm_gB t G c (4 + c))
theorem tm_zr_s {t : Nat} {a : Nat → Int32} {z : Int32} : ∀ {c i : Nat}, i < c → tm_zr t a z c (t * 4 + i) = z := by
  intro c
  induction c with
  | zero => intro i hi; omega
  | succ c ih =>
    intro i hi
    by_cases y : i = c
    · subst y; exact pk_us
    · exact (pk_un (by omega)).trans (ih (by omega))
theorem tm_zr_n {t : Nat} {a : Nat → Int32} {z : Int32} : ∀ {c j : Nat}, (j < t * 4 ∨ t * 4 + c ≤ j) → tm_zr t a z c j = a j := by
  intro c
  induction c with
  | zero => intro j _; rfl
  | succ c ih =>
    intro j hj
    exact (pk_un (by omega)).trans (ih (by omega))
section
variable {op st en ch ac ar ak ad sc sa sk sd wc wk wd : Nat → Int32}
theorem tm_xBeg {post : Int32 → SX → Prop} {P : Nat → Prop} {G : Nat → Int32 → Option Int32} {s k w : Nat → Int32} {t : Nat} (ht : t < 3) (hP : ∀ q, q < 22 → P q) (H : tm_PX P G s k w)
    (h : ∀ s1 k1 w1, tm_PX P (tm_gB t G 4) s1 k1 w1 → post 1 (s1, k1, w1, op, tm_zr t st 0 4, tm_zr t en (vp_nar .boolean 0) 4, tm_zr t ch (vp_nar .boolean 0) 4, ac, ar, ak, ad, sc, sa, sk, sd, wc, wk, wd)) :
    ∃ n, wX_begin_41 post (nI t) n 0 s k w op st en ch ac ar ak ad sc sa sk sd wc wk wd := by
  have loop : ∀ q c s k w, c ≤ 4 → 4 - c < q → tm_PX P (tm_gB t G c) s k w → wX_begin_41 post (nI t) q (nI c) s k w op (tm_zr t st 0 c) (tm_zr t en (vp_nar .boolean 0) c) (tm_zr t ch (vp_nar .boolean 0) c) ac ar ak ad sc sa sk sd wc wk wd := by
    intro q
    induction q with
    | zero => intro c s k w _ hm; omega
    | succ q ih =>
      intro c s k w h2 hm HX
      refine pk_le 4 c (fun hle => ?_) (fun hgt => ?_)
      · have : c = 4 := by omega
        subst this
        exact h s k w HX
      · have i1 : vp_in (nI (t * 4 + c)) 12 := vp_in_nI (by omega) (by omega)
        have ec : (nI (t * 4 + c)).toNatClampNeg = t * 4 + c := nI_clamp (by omega)
        refine nm_r (e' := nI (t * 4 + c)) (tm_r4 t c) ⟨i1, nm_r (e' := tm_zr t st 0 (c + 1)) (by rw [ec]; rfl) ⟨i1, nm_r (e' := tm_zr t en (vp_nar .boolean 0) (c + 1)) (by rw [ec]; rfl) ⟨i1, nm_r (e' := tm_zr t ch (vp_nar .boolean 0) (c + 1)) (by rw [ec]; rfl) ?_⟩⟩⟩
        rw [tm_a4, tm_a10]
        refine tm_xCp (by omega) (by omega) HX (hP _ (by omega)) (fun s1 k1 w1 HX1 => nm_r (nI_1 c) (ih (c + 1) s1 k1 w1 (by omega) (by omega) ?_))
        exact tm_PX_of HX1 fun q hq => ⟨Or.inl hq, rfl⟩
  exact ⟨5, loop 5 0 s k w (by omega) (by omega) H⟩
theorem tm_yBeg {post : Int32 → SY → Prop} {P : Nat → Prop} {G : Nat → Int32 → Option Int32} {s k w : Nat → Int32} {t : Nat} (ht : t < 3) (hP : ∀ q, q < 22 → P q) (H : tm_PY P G s k w)
    (h : ∀ s1 k1 w1, tm_PY P (tm_gB t G 4) s1 k1 w1 → post 1 (k1, w1, s1, op, tm_zr t st 0 4, tm_zr t en (vp_nar .boolean 0) 4, tm_zr t ch (vp_nar .boolean 0) 4, ar, ak, ad, upd ac t 0, sa, sk, sd, upd sc t 0, wk, wd, wc)) :
    ∃ n, wY_begin_29 post (nI t) n 0 k w s op st en ch ar ak ad ac sa sk sd sc wk wd wc := by
  have loop : ∀ q c s k w, c ≤ 4 → 4 - c < q → tm_PY P (tm_gB t G c) s k w → wY_begin_29 post (nI t) q (nI c) k w s op (tm_zr t st 0 c) (tm_zr t en (vp_nar .boolean 0) c) (tm_zr t ch (vp_nar .boolean 0) c) ar ak ad ac sa sk sd sc wk wd wc := by
    intro q
    induction q with
    | zero => intro c s k w _ hm; omega
    | succ q ih =>
      intro c s k w h2 hm HX
      refine pk_le 4 c (fun hle => ?_) (fun hgt => ?_)
      · have : c = 4 := by omega
        subst this
        have i0 : vp_in (nI t) 3 := vp_in_nI ht (by omega)
        exact ⟨i0, nm_r (by rw [nI_clamp (by omega)]) ⟨i0, nm_r (by rw [nI_clamp (by omega)]) (h s k w HX)⟩⟩
      · have i1 : vp_in (nI t * 4 + nI c) 12 := pk_in (t * 4 + c) 12 (by omega) (tm_r4 t c)
        have ec : (nI t * 4 + nI c).toNatClampNeg = t * 4 + c := by rw [tm_r4, nI_clamp (by omega)]
        rw [tm_a4, tm_b10]
        refine tm_yCp (by omega) (by omega) HX (hP _ (by omega)) (fun s1 k1 w1 HX1 => ?_)
        refine ⟨i1, nm_r (e' := tm_zr t st 0 (c + 1)) (by rw [ec]; rfl) ⟨i1, nm_r (e' := tm_zr t en (vp_nar .boolean 0) (c + 1)) (by rw [ec]; rfl) ⟨i1, nm_r (e' := tm_zr t ch (vp_nar .boolean 0) (c + 1)) (by rw [ec]; rfl) ?_⟩⟩⟩
        exact nm_r (nI_1 c) (ih (c + 1) s1 k1 w1 (by omega) (by omega) (tm_PY_of HX1 fun q hq => ⟨Or.inl hq, rfl⟩))
  exact ⟨5, loop 5 0 s k w (by omega) (by omega) H⟩
end
theorem i_vc_begin {k : Nat} {u : SX} {v : SY} (I : i_Rel k u v) (hk : k + 5 ≤ 2561) (v1 : Int32) : wpX_begin (fun r u' => wpY_begin (fun r' v' => r' = r ∧ i_Rel (k + 5) u' v') v v1) u v1 := by
  obtain ⟨s, k, w, s', k', w', op, st, en, ch, ac, ar, ak, ad, sc, sa, sk, sd, wc, wk, wd, G, rfl, rfl, hX, hY, hQ⟩ := I
  unfold wpX_begin wpY_begin
  rcases tm_ix v1 (n := 3) (by omega) with h | ⟨t, ht, rfl⟩
  · exact tm_xT0 h (br_t rfl (tm_yB0 3 h (br_t rfl ⟨rfl, tm_mk hX hY hQ⟩)))
  · have i0 : vp_in (nI t) 3 := vp_in_nI ht (by omega)
    have ec : (nI t).toNatClampNeg = t := nI_clamp (by omega)
    refine tm_xT1 ht (br_f tm_10 ?_)
    by_cases z : op t = 0
    · have z' : op (nI t).toNatClampNeg = 0 := by rw [ec]; exact z
      have hPq : ∀ q, q < 22 → tm_P op st q := fun q hq => Or.inl hq
      refine ⟨i0, br_t z' ⟨i0, nm_r (e' := upd op t (vp_nar .boolean 1)) (by rw [ec]) ⟨i0, nm_r (e' := upd ac t 0) (by rw [ec]) ⟨i0, nm_r (e' := upd sc t 0) (by rw [ec]) ?_⟩⟩⟩⟩
      refine tm_xBeg ht hPq hX (fun s1 k1 w1 HX => ?_)
      refine tm_yB1 3 ht (by omega) (br_f tm_10 ⟨i0, br_t z' ⟨i0, nm_r (e' := upd op t (vp_nar .boolean 1)) (by rw [ec]) ?_⟩⟩)
      refine tm_yBeg ht hPq hY (fun s2 k2 w2 HY => ⟨rfl, ?_⟩)
      have hP : ∀ q, tm_P (upd op t (vp_nar .boolean 1)) (tm_zr t st 0 4) q → tm_P op st q := by
        intro q hq
        rcases hq with h | ⟨h1, h2, h3, h4⟩
        · exact Or.inl h
        · have hne : (q - 22) / 4 ≠ t := by
            intro y
            apply h4
            have : q - 22 = t * 4 + (q - 22 - t * 4) := by omega
            rw [this]
            exact tm_zr_s (by omega)
          rw [pk_un hne] at h3
          rw [tm_zr_n (by omega)] at h4
          exact Or.inr ⟨h1, h2, h3, h4⟩
      refine tm_mk (tm_PX_of HX fun q hq => ⟨hP q hq, rfl⟩) (tm_PY_of HY fun q hq => ⟨hP q hq, rfl⟩) ⟨?_, ?_, ?_, hQ.2.2.2⟩
      · intro i hi
        by_cases y : i < t * 4 ∨ t * 4 + 4 ≤ i
        · rw [tm_zr_n y]; exact hQ.1 i hi
        · left
          have : i = t * 4 + (i - t * 4) := by omega
          rw [this]
          exact tm_zr_s (by omega)
      · intro t' ht'
        by_cases y : t' = t
        · subst y; exact ⟨0, by omega, pk_us, fun j hj => absurd hj (Nat.not_lt_zero j)⟩
        · obtain ⟨c, hc, e, hh⟩ := hQ.2.1 t' ht'
          refine ⟨c, hc, by rw [pk_un y]; exact e, fun j hj => ?_⟩
          obtain ⟨r, a, b, d⟩ := hh j hj
          exact ⟨r, a, b, by rw [tm_zr_n (by omega)]; exact d⟩
      · intro t' ht'
        by_cases y : t' = t
        · subst y; exact ⟨0, by omega, pk_us, fun j hj => absurd hj (Nat.not_lt_zero j)⟩
        · obtain ⟨c, hc, e, hh⟩ := hQ.2.2.1 t' ht'
          exact ⟨c, hc, by rw [pk_un y]; exact e, hh⟩
    · have z' : ¬ op (nI t).toNatClampNeg = 0 := by rw [ec]; exact z
      exact ⟨i0, br_f z' (tm_yB1 3 ht (by omega) (br_f tm_10 ⟨i0, br_f z' ⟨rfl, tm_mk hX hY hQ⟩⟩))⟩
theorem i_vc_adjust {k : Nat} {u : SX} {v : SY} (I : i_Rel k u v) (hk : k + 5 ≤ 2561) (v1 : Int32) (v2 : Int32) (v3 : Int32) (v4 : Int32) : wpX_adjust (fun r u' => wpY_adjust (fun r' v' => r' = r ∧ i_Rel (k + 5) u' v') v v1 v2 v3 v4) u v1 v2 v3 v4 := by
  obtain ⟨s, k, w, s', k', w', op, st, en, ch, ac, ar, ak, ad, sc, sa, sk, sd, wc, wk, wd, G, rfl, rfl, hX, hY, hQ⟩ := I
  unfold wpX_adjust
  rcases tm_cO op v1 with h | ⟨t, ht, rfl, ho⟩
  · exact tm_xO0 h (br_t rfl (by unfold wpY_adjust; exact tm_yO0 h (br_t rfl ⟨rfl, tm_mk hX hY hQ⟩)))
  · refine tm_xO1 ht ho (br_f tm_10 ?_)
    rcases tm_ix v2 (n := 4) (by omega) with h | ⟨r, hr, rfl⟩
    · exact tm_xR0 h (br_t rfl (by unfold wpY_adjust; exact tm_yO1 ht ho (br_f tm_10 (tm_yB0 4 h (br_t rfl ⟨rfl, tm_mk hX hY hQ⟩)))))
    · have i3 : vp_in (nI (t * 4 + r)) 12 := vp_in_nI (by omega) (by omega)
      have i4 : vp_in (nI t * 4 + nI r) 12 := pk_in (t * 4 + r) 12 (by omega) (tm_r4 t r)
      have e3 : (nI (t * 4 + r)).toNatClampNeg = t * 4 + r := nI_clamp (by omega)
      have e4 : (nI t * 4 + nI r).toNatClampNeg = t * 4 + r := by rw [tm_r4, e3]
      have i5 : vp_in (nI (22 + (t * 4 + r))) 35 := vp_in_nI (by omega) (by omega)
      have i6 : vp_in (nI (22 + (t * 4 + r))) 39 := vp_in_nI (by omega) (by omega)
      have i0 : vp_in (nI t) 3 := vp_in_nI ht (by omega)
      refine tm_xR1 hr (br_f tm_10 (nm_r (tm_r4 t r) (nm_r (tm_a22 (t * 4 + r)) ⟨i3, ?_⟩)))
      rw [e3]
      by_cases y : st (t * 4 + r) = 1
      · have hP : tm_P op st (22 + (t * 4 + r)) := tm_P_own ht hr ho (by rw [y]; decide)
        refine br_t y ?_
        refine tm_xAj (by omega) hX hP (fun s1 k1 w1 HX => br_f tm_10 ⟨i5, ?_⟩) (fun hov => br_t rfl ?_)
        · unfold wpY_adjust
          refine tm_yO1 ht ho (br_f tm_10 (tm_yB1 4 hr (by omega) (br_f tm_10 (nm_r (tm_b22 t r) ⟨i4, br_t (by rw [e4]; exact y) ?_⟩))))
          refine tm_yAj (by omega) hY hP (fun s2 k2 w2 HY => br_f tm_10 ⟨i6, ?_, tm_mk HX HY hQ⟩) (fun hov => (tm_noX HX hP tm_gu_s hov).elim)
          rw [nI_clamp (by omega)]
          exact tm_sz HX HY hP hP
        · unfold wpY_adjust
          refine tm_yO1 ht ho (br_f tm_10 (tm_yB1 4 hr (by omega) (br_f tm_10 (nm_r (tm_b22 t r) ⟨i4, br_t (by rw [e4]; exact y) ?_⟩))))
          exact tm_yAj (by omega) hY hP (fun s2 k2 w2 HY => (tm_noY HY hP tm_gu_s hov).elim) (fun _ => br_t rfl ⟨rfl, tm_mk hX hY hQ⟩)
      · refine br_f y ?_
        obtain ⟨c, hc, e, hh⟩ := hQ.2.1 t ht
        have ew : ac (nI t).toNatClampNeg = nI c := by rw [nI_clamp (by omega), e]
        have hst : st (t * 4 + r) = 0 ∨ st (t * 4 + r) = 2 := by
          rcases hQ.1 (t * 4 + r) (by omega) with x | x | x
          · exact Or.inl x
          · exact absurd x y
          · exact Or.inr x
        unfold wpX_commute
        by_cases z : c = 8
        · subst z
          refine ⟨i0, nm_r (e' := nI 8) ew (br_f (by decide) (br_t rfl ?_))⟩
          unfold wpY_adjust
          exact tm_yO1 ht ho (br_f tm_10 (tm_yB1 4 hr (by omega) (br_f tm_10 (nm_r (tm_b22 t r) ⟨i4, br_f (by rw [e4]; exact y) ⟨i0, br_t ew ⟨rfl, tm_mk hX hY hQ⟩⟩⟩))))
        · have hPr := tm_P_sn (st := st) ht hr ho
          have hlt := tm_sn_lt (st := st) (i := t * 4 + r) (by omega)
          have hne : ¬ ac (nI t).toNatClampNeg = 8 := by rw [ew]; exact fun q => z ((nI_eq (b := 8) (by omega) (by omega)).mp q)
          have i7 : vp_in (nI (t * 8 + c)) 24 := vp_in_nI (by omega) (by omega)
          have e7 : (nI (t * 8 + c)).toNatClampNeg = t * 8 + c := nI_clamp (by omega)
          refine ⟨i0, nm_r (e' := nI c) ew (br_t (nI_lt (b := 8) (by omega) (by omega)) (nm_r (tm_r4 t r) (nm_r (tm_a22 (t * 4 + r)) (tm_xSeen ht hr ?_))))⟩
          refine tm_xCp (by omega) (by omega) hX hPr (fun s1 k1 w1 HX => ?_)
          have yy : ∀ post : Int32 → SY → Prop,
              (∀ s2 k2 w2, tm_PY (fun q => (tm_P op st q ∨ q = 34) ∨ q = 22 + (t * 4 + r)) (tm_gu (tm_gu G 34 (tm_ad (G (tm_sn st (t * 4 + r))) v3 v4)) (22 + (t * 4 + r)) (tm_ad (G (tm_sn st (t * 4 + r))) v3 v4)) s2 k2 w2 →
                post (s2 (22 + (t * 4 + r))) (k2, w2, s2, op, upd st (t * 4 + r) 2, en, ch, upd ar (t * 8 + c) (nI r), upd ak (t * 8 + c) v3, upd ad (t * 8 + c) v4, upd ac t (nI (c + 1)), sa, sk, sd, sc, wk, wd, wc)) →
              (∀ s2 k2 w2, tm_Ov (tm_ad (G (tm_sn st (t * 4 + r))) v3 v4) → tm_PY (fun q => tm_P op st q ∨ q = 34) (tm_gu G 34 (G (tm_sn st (t * 4 + r)))) s2 k2 w2 → post (-2) (k2, w2, s2, op, st, en, ch, ar, ak, ad, ac, sa, sk, sd, sc, wk, wd, wc)) →
              wpY_adjust post (k', w', s', op, st, en, ch, ar, ak, ad, ac, sa, sk, sd, sc, wk, wd, wc) (nI t) (nI r) v3 v4 := by
            intro post h1 h0
            unfold wpY_adjust
            refine tm_yO1 ht ho (br_f tm_10 (tm_yB1 4 hr (by omega) (br_f tm_10 (nm_r (tm_b22 t r) ⟨i4, br_f (by rw [e4]; exact y) ⟨i0, br_f hne (tm_ySeen ht hr ?_)⟩⟩))))
            refine tm_yCp (b := 34) (by omega) (by omega) hY hPr (fun s2 k2 w2 HY => ?_)
            refine tm_yAj (r := 34) (by omega) HY (Or.inr rfl) (fun s3 k3 w3 HY3 => br_f tm_10 ?_) (fun hov => br_t rfl ?_)
            · refine tm_yCp (a := 34) (by omega) (by omega) HY3 (Or.inr rfl) (fun s4 k4 w4 HY4 => ?_)
              refine ⟨i4, nm_r (e' := upd st (t * 4 + r) 2) (by rw [e4]) ⟨i0, nm_r (e' := nI (t * 8 + c)) (by rw [ew, tm_r8]) ⟨i7, nm_r (e' := upd ar (t * 8 + c) (nI r)) (by rw [e7]) ⟨i7, nm_r (e' := upd ak (t * 8 + c) v3) (by rw [e7]) ⟨i7, nm_r (e' := upd ad (t * 8 + c) v4) (by rw [e7])
                ⟨i0, i0, nm_r (e' := upd ac t (nI (c + 1))) (by rw [ew, nI_1, nI_clamp (by omega)]) ⟨i6, ?_⟩⟩⟩⟩⟩⟩⟩
              rw [nI_clamp (show 22 + (t * 4 + r) < 2 ^ 31 by omega)]
              refine h1 s4 k4 w4 (tm_PY_of HY4 fun q hq => ⟨hq, ?_⟩)
              unfold tm_gu
              by_cases x : q = 22 + (t * 4 + r)
              · rw [if_pos x, if_pos x, if_pos rfl, if_pos rfl]
              · rw [if_neg x, if_neg x]
                by_cases x2 : q = 34
                · rw [if_pos x2, if_pos x2, if_pos rfl]
                · rw [if_neg x2, if_neg x2, if_neg x2]
            · rw [tm_gu_s] at hov
              exact h0 s2 k2 w2 hov HY
          refine tm_xAj (by omega) HX (Or.inr rfl) (fun s3 k3 w3 HX3 => br_f tm_10 ?_) (fun hov => br_t rfl (br_t rfl ?_))
          · refine ⟨i3, nm_r (e' := upd st (t * 4 + r) 2) (by rw [e3]) (nm_r (e' := nI (t * 8 + c)) (tm_r8 t c) ⟨i7, nm_r (e' := upd ar (t * 8 + c) (nI r)) (by rw [e7]) ⟨i7, nm_r (e' := upd ak (t * 8 + c) v3) (by rw [e7]) ⟨i7, nm_r (e' := upd ad (t * 8 + c) v4) (by rw [e7])
              ⟨i0, i0, nm_r (e' := upd ac t (nI (c + 1))) (by rw [ew, nI_1, nI_clamp (by omega)]) (br_f tm_10 ⟨i5, ?_⟩)⟩⟩⟩⟩)⟩
            refine yy _ (fun s2 k2 w2 HY => ⟨?_, ?_⟩) (fun s2 k2 w2 hov _ => ?_)
            · rw [nI_clamp (by omega)]
              have a1 := HX3 (22 + (t * 4 + r)) (Or.inr rfl)
              have a2 := HY (22 + (t * 4 + r)) (Or.inr rfl)
              rw [tm_gu_s, tm_gu_s] at a1
              rw [tm_gu_s] at a2
              obtain ⟨n1, b1⟩ := a1
              obtain ⟨n2, b2⟩ := a2
              rw [b1.1, b2.1, tm_nn (tm_XY b1) b2]
            · refine tm_mk (G := tm_gu G (22 + (t * 4 + r)) (tm_ad (G (tm_sn st (t * 4 + r))) v3 v4)) (tm_PX_of HX3 fun q hq => ⟨tm_P_up hq, ?_⟩) (tm_PY_of HY fun q hq => ⟨(tm_P_up hq).elim (fun x => Or.inl (Or.inl x)) Or.inr, ?_⟩) ⟨?_, ?_, hQ.2.2⟩
              · unfold tm_gu
                by_cases x : q = 22 + (t * 4 + r)
                · rw [if_pos x, if_pos x, if_pos rfl]
                · rw [if_neg x, if_neg x, if_neg x]
              · have x2 : q ≠ 34 := fun x => tm_P_34 (x ▸ hq)
                unfold tm_gu
                by_cases x : q = 22 + (t * 4 + r)
                · rw [if_pos x, if_pos x]
                · rw [if_neg x, if_neg x, if_neg x2]
              · intro i hi
                by_cases x : i = t * 4 + r
                · subst x; exact Or.inr (Or.inr pk_us)
                · rw [pk_un x]; exact hQ.1 i hi
              · intro t' ht'
                have up2 : ∀ i, st i = 2 → upd st (t * 4 + r) 2 i = 2 := by
                  intro i hi
                  by_cases x : i = t * 4 + r
                  · subst x; exact pk_us
                  · rw [pk_un x]; exact hi
                by_cases x : t' = t
                · subst x
                  refine ⟨c + 1, by omega, pk_us, fun j hj => ?_⟩
                  by_cases x : j = c
                  · subst x; exact ⟨r, hr, pk_us, pk_us⟩
                  · obtain ⟨r', a, b, d⟩ := hh j (by omega)
                    exact ⟨r', a, by rw [pk_un (by omega)]; exact b, up2 _ d⟩
                · obtain ⟨c', hc', e', hh'⟩ := hQ.2.1 t' ht'
                  refine ⟨c', hc', by rw [pk_un x]; exact e', fun j hj => ?_⟩
                  obtain ⟨r', a, b, d⟩ := hh' j hj
                  exact ⟨r', a, by rw [pk_un (by omega)]; exact b, up2 _ d⟩
            · have := tm_noX HX3 (q := 22 + (t * 4 + r)) (Or.inr rfl) tm_gu_s (by rw [tm_gu_s]; exact hov)
              exact this.elim
          · rw [tm_gu_s] at hov
            refine yy _ (fun s2 k2 w2 HY => ?_) (fun s2 k2 w2 _ HY => ⟨rfl, ?_⟩)
            · exact (tm_noY HY (q := 22 + (t * 4 + r)) (Or.inr rfl) tm_gu_s hov).elim
            · refine tm_mk (G := G) (tm_PX_of HX fun q hq => ⟨Or.inl hq, ?_⟩) (tm_PY_of HY fun q hq => ⟨Or.inl hq, ?_⟩) hQ
              · by_cases x : q = 22 + (t * 4 + r)
                · subst x
                  rw [tm_gu_s]
                  rcases hq with x | x
                  · omega
                  · have x4 := x.2.2.2
                    rw [show 22 + (t * 4 + r) - 22 = t * 4 + r by omega] at x4
                    rw [tm_sn, if_neg x4]
                · rw [tm_gu_n x]
              · rw [tm_gu_n (fun x => tm_P_34 (x ▸ hq))]
end
end
section
section
/-! combine -/
def tm_cm (kd : Nat) (fa fb : Int32 → Option Int32) : Int32 → Option Int32 := fun x => if kd < 2 ∨ (kd = 2 ∧ fb x = none) ∨ (kd = 3 ∧ ¬ fb x = none) then fa x else none
def tm_un (g fb : Int32 → Option Int32) : Int32 → Option Int32 := fun x => if fb x = none then g x else fb x
def tm_R (kd : Nat) (fa fb : Int32 → Option Int32) : Int32 → Option Int32 := if kd = 1 then tm_un (tm_cm kd fa fb) fb else tm_cm kd fa fb
theorem tm_Ov_mono {f g : Int32 → Option Int32} (h : ∀ x, f x ≠ none → g x ≠ none) (o : tm_Ov f) : tm_Ov g := by
  obtain ⟨e, a, b⟩ := o
  exact ⟨e, a, fun i hi => h _ (b i hi)⟩
theorem tm_cm_ne {kd : Nat} {fa fb : Int32 → Option Int32} {x : Int32} (h : tm_cm kd fa fb x ≠ none) : fa x ≠ none := by
  unfold tm_cm at h
  split at h
  · exact h
  · exact absurd rfl h
/-- the first c entries of a row have been gone through -/
def tm_v (c : Nat) (K : Nat → Int32) (F B g : Int32 → Option Int32) : Prop := (∀ i, i < c → g (K i) = F (K i)) ∧ (∀ x, (∀ i, i < c → K i ≠ x) → g x = B x)
theorem tm_v_0 {K : Nat → Int32} {F B : Int32 → Option Int32} : tm_v 0 K F B B := ⟨fun i hi => absurd hi (Nat.not_lt_zero i), fun _ _ => rfl⟩
theorem tm_v_set {n c : Nat} {K : Nat → Int32} {F B g : Int32 → Option Int32} {x : Int32} (hI : tm_I n K) (hc : c < n) (h : tm_v c K F B g) (e : F (K c) = some x) : tm_v (c + 1) K F B (tm_set g (K c) x) := by
  refine ⟨fun i hi => ?_, fun y hy => ?_⟩
  · by_cases z : i = c
    · subst z; rw [tm_set_s, e]
    · rw [tm_set_n (fun y => z (hI i c (by omega) hc y))]; exact h.1 i (by omega)
  · rw [tm_set_n (fun z => hy c (by omega) z.symm)]
    exact h.2 y fun i hi => hy i (by omega)
theorem tm_v_not {n c : Nat} {K : Nat → Int32} {F B g : Int32 → Option Int32} (hI : tm_I n K) (hc : c < n) (h : tm_v c K F B g) (e : F (K c) = B (K c)) : tm_v (c + 1) K F B g := by
  refine ⟨fun i hi => ?_, fun y hy => h.2 y fun i hi => hy i (by omega)⟩
  by_cases z : i = c
  · subst z
    rw [e]
    exact h.2 _ fun j hj y => by have := hI j i (by omega) hc y; omega
  · exact h.1 i (by omega)
theorem tm_v_end {n : Nat} {K : Nat → Int32} {F B g : Int32 → Option Int32} (h : tm_v n K F B g) (e : ∀ x, (∀ i, i < n → K i ≠ x) → F x = B x) : g = F := by
  funext x
  by_cases z : ∃ i, i < n ∧ K i = x
  · obtain ⟨i, hi, rfl⟩ := z; exact h.1 i hi
  · rw [h.2 x (fun i hi y => z ⟨i, hi, y⟩), e x (fun i hi y => z ⟨i, hi, y⟩)]
theorem tm_v_ne {c : Nat} {K : Nat → Int32} {F B g : Int32 → Option Int32} (h : tm_v c K F B g) {x : Int32} (hx : g x ≠ none) (hB : B x ≠ none → F x ≠ none) : F x ≠ none := by
  by_cases z : ∃ i, i < c ∧ K i = x
  · obtain ⟨i, hi, rfl⟩ := z; rw [h.1 i hi] at hx; exact hx
  · rw [h.2 x (fun i hi y => z ⟨i, hi, y⟩)] at hx; exact hB hx
theorem tm_set_ne' {g F : Int32 → Option Int32} {k x y : Int32} (h : tm_set g k x y ≠ none) (hk : F k ≠ none) (hg : g y ≠ none → F y ≠ none) : F y ≠ none := by
  unfold tm_set at h
  split at h
  · rename_i z; rw [z]; exact hk
  · exact hg h
theorem tm_X_0 {s k w : Nat → Int32} : tm_X (upd s 34 0) k w 34 0 (fun _ => none) :=
  ⟨rfl, by omega, fun i j _ hj => absurd hj (Nat.not_lt_zero j), fun i hi => absurd hi (Nat.not_lt_zero i), fun _ _ => rfl⟩
theorem tm_fr_0 {s k w : Nat → Int32} : tm_fr 34 s k w (upd s 34 0) k w := fun q hq => ⟨pk_un hq, fun _ _ => ⟨rfl, rfl⟩⟩
section
variable {op st en ch ac ar ak ad sc sa sk sd wc wk wd : Nat → Int32}
theorem tm_xChoose {post : SX → Prop} {s k w : Nat → Int32} {a b n m kd : Nat} {z : Int32} {fa fb : Int32 → Option Int32} (ha : a < 4) (hb : b < 4) (HA : tm_X s k w a n fa) (HB : tm_X s k w b m fb)
    (hz : (kd = 2 ∧ z = 0) ∨ (kd = 3 ∧ z = 1)) (h : ∀ s1 k1 w1 n1, tm_fr 34 s k w s1 k1 w1 → tm_X s1 k1 w1 34 n1 (tm_cm kd fa fb) → post (s1, k1, w1, op, st, en, ch, ac, ar, ak, ad, sc, sa, sk, sd, wc, wk, wd)) : wpX_chooseEntries post (s, k, w, op, st, en, ch, ac, ar, ak, ad, sc, sa, sk, sd, wc, wk, wd) (nI a) (nI b) z := by
  have hn := HA.2.1
  have loop : ∀ q c s1 k1 w1 n1 g, c ≤ n → n - c < q → tm_fr 34 s k w s1 k1 w1 → tm_X s1 k1 w1 34 n1 g → tm_v c (fun i => k (a * 10 + i)) (tm_cm kd fa fb) (fun _ => none) g →
      wX_chooseEntries_26 post (nI b) z (nI (a * 10)) (nI n) q (nI (a * 10 + c)) s1 k1 w1 op st en ch ac ar ak ad sc sa sk sd wc wk wd := by
    intro q
    induction q with
    | zero => intro c s1 k1 w1 n1 g _ hm; omega
    | succ q ih =>
      intro c s1 k1 w1 n1 g h2 hm fr H34 hv
      refine pk_le (a * 10 + n) (a * 10 + c) (fun hle => ?_) (fun hgt => ?_) (nI_add _ _)
      · have : c = n := by omega
        subst this
        have : g = tm_cm kd fa fb := by
          refine tm_v_end hv fun x hx => ?_
          have hf : fa x = none := HA.2.2.2.2 x hx
          unfold tm_cm
          split
          · exact hf
          · rfl
        subst this
        exact h s1 k1 w1 n1 fr H34
      · have i1 : vp_in (nI (a * 10 + c)) 350 := vp_in_nI (by omega) (by omega)
        have ek : k1 (a * 10 + c) = k (a * 10 + c) := ((fr a (by omega)).2 c (by omega)).1
        have ev : w1 (a * 10 + c) = w (a * 10 + c) := ((fr a (by omega)).2 c (by omega)).2
        have hI := tm_OI HA.2.2.1
        have hfc : fa (k (a * 10 + c)) = some (w (a * 10 + c)) := HA.2.2.2.1 c (by omega)
        refine ⟨i1, ?_⟩
        rw [nI_clamp (by omega), ek, ev]
        have skip : tm_cm kd fa fb (k (a * 10 + c)) = none → ∀ x6 : Int32, x6 = nI (a * 10 + c) + 1 → wX_chooseEntries_26 post (nI b) z (nI (a * 10)) (nI n) q x6 s1 k1 w1 op st en ch ac ar ak ad sc sa sk sd wc wk wd := fun e =>
          nm_r (nI_1 _) (ih (c + 1) s1 k1 w1 n1 g (by omega) (by omega) fr H34 (tm_v_not (K := fun i => k (a * 10 + i)) hI (by omega) hv e))
        have take : tm_cm kd fa fb (k (a * 10 + c)) = some (w (a * 10 + c)) → vp_in (nI (a * 10 + c)) 350 ∧ vp_in (nI (a * 10 + c)) 350 ∧ wpX_setEntry (fun r u => match u with | (a1, b1, c1, d1, d2, d3, d4, d5, d6, d7, d8, d9, d10, d11, d12, d13, d14, d15) => ∀ x6 : Int32, x6 = nI (a * 10 + c) + 1 → wX_chooseEntries_26 post (nI b) z (nI (a * 10)) (nI n) q x6 a1 b1 c1 d1 d2 d3 d4 d5 d6 d7 d8 d9 d10 d11 d12 d13 d14 d15) (s1, k1, w1, op, st, en, ch, ac, ar, ak, ad, sc, sa, sk, sd, wc, wk, wd) 34 (k (a * 10 + c)) (w (a * 10 + c)) := by
          intro e
          refine ⟨i1, i1, ?_⟩
          refine tm_xSet (r := 34) (by omega) H34 (fun s2 k2 w2 n2 fr2 H2 => ?_) (fun hov => ?_)
          · exact nm_r (nI_1 _) (ih (c + 1) s2 k2 w2 n2 _ (by omega) (by omega) (tm_fr_tr fr fr2) H2 (tm_v_set (K := fun i => k (a * 10 + i)) hI (by omega) hv e))
          · refine (tm_no (tm_XY HA) (tm_Ov_mono (fun x hx => ?_) hov)).elim
            refine tm_set_ne' hx (by rw [hfc]; exact fun z => nomatch z) fun y => tm_cm_ne (kd := kd) (fb := fb) (tm_v_ne hv y fun z => absurd rfl z)
        refine tm_xHas (by omega) (tm_fr_X fr (by omega) HB) (fun hne => ?_) (fun he => ?_)
        · rcases hz with ⟨hk, hz⟩ | ⟨hk, hz⟩
          · subst hk hz
            refine br_f tm_10 (skip ?_)
            unfold tm_cm
            rw [if_neg]
            intro y
            rcases y with y | y | y
            · omega
            · exact hne y.2
            · omega
          · subst hk hz
            refine br_t rfl (take ?_)
            unfold tm_cm
            rw [if_pos (Or.inr (Or.inr ⟨rfl, hne⟩))]
            exact hfc
        · rcases hz with ⟨hk, hz⟩ | ⟨hk, hz⟩
          · subst hk hz
            refine br_t rfl (take ?_)
            unfold tm_cm
            rw [if_pos (Or.inr (Or.inl ⟨rfl, he⟩))]
            exact hfc
          · subst hk hz
            refine br_f (by decide) (skip ?_)
            unfold tm_cm
            rw [if_neg]
            intro y
            rcases y with y | y | y
            · omega
            · omega
            · exact y.2 he
  refine nm_r (pk_mul a 10) ⟨vp_in_nI (by omega) (by omega), nm_r (e' := nI n) (by rw [nI_clamp (by omega), HA.1]) (nm_e ⟨n + 1, ?_⟩)⟩
  exact loop (n + 1) 0 _ _ _ 0 _ (by omega) (by omega) tm_fr_0 tm_X_0 tm_v_0
theorem tm_xAdd {post : Int32 → SX → Prop} {s k w : Nat → Int32} {b n m : Nat} {g fb : Int32 → Option Int32} (hb : b < 4) (H34 : tm_X s k w 34 n g) (HB : tm_X s k w b m fb)
    (h1 : ∀ s1 k1 w1 n1, tm_fr 34 s k w s1 k1 w1 → tm_X s1 k1 w1 34 n1 (tm_un g fb) → post 1 (s1, k1, w1, op, st, en, ch, ac, ar, ak, ad, sc, sa, sk, sd, wc, wk, wd)) (h0 : ∀ s1 k1 w1, tm_fr 34 s k w s1 k1 w1 → tm_Ov (tm_un g fb) → post 0 (s1, k1, w1, op, st, en, ch, ac, ar, ak, ad, sc, sa, sk, sd, wc, wk, wd)) :
    wpX_addEntries post (s, k, w, op, st, en, ch, ac, ar, ak, ad, sc, sa, sk, sd, wc, wk, wd) (nI b) := by
  have hm := HB.2.1
  have loop : ∀ q c s1 k1 w1 n1 g1, c ≤ m → m - c < q → tm_fr 34 s k w s1 k1 w1 → tm_X s1 k1 w1 34 n1 g1 → tm_v c (fun i => k (b * 10 + i)) (tm_un g fb) g g1 →
      wX_addEntries_15 post (nI (b * 10)) (nI m) q (nI (b * 10 + c)) s1 k1 w1 op st en ch ac ar ak ad sc sa sk sd wc wk wd := by
    intro q
    induction q with
    | zero => intro c s1 k1 w1 n1 g1 _ hm; omega
    | succ q ih =>
      intro c s1 k1 w1 n1 g1 h2 hm fr H34 hv
      refine pk_le (b * 10 + m) (b * 10 + c) (fun hle => ?_) (fun hgt => ?_) (nI_add _ _)
      · have : c = m := by omega
        subst this
        have : g1 = tm_un g fb := by
          refine tm_v_end hv fun x hx => ?_
          exact if_pos (HB.2.2.2.2 x hx)
        subst this
        exact h1 s1 k1 w1 n1 fr H34
      · have i1 : vp_in (nI (b * 10 + c)) 350 := vp_in_nI (by omega) (by omega)
        have ek : k1 (b * 10 + c) = k (b * 10 + c) := ((fr b (by omega)).2 c (by omega)).1
        have ev : w1 (b * 10 + c) = w (b * 10 + c) := ((fr b (by omega)).2 c (by omega)).2
        have hI := tm_OI HB.2.2.1
        have hfc : fb (k (b * 10 + c)) = some (w (b * 10 + c)) := HB.2.2.2.1 c (by omega)
        have hnn : ¬ fb (k (b * 10 + c)) = none := by rw [hfc]; exact fun z => nomatch z
        have hu : tm_un g fb (k (b * 10 + c)) = some (w (b * 10 + c)) := (if_neg hnn).trans hfc
        refine ⟨i1, i1, ?_⟩
        rw [nI_clamp (by omega), ek, ev]
        refine tm_xSet (r := 34) (by omega) H34 (fun s2 k2 w2 n2 fr2 H2 => br_f tm_10 ?_) (fun hov => br_t rfl ?_)
        · exact nm_r (nI_1 _) (ih (c + 1) s2 k2 w2 n2 _ (by omega) (by omega) (tm_fr_tr fr fr2) H2 (tm_v_set (K := fun i => k (b * 10 + i)) hI (by omega) hv hu))
        · refine h0 s1 k1 w1 fr (tm_Ov_mono (fun x hx => ?_) hov)
          refine tm_set_ne' hx (by rw [hu]; exact fun z => nomatch z) fun y => tm_v_ne hv y fun z => ?_
          unfold tm_un
          split
          · exact z
          · assumption
  refine nm_r (pk_mul b 10) ⟨vp_in_nI (by omega) (by omega), nm_r (e' := nI m) (by rw [nI_clamp (by omega), HB.1]) ⟨m + 1, ?_⟩⟩
  exact loop (m + 1) 0 s k w n g (by omega) (by omega) tm_fr_rf H34 tm_v_0
theorem tm_x71 {post : Int32 → SX → Prop} {P : Nat → Prop} {G : Nat → Int32 → Option Int32} {s k w s1 k1 w1 : Nat → Int32} {a b to n1 kd : Nat} (hkd : kd < 4) (ha : a < 4) (hb : b < 4) (hto : to < 4) (hX : tm_PX P G s k w) (hPb : P b) (hP34 : ¬ P 34)
    (fr : tm_fr 34 s k w s1 k1 w1) (H34 : tm_X s1 k1 w1 34 n1 (tm_cm kd (G a) (G b)))
    (h1 : ∀ s2 k2 w2, tm_PX P (tm_gu G to (tm_R kd (G a) (G b))) s2 k2 w2 → post (s2 to) (s2, k2, w2, op, st, en, ch, ac, ar, ak, ad, sc, sa, sk, sd, wc, wk, wd))
    (h0 : ∀ s2 k2 w2, tm_Ov (tm_R kd (G a) (G b)) → tm_PX P G s2 k2 w2 → post (-2) (s2, k2, w2, op, st, en, ch, ac, ar, ak, ad, sc, sa, sk, sd, wc, wk, wd)) : wX_combine_71 post (nI kd) (nI b) (nI to) s1 k1 w1 op st en ch ac ar ak ad sc sa sk sd wc wk wd := by
  have fin : ∀ s2 k2 w2 n2, tm_fr 34 s k w s2 k2 w2 → tm_X s2 k2 w2 34 n2 (tm_R kd (G a) (G b)) → wX_combine_87 post (nI to) s2 k2 w2 op st en ch ac ar ak ad sc sa sk sd wc wk wd := by
    intro s2 k2 w2 n2 fr2 H2
    unfold wX_combine_87
    refine tm_xCp (a := 34) (by omega) (by omega) (tm_PX_u hX fr2 H2) (Or.inr rfl) (fun s3 k3 w3 H3 => ⟨vp_in_nI (by omega) (by omega), ?_⟩)
    rw [nI_clamp (by omega)]
    refine h1 s3 k3 w3 (tm_PX_of H3 fun q hq => ⟨Or.inl (Or.inl hq), ?_⟩)
    unfold tm_gu
    have x2 : q ≠ 34 := fun x => hP34 (x ▸ hq)
    by_cases x : q = to
    · rw [if_pos x, if_pos x, if_pos rfl]
    · rw [if_neg x, if_neg x, if_neg x2]
  unfold wX_combine_71
  by_cases z : kd = 1
  · subst z
    refine br_t rfl ?_
    obtain ⟨m, HB⟩ := hX b hPb
    refine tm_xAdd hb H34 (tm_fr_X fr (by omega) HB) (fun s2 k2 w2 n2 fr2 H2 => br_f tm_10 (fin s2 k2 w2 n2 (tm_fr_tr fr fr2) ?_)) (fun s2 k2 w2 fr2 hov => br_t rfl (h0 s2 k2 w2 ?_ ?_))
    · rw [tm_R, if_pos rfl]; exact H2
    · rw [tm_R, if_pos rfl]; exact hov
    · intro q hq
      obtain ⟨n, hn⟩ := hX q hq
      exact ⟨n, tm_fr_X (tm_fr_tr fr fr2) (fun x => hP34 (x ▸ hq)) hn⟩
  · refine br_f (fun x => z ((nI_eq (b := 1) (by omega) (by omega)).mp x)) (fin s1 k1 w1 n1 fr ?_)
    rw [tm_R, if_neg z]; exact H34
theorem tm_xComb {post : Int32 → SX → Prop} {P : Nat → Prop} {G : Nat → Int32 → Option Int32} {s k w : Nat → Int32} {a b to kd : Nat} (hkd : kd < 4) (ha : a < 4) (hb : b < 4) (hto : to < 4) (hX : tm_PX P G s k w) (hPa : P a) (hPb : P b) (hP34 : ¬ P 34)
    (h1 : ∀ s2 k2 w2, tm_PX P (tm_gu G to (tm_R kd (G a) (G b))) s2 k2 w2 → post (s2 to) (s2, k2, w2, op, st, en, ch, ac, ar, ak, ad, sc, sa, sk, sd, wc, wk, wd))
    (h0 : ∀ s2 k2 w2, tm_Ov (tm_R kd (G a) (G b)) → tm_PX P G s2 k2 w2 → post (-2) (s2, k2, w2, op, st, en, ch, ac, ar, ak, ad, sc, sa, sk, sd, wc, wk, wd)) : wpX_combine post (s, k, w, op, st, en, ch, ac, ar, ak, ad, sc, sa, sk, sd, wc, wk, wd) (nI kd) (nI a) (nI b) (nI to) := by
  unfold wpX_combine
  obtain ⟨n, HA⟩ := hX a hPa
  obtain ⟨m, HB⟩ := hX b hPb
  refine tm_xV1 ha (br_f tm_10 (tm_xV1 hb (br_f tm_10 (tm_xV1 hto (br_f tm_10 (br_f (nI_pos (by omega)) (br_t (nI_le (b := 3) (by omega) (by omega)) ?_)))))))
  by_cases z2 : kd = 2
  · subst z2
    refine br_t rfl (br_f (by decide) ?_)
    unfold wX_combine_58
    exact tm_xChoose ha hb HA HB (Or.inl ⟨rfl, rfl⟩) fun s1 k1 w1 n1 fr H1 => tm_x71 hkd ha hb hto hX hPb hP34 fr H1 h1 h0
  · refine br_f (fun x => z2 ((nI_eq (b := 2) (by omega) (by omega)).mp x)) ?_
    by_cases z3 : kd = 3
    · subst z3
      refine br_t rfl (br_t rfl ?_)
      unfold wX_combine_58
      exact tm_xChoose ha hb HA HB (Or.inr ⟨rfl, rfl⟩) fun s1 k1 w1 n1 fr H1 => tm_x71 hkd ha hb hto hX hPb hP34 fr H1 h1 h0
    · refine br_f (fun x => z3 ((nI_eq (b := 3) (by omega) (by omega)).mp x)) ?_
      refine tm_xCopy (b := 34) (by omega) (by omega) HA (fun s1 k1 w1 fr H1 => tm_x71 (n1 := n) hkd ha hb hto hX hPb hP34 fr ?_ h1 h0)
      have : tm_cm kd (G a) (G b) = G a := by
        funext x
        exact if_pos (Or.inl (by omega))
      rw [this]; exact H1
theorem tm_y89 {post : Int32 → SY → Prop} {J : Int32 → (Nat → Int32) → (Nat → Int32) → (Nat → Int32) → (Nat → Int32) → (Nat → Int32) → (Nat → Int32) → (Nat → Int32) → (Nat → Int32) → (Nat → Int32) → (Nat → Int32) → (Nat → Int32) → (Nat → Int32) → (Nat → Int32) → (Nat → Int32) → (Nat → Int32) → (Nat → Int32) → (Nat → Int32) → (Nat → Int32) → Prop} {s k w : Nat → Int32} {x2 x3 x4 x5 z : Int32} {kd : Nat} (hkd : kd < 4)
    (h1 : (kd < 2 ∨ (kd = 2 ∧ z = 0) ∨ (kd = 3 ∧ ¬ z = 0)) → wY_combine_116 post J (nI kd) x2 x3 x4 x5 k w s op st en ch ar ak ad ac sa sk sd sc wk wd wc)
    (h0 : ¬ (kd < 2 ∨ (kd = 2 ∧ z = 0) ∨ (kd = 3 ∧ ¬ z = 0)) → ∀ y : Int32, y = x5 + 1 → J y k w s op st en ch ar ak ad ac sa sk sd sc wk wd wc) : wY_combine_89 post J (nI kd) x2 x3 x4 x5 z k w s op st en ch ar ak ad ac sa sk sd sc wk wd wc := by
  by_cases c0 : kd < 2
  · exact br_t (nI_lt (b := 2) c0 (by omega)) (h1 (Or.inl c0))
  · refine br_f (nI_nlt (b := 2) (by omega) (by omega)) ?_
    by_cases c2 : kd = 2
    · subst c2
      refine br_t rfl (br_c (fun y => h1 (Or.inr (Or.inl ⟨rfl, y⟩))) (fun y => br_f (by decide) (h0 ?_)))
      intro q
      rcases q with q | q | q
      · omega
      · exact y q.2
      · omega
    · have c3 : kd = 3 := by omega
      subst c3
      refine br_f (by decide) (br_t rfl (br_c (fun y => h0 ?_) (fun y => h1 (Or.inr (Or.inr ⟨rfl, y⟩)))))
      intro q
      rcases q with q | q | q
      · omega
      · omega
      · exact q.2 y
theorem tm_yChoose {post : Int32 → SY → Prop} {s k w : Nat → Int32} {a b to n m kd : Nat} {fa fb : Int32 → Option Int32} (hkd : kd < 4) (ha : a < 4) (hb : b < 4) (HA : tm_Y s k w a n fa) (HB : tm_Y s k w b m fb)
    (h : ∀ s1 k1 w1 n1, tm_fr 34 s k w s1 k1 w1 → tm_Y s1 k1 w1 34 n1 (tm_cm kd fa fb) → (kd = 1 → ∃ q, wY_combine_154 post (nI b) (nI to) q (nI (b * 10)) k1 w1 s1 op st en ch ar ak ad ac sa sk sd sc wk wd wc) ∧ (kd ≠ 1 → wY_combine_202 post (nI to) k1 w1 s1 op st en ch ar ak ad ac sa sk sd sc wk wd wc)) :
    ∃ q, wY_combine_53 post (nI kd) (nI a) (nI b) (nI to) q (nI (a * 10)) k w (upd s 34 0) op st en ch ar ak ad ac sa sk sd sc wk wd wc := by
  have hn := HA.2.1
  have loop : ∀ q c s1 k1 w1 n1 g, c ≤ n → n - c < q → tm_fr 34 s k w s1 k1 w1 → tm_Y s1 k1 w1 34 n1 g → tm_v c (fun i => k (a * 10 + i)) (tm_cm kd fa fb) (fun _ => none) g →
      wY_combine_53 post (nI kd) (nI a) (nI b) (nI to) q (nI (a * 10 + c)) k1 w1 s1 op st en ch ar ak ad ac sa sk sd sc wk wd wc := by
    intro q
    induction q with
    | zero => intro c s1 k1 w1 n1 g _ hm; omega
    | succ q ih =>
      intro c s1 k1 w1 n1 g h2 hm fr H34 hv
      have HA1 := tm_fr_Y fr (by omega) HA
      have HB1 := tm_fr_Y fr (by omega) HB
      refine ⟨vp_in_nI (by omega) (by omega), pk_le (a * 10 + n) (a * 10 + c) (fun hle => ?_) (fun hgt => ?_) (by rw [nI_clamp (by omega), HA1.1, tm_r10])⟩
      · have : c = n := by omega
        subst this
        have : g = tm_cm kd fa fb := by
          refine tm_v_end hv fun x hx => ?_
          have hf : fa x = none := HA.2.2.2.2 x hx
          unfold tm_cm
          split
          · exact hf
          · rfl
        subst this
        have hh := h s1 k1 w1 n1 fr H34
        exact pk_eq kd 1 (fun e => nm_r (pk_mul b 10) (hh.1 e)) (fun e => hh.2 e)
      · have i1 : vp_in (nI (a * 10 + c)) 390 := vp_in_nI (by omega) (by omega)
        have ek : k1 (a * 10 + c) = k (a * 10 + c) := ((fr a (by omega)).2 c (by omega)).1
        have ev : w1 (a * 10 + c) = w (a * 10 + c) := ((fr a (by omega)).2 c (by omega)).2
        have hI := HA.2.2.1
        have hfc : fa (k (a * 10 + c)) = some (w (a * 10 + c)) := HA.2.2.2.1 c (by omega)
        have ec : (nI (a * 10 + c)).toNatClampNeg = a * 10 + c := nI_clamp (by omega)
        refine ⟨i1, ?_⟩
        rw [ec, ek]
        have skip : tm_cm kd fa fb (k (a * 10 + c)) = none → ∀ x6 : Int32, x6 = nI (a * 10 + c) + 1 → wY_combine_53 post (nI kd) (nI a) (nI b) (nI to) q x6 k1 w1 s1 op st en ch ar ak ad ac sa sk sd sc wk wd wc := fun e =>
          nm_r (nI_1 _) (ih (c + 1) s1 k1 w1 n1 g (by omega) (by omega) fr H34 (tm_v_not (K := fun i => k (a * 10 + i)) hI (by omega) hv e))
        have take : tm_cm kd fa fb (k (a * 10 + c)) = some (w (a * 10 + c)) → wY_combine_116 post (wY_combine_53 post (nI kd) (nI a) (nI b) (nI to) q) (nI kd) (nI a) (nI b) (nI to) (nI (a * 10 + c)) k1 w1 s1 op st en ch ar ak ad ac sa sk sd sc wk wd wc := by
          intro e
          refine ⟨i1, i1, ?_⟩
          rw [ec, ek, ev]
          refine tm_ySet (r := 34) (by omega) H34 (fun s2 k2 w2 n2 fr2 H2 => ?_) (fun hov => ?_)
          · exact nm_r (nI_1 _) (ih (c + 1) s2 k2 w2 n2 _ (by omega) (by omega) (tm_fr_tr fr fr2) H2 (tm_v_set (K := fun i => k (a * 10 + i)) hI (by omega) hv e))
          · refine (tm_no HA (tm_Ov_mono (fun x hx => ?_) hov)).elim
            refine tm_set_ne' hx (by rw [hfc]; exact fun z => nomatch z) fun y => tm_cm_ne (kd := kd) (fb := fb) (tm_v_ne hv y fun z => absurd rfl z)
        have cmt : (kd < 2 ∨ (kd = 2 ∧ fb (k (a * 10 + c)) = none) ∨ (kd = 3 ∧ ¬ fb (k (a * 10 + c)) = none)) → tm_cm kd fa fb (k (a * 10 + c)) = some (w (a * 10 + c)) := fun y => (if_pos y).trans hfc
        have cmn : ¬ (kd < 2 ∨ (kd = 2 ∧ fb (k (a * 10 + c)) = none) ∨ (kd = 3 ∧ ¬ fb (k (a * 10 + c)) = none)) → tm_cm kd fa fb (k (a * 10 + c)) = none := fun y => if_neg y
        refine tm_yFind (by omega) HB1 (fun p hp e => br_f (nI_pos (by have := HB.2.1; omega)) ?_) (fun hf hne => br_t (by decide) ?_)
        · have hfb : ¬ fb (k (a * 10 + c)) = none := by rw [← e]; exact tm_F_none HB1.2.2.2 hp
          refine tm_y89 hkd (fun y => take (cmt ?_)) (fun y => skip (cmn fun q => y ?_))
          · rcases y with y | y | y
            · exact Or.inl y
            · exact absurd y.2 tm_10
            · exact Or.inr (Or.inr ⟨y.1, hfb⟩)
          · rcases q with q | q | q
            · exact Or.inl q
            · exact absurd q.2 hfb
            · exact Or.inr (Or.inr ⟨q.1, tm_10⟩)
        · refine tm_y89 hkd (fun y => take (cmt ?_)) (fun y => skip (cmn fun q => y ?_))
          · rcases y with y | y | y
            · exact Or.inl y
            · exact Or.inr (Or.inl ⟨y.1, hf⟩)
            · exact absurd rfl y.2
          · rcases q with q | q | q
            · exact Or.inl q
            · exact Or.inr (Or.inl ⟨q.1, rfl⟩)
            · exact absurd hf q.2
  exact ⟨n + 1, loop (n + 1) 0 _ _ _ 0 _ (by omega) (by omega) tm_fr_0 (tm_XY tm_X_0) tm_v_0⟩
theorem tm_yAdd {post : Int32 → SY → Prop} {s k w : Nat → Int32} {b to n m : Nat} {g fb : Int32 → Option Int32} (hb : b < 4) (H34 : tm_Y s k w 34 n g) (HB : tm_Y s k w b m fb)
    (h1 : ∀ s1 k1 w1 n1, tm_fr 34 s k w s1 k1 w1 → tm_Y s1 k1 w1 34 n1 (tm_un g fb) → wY_combine_202 post (nI to) k1 w1 s1 op st en ch ar ak ad ac sa sk sd sc wk wd wc) (h0 : ∀ s1 k1 w1, tm_fr 34 s k w s1 k1 w1 → tm_Ov (tm_un g fb) → post (-2) (k1, w1, s1, op, st, en, ch, ar, ak, ad, ac, sa, sk, sd, sc, wk, wd, wc)) :
    ∃ q, wY_combine_154 post (nI b) (nI to) q (nI (b * 10)) k w s op st en ch ar ak ad ac sa sk sd sc wk wd wc := by
  have hm := HB.2.1
  have loop : ∀ q c s1 k1 w1 n1 g1, c ≤ m → m - c < q → tm_fr 34 s k w s1 k1 w1 → tm_Y s1 k1 w1 34 n1 g1 → tm_v c (fun i => k (b * 10 + i)) (tm_un g fb) g g1 →
      wY_combine_154 post (nI b) (nI to) q (nI (b * 10 + c)) k1 w1 s1 op st en ch ar ak ad ac sa sk sd sc wk wd wc := by
    intro q
    induction q with
    | zero => intro c s1 k1 w1 n1 g1 _ hm; omega
    | succ q ih =>
      intro c s1 k1 w1 n1 g1 h2 hm fr H34 hv
      have HB1 := tm_fr_Y fr (by omega) HB
      refine ⟨vp_in_nI (by omega) (by omega), pk_le (b * 10 + m) (b * 10 + c) (fun hle => ?_) (fun hgt => ?_) (by rw [nI_clamp (by omega), HB1.1, tm_r10])⟩
      · have : c = m := by omega
        subst this
        have : g1 = tm_un g fb := by
          refine tm_v_end hv fun x hx => ?_
          exact if_pos (HB.2.2.2.2 x hx)
        subst this
        exact h1 s1 k1 w1 n1 fr H34
      · have i1 : vp_in (nI (b * 10 + c)) 390 := vp_in_nI (by omega) (by omega)
        have ek : k1 (b * 10 + c) = k (b * 10 + c) := ((fr b (by omega)).2 c (by omega)).1
        have ev : w1 (b * 10 + c) = w (b * 10 + c) := ((fr b (by omega)).2 c (by omega)).2
        have hI := HB.2.2.1
        have hfc : fb (k (b * 10 + c)) = some (w (b * 10 + c)) := HB.2.2.2.1 c (by omega)
        have hnn : ¬ fb (k (b * 10 + c)) = none := by rw [hfc]; exact fun z => nomatch z
        have hu : tm_un g fb (k (b * 10 + c)) = some (w (b * 10 + c)) := (if_neg hnn).trans hfc
        refine ⟨i1, i1, ?_⟩
        rw [nI_clamp (show b * 10 + c < 2 ^ 31 by omega), ek, ev]
        refine tm_ySet (r := 34) (by omega) H34 (fun s2 k2 w2 n2 fr2 H2 => br_f tm_10 ?_) (fun hov => br_t rfl ?_)
        · exact nm_r (nI_1 _) (ih (c + 1) s2 k2 w2 n2 _ (by omega) (by omega) (tm_fr_tr fr fr2) H2 (tm_v_set (K := fun i => k (b * 10 + i)) hI (by omega) hv hu))
        · refine h0 s1 k1 w1 fr (tm_Ov_mono (fun x hx => ?_) hov)
          refine tm_set_ne' hx (by rw [hu]; exact fun z => nomatch z) fun y => tm_v_ne hv y fun z => ?_
          unfold tm_un
          split
          · exact z
          · assumption
  exact ⟨m + 1, loop (m + 1) 0 s k w n g (by omega) (by omega) tm_fr_rf H34 tm_v_0⟩
theorem tm_yComb {post : Int32 → SY → Prop} {P : Nat → Prop} {G : Nat → Int32 → Option Int32} {s k w : Nat → Int32} {a b to kd : Nat} (hkd : kd < 4) (ha : a < 4) (hb : b < 4) (hto : to < 4) (hY : tm_PY P G s k w) (hPa : P a) (hPb : P b) (hP34 : ¬ P 34)
    (h1 : ∀ s2 k2 w2, tm_PY P (tm_gu G to (tm_R kd (G a) (G b))) s2 k2 w2 → post (s2 to) (k2, w2, s2, op, st, en, ch, ar, ak, ad, ac, sa, sk, sd, sc, wk, wd, wc))
    (h0 : ∀ s2 k2 w2, tm_Ov (tm_R kd (G a) (G b)) → tm_PY P G s2 k2 w2 → post (-2) (k2, w2, s2, op, st, en, ch, ar, ak, ad, ac, sa, sk, sd, sc, wk, wd, wc)) : wpY_combine post (k, w, s, op, st, en, ch, ar, ak, ad, ac, sa, sk, sd, sc, wk, wd, wc) (nI kd) (nI a) (nI b) (nI to) := by
  unfold wpY_combine
  obtain ⟨n, HA⟩ := hY a hPa
  obtain ⟨m, HB⟩ := hY b hPb
  have fin : ∀ s2 k2 w2 n2, tm_fr 34 s k w s2 k2 w2 → tm_Y s2 k2 w2 34 n2 (tm_R kd (G a) (G b)) → wY_combine_202 post (nI to) k2 w2 s2 op st en ch ar ak ad ac sa sk sd sc wk wd wc := by
    intro s2 k2 w2 n2 fr2 H2
    unfold wY_combine_202
    refine tm_yCp (a := 34) (by omega) (by omega) (tm_PY_u hY fr2 H2) (Or.inr rfl) (fun s3 k3 w3 H3 => ⟨vp_in_nI (by omega) (by omega), ?_⟩)
    rw [nI_clamp (by omega)]
    refine h1 s3 k3 w3 (tm_PY_of H3 fun q hq => ⟨Or.inl (Or.inl hq), ?_⟩)
    unfold tm_gu
    have x2 : q ≠ 34 := fun x => hP34 (x ▸ hq)
    by_cases x : q = to
    · rw [if_pos x, if_pos x, if_pos rfl]
    · rw [if_neg x, if_neg x, if_neg x2]
  refine tm_yB1 4 ha (by omega) (br_f tm_10 (tm_yB1 4 hb (by omega) (br_f tm_10 (tm_yB1 4 hto (by omega) (br_f tm_10 (tm_yB1 4 hkd (by omega) (br_f tm_10 (nm_e (nm_r (pk_mul a 10) ?_)))))))))
  refine tm_yChoose hkd ha hb HA HB fun s1 k1 w1 n1 fr H1 => ⟨fun e => ?_, fun e => fin s1 k1 w1 n1 fr ?_⟩
  · subst e
    refine tm_yAdd hb H1 (tm_fr_Y fr (by omega) HB) (fun s2 k2 w2 n2 fr2 H2 => fin s2 k2 w2 n2 (tm_fr_tr fr fr2) ?_) (fun s2 k2 w2 fr2 hov => h0 s2 k2 w2 ?_ ?_)
    · rw [tm_R, if_pos rfl]; exact H2
    · rw [tm_R, if_pos rfl]; exact hov
    · intro q hq
      obtain ⟨n, hn⟩ := hY q hq
      exact ⟨n, tm_fr_Y (tm_fr_tr fr fr2) (fun x => hP34 (x ▸ hq)) hn⟩
  · rw [tm_R, if_neg e]; exact H1
end
theorem i_vc_combine {k : Nat} {u : SX} {v : SY} (I : i_Rel k u v) (hk : k + 5 ≤ 2561) (v1 : Int32) (v2 : Int32) (v3 : Int32) (v4 : Int32) : wpX_combine (fun r u' => wpY_combine (fun r' v' => r' = r ∧ i_Rel (k + 5) u' v') v v1 v2 v3 v4) u v1 v2 v3 v4 := by
  obtain ⟨s, ky, w, s', k', w', op, st, en, ch, ac, ar, ak, ad, sc, sa, sk, sd, wc, wk, wd, G, rfl, rfl, hX, hY, hQ⟩ := I
  rcases tm_ix v2 (n := 4) (by omega) with h | ⟨a, ha, rfl⟩
  · unfold wpX_combine wpY_combine
    exact tm_xV0 h (br_t rfl (tm_yB0 4 h (br_t rfl ⟨rfl, tm_mk hX hY hQ⟩)))
  · rcases tm_ix v3 (n := 4) (by omega) with h | ⟨b, hb, rfl⟩
    · unfold wpX_combine wpY_combine
      exact tm_xV1 ha (br_f tm_10 (tm_xV0 h (br_t rfl (tm_yB1 4 ha (by omega) (br_f tm_10 (tm_yB0 4 h (br_t rfl ⟨rfl, tm_mk hX hY hQ⟩)))))))
    · rcases tm_ix v4 (n := 4) (by omega) with h | ⟨to, hto, rfl⟩
      · unfold wpX_combine wpY_combine
        exact tm_xV1 ha (br_f tm_10 (tm_xV1 hb (br_f tm_10 (tm_xV0 h (br_t rfl (tm_yB1 4 ha (by omega) (br_f tm_10 (tm_yB1 4 hb (by omega) (br_f tm_10 (tm_yB0 4 h (br_t rfl ⟨rfl, tm_mk hX hY hQ⟩)))))))))))
      · rcases tm_ix v1 (n := 4) (by omega) with h | ⟨kd, hkd, rfl⟩
        · unfold wpX_combine wpY_combine
          refine tm_xV1 ha (br_f tm_10 (tm_xV1 hb (br_f tm_10 (tm_xV1 hto (br_f tm_10 ?_)))))
          have yy : ∀ r : Int32, r = -1 → wpY_combine (fun r' v' => r' = r ∧ i_Rel (k + 5) (s, ky, w, op, st, en, ch, ac, ar, ak, ad, sc, sa, sk, sd, wc, wk, wd) v') (k', w', s', op, st, en, ch, ar, ak, ad, ac, sa, sk, sd, sc, wk, wd, wc) v1 (nI a) (nI b) (nI to) := by
            intro r hr
            unfold wpY_combine
            exact tm_yB1 4 ha (by omega) (br_f tm_10 (tm_yB1 4 hb (by omega) (br_f tm_10 (tm_yB1 4 hto (by omega) (br_f tm_10 (tm_yB0 4 h (br_t rfl ⟨hr.symm, tm_mk hX hY hQ⟩)))))))
          by_cases z : v1 < 0
          · exact br_t z (yy _ rfl)
          · refine br_f z (br_f (fun y => ?_) (yy _ rfl))
            exact absurd (Int32.le_trans (h.resolve_left z) y) (by decide)
        · have hPa : tm_P op st a := Or.inl (by omega)
          have hPb : tm_P op st b := Or.inl (by omega)
          have hPt : tm_P op st to := Or.inl (by omega)
          refine tm_xComb hkd ha hb hto hX hPa hPb tm_P_34 (fun s2 k2 w2 HX => ?_) (fun s2 k2 w2 hov HX => ?_)
          · exact tm_yComb hkd ha hb hto hY hPa hPb tm_P_34 (fun s3 k3 w3 HY => ⟨tm_sz HX HY hPt hPt, tm_mk HX HY hQ⟩) (fun s3 k3 w3 hov _ => (tm_noX HX hPt tm_gu_s hov).elim)
          · exact tm_yComb hkd ha hb hto hY hPa hPb tm_P_34 (fun s3 k3 w3 HY => (tm_noY HY hPt tm_gu_s hov).elim) (fun s3 k3 w3 _ HY => ⟨rfl, tm_mk HX HY hQ⟩)
end
end
section
section
/-! finish: what is asked of a transaction -/
def tm_cf (st en ch : Nat → Int32) (t : Nat) : Prop := ∃ i, i < 4 ∧ ch (t * 4 + i) ≠ 0 ∧ (st (t * 4 + i) = 1 ∨ en (t * 4 + i) ≠ 0)
/-- the refs' maps after the first j recorded adjustments -/
def tm_M (G : Nat → Int32 → Option Int32) (t : Nat) (ar ak ad : Nat → Int32) : Nat → Nat → Int32 → Option Int32
  | 0 => fun r => G (4 + r)
  | j + 1 => fun r => if ar (t * 8 + j) = nI r then tm_ad (tm_M G t ar ak ad j r) (ak (t * 8 + j)) (ad (t * 8 + j)) else tm_M G t ar ak ad j r
theorem tm_M_s {G : Nat → Int32 → Option Int32} {t j r : Nat} {ar ak ad : Nat → Int32} (h : ar (t * 8 + j) = nI r) : tm_M G t ar ak ad (j + 1) r = tm_ad (tm_M G t ar ak ad j r) (ak (t * 8 + j)) (ad (t * 8 + j)) := if_pos h
theorem tm_M_n {G : Nat → Int32 → Option Int32} {t j r q : Nat} {ar ak ad : Nat → Int32} (h : ar (t * 8 + j) = nI r) (hr : r < 4) (hq : q < 4) (hne : q ≠ r) : tm_M G t ar ak ad (j + 1) q = tm_M G t ar ak ad j q :=
  if_neg (fun z => hne ((nI_eq (by omega) (by omega)).mp (z.symm.trans h)))
def tm_Fl (G : Nat → Int32 → Option Int32) (t : Nat) (ar ak ad : Nat → Int32) (c : Nat) : Prop := ∃ j, j < c ∧ ∃ r, r < 4 ∧ ar (t * 8 + j) = nI r ∧ tm_Ov (tm_M G t ar ak ad (j + 1) r)
theorem tm_Fl_0 {G : Nat → Int32 → Option Int32} {t : Nat} {ar ak ad : Nat → Int32} : ¬ tm_Fl G t ar ak ad 0 := fun h => by
  obtain ⟨j, hj, _⟩ := h
  omega
theorem tm_Fl_1 {G : Nat → Int32 → Option Int32} {t j r : Nat} {ar ak ad : Nat → Int32} (h : ¬ tm_Fl G t ar ak ad j) (hr : r < 4) (e : ar (t * 8 + j) = nI r) (ho : ¬ tm_Ov (tm_M G t ar ak ad (j + 1) r)) : ¬ tm_Fl G t ar ak ad (j + 1) := by
  intro z
  obtain ⟨i, hi, q, hq, e2, hov⟩ := z
  by_cases y : i = j
  · subst y
    have : r = q := (nI_eq (by omega) (by omega)).mp (e.symm.trans e2)
    subst this
    exact ho hov
  · exact h ⟨i, by omega, q, hq, e2, hov⟩
def tm_cs (sa : Nat → Int32) (t g : Nat) : Nat → Nat
  | 0 => 0
  | j + 1 => if sa (t * 6 + j) = nI g then tm_cs sa t g j + 1 else tm_cs sa t g j
theorem tm_cs_le {sa : Nat → Int32} {t g : Nat} : ∀ j, tm_cs sa t g j ≤ j := by
  intro j
  induction j with
  | zero => exact Nat.le_refl _
  | succ j ih => unfold tm_cs; split <;> omega
theorem tm_cs_mono {sa : Nat → Int32} {t g : Nat} : ∀ {i j : Nat}, i ≤ j → tm_cs sa t g i ≤ tm_cs sa t g j := by
  intro i j
  induction j with
  | zero => intro h; have : i = 0 := by omega
            subst this; exact Nat.le_refl _
  | succ j ih =>
    intro h
    by_cases z : i = j + 1
    · subst z; exact Nat.le_refl _
    · have := ih (by omega)
      have h2 : tm_cs sa t g j ≤ tm_cs sa t g (j + 1) := by
        show _ ≤ (if sa (t * 6 + j) = nI g then tm_cs sa t g j + 1 else tm_cs sa t g j)
        split <;> omega
      omega
def tm_S (sa wc : Nat → Int32) (t c : Nat) : Prop := ∀ g, g < 2 → (wc g).toNatClampNeg + tm_cs sa t g c ≤ 8
section
variable {op st en ch ac ar ak ad sc sa sk sd wc wk wd : Nat → Int32}
theorem tm_xConf {post : Int32 → Prop} {s k w : Nat → Int32} {t : Nat} (ht : t < 3) (h1 : tm_cf st en ch t → post 1) (h0 : ¬ tm_cf st en ch t → post 0) : wpX_isInConflict post (s, k, w, op, st, en, ch, ac, ar, ak, ad, sc, sa, sk, sd, wc, wk, wd) (nI t) := by
  have loop : ∀ q c, c ≤ 4 → 4 - c < q → (∀ i, i < c → ¬ (ch (t * 4 + i) ≠ 0 ∧ (st (t * 4 + i) = 1 ∨ en (t * 4 + i) ≠ 0))) → wX_isInConflict_2 post (nI t) s k w op st en ch ac ar ak ad sc sa sk sd wc wk wd q (nI c) := by
    intro q
    induction q with
    | zero => intro c _ hm; omega
    | succ q ih =>
      intro c h2 hm hn
      refine pk_le 4 c (fun hle => ?_) (fun hgt => ?_)
      · have : c = 4 := by omega
        subst this
        refine h0 fun z => ?_
        obtain ⟨i, hi, a⟩ := z
        exact hn i hi a
      · have i1 : vp_in (nI (t * 4 + c)) 12 := vp_in_nI (by omega) (by omega)
        have ec : (nI (t * 4 + c)).toNatClampNeg = t * 4 + c := nI_clamp (by omega)
        have next : ¬ (ch (t * 4 + c) ≠ 0 ∧ (st (t * 4 + c) = 1 ∨ en (t * 4 + c) ≠ 0)) → wX_isInConflict_2 post (nI t) s k w op st en ch ac ar ak ad sc sa sk sd wc wk wd q (nI (c + 1)) := by
          intro hc
          refine ih (c + 1) (by omega) (by omega) fun i hi => ?_
          by_cases z : i = c
          · subst z; exact hc
          · exact hn i (by omega)
        refine nm_r (tm_r4 t c) ⟨i1, br_c (fun a => nm_r (nI_1 c) (next ?_)) (fun a => ⟨i1, br_c (fun b => h1 ?_) (fun b => ⟨i1, br_c (fun d => nm_r (nI_1 c) (next ?_)) (fun d => h1 ?_)⟩)⟩)⟩
        · rw [ec] at a; exact fun y => y.1 a
        · rw [ec] at a b; exact ⟨c, by omega, a, Or.inl b⟩
        · rw [ec] at b d; exact fun y => y.2.elim b (fun x => x d)
        · rw [ec] at a d; exact ⟨c, by omega, a, Or.inr d⟩
  exact ⟨5, loop 5 0 (by omega) (by omega) fun i hi => absurd hi (Nat.not_lt_zero i)⟩
def tm_GX (G : Nat → Int32 → Option Int32) (st : Nat → Int32) (t : Nat) (M : Nat → Int32 → Option Int32) (c : Nat) : Nat → Int32 → Option Int32 :=
  fun q => if 22 + t * 4 ≤ q ∧ q < 22 + (t * 4 + c) ∧ st (q - 22) = 2 then M (q - 22 - t * 4) else G q
theorem tm_GX_s {G : Nat → Int32 → Option Int32} {t c r : Nat} {M : Nat → Int32 → Option Int32} (hr : r < c) (h : st (t * 4 + r) = 2) : tm_GX G st t M c (22 + (t * 4 + r)) = M r := by
  unfold tm_GX
  rw [if_pos ⟨by omega, by omega, by rw [show 22 + (t * 4 + r) - 22 = t * 4 + r by omega]; exact h⟩, show 22 + (t * 4 + r) - 22 - t * 4 = r by omega]
theorem tm_GX_n {G : Nat → Int32 → Option Int32} {t c q : Nat} {M : Nat → Int32 → Option Int32} (h : q < 22 + t * 4 ∨ 22 + (t * 4 + c) ≤ q ∨ st (q - 22) ≠ 2) : tm_GX G st t M c q = G q := by
  refine if_neg fun z => ?_
  rcases h with h | h | h
  · omega
  · omega
  · exact h z.2.2
theorem tm_xAnew2 {post : Int32 → SX → Prop} {P P' : Nat → Prop} {G : Nat → Int32 → Option Int32} {s k w : Nat → Int32} {t c : Nat} (ht : t < 3) (hc : c ≤ 8) (hr : ∀ j, j < c → ∃ r, r < 4 ∧ ar (t * 8 + j) = nI r ∧ st (t * 4 + r) = 2)
    (hPo : ∀ r, r < 4 → st (t * 4 + r) ≠ 0 → P (22 + (t * 4 + r))) (hP' : ∀ q, P' q → P q ∧ (q < 22 + t * 4 ∨ 22 + (t * 4 + 4) ≤ q))
    (H : tm_PX P (tm_GX G st t (tm_M G t ar ak ad 0) 4) s k w)
    (h1 : ¬ tm_Fl G t ar ak ad c → ∀ s1 k1 w1, tm_PX P (tm_GX G st t (tm_M G t ar ak ad c) 4) s1 k1 w1 → post 1 (s1, k1, w1, op, st, en, ch, ac, ar, ak, ad, sc, sa, sk, sd, wc, wk, wd))
    (h0 : tm_Fl G t ar ak ad c → ∀ s1 k1 w1, tm_PX P' G s1 k1 w1 → post 0 (s1, k1, w1, op, st, en, ch, ac, ar, ak, ad, sc, sa, sk, sd, wc, wk, wd)) : ∃ q, wX_adjustAnew_55 post (nI t) (nI (t * 8)) (nI c) q (nI (t * 8)) s k w op st en ch ac ar ak ad sc sa sk sd wc wk wd := by
  have loop : ∀ q j s1 k1 w1, j ≤ c → c - j < q → ¬ tm_Fl G t ar ak ad j → tm_PX P (tm_GX G st t (tm_M G t ar ak ad j) 4) s1 k1 w1 → wX_adjustAnew_55 post (nI t) (nI (t * 8)) (nI c) q (nI (t * 8 + j)) s1 k1 w1 op st en ch ac ar ak ad sc sa sk sd wc wk wd := by
    intro q
    induction q with
    | zero => intro j s1 k1 w1 _ hm; omega
    | succ q ih =>
      intro j s1 k1 w1 h2 hm hF HX
      refine pk_le (t * 8 + c) (t * 8 + j) (fun hle => ?_) (fun hgt => ?_) (nI_add _ _)
      · have : j = c := by omega
        subst this
        exact h1 hF s1 k1 w1 HX
      · have i1 : vp_in (nI (t * 8 + j)) 24 := vp_in_nI (by omega) (by omega)
        have ec : (nI (t * 8 + j)).toNatClampNeg = t * 8 + j := nI_clamp (by omega)
        obtain ⟨r, hr4, er, es⟩ := hr j (by omega)
        have hP : P (22 + (t * 4 + r)) := hPo r hr4 (by rw [es]; decide)
        refine ⟨i1, nm_r (e' := nI (22 + (t * 4 + r))) (by rw [ec, er, tm_b22]) ⟨i1, i1, ?_⟩⟩
        rw [ec]
        refine tm_xAj (by omega) HX hP (fun s2 k2 w2 H2 => br_f tm_10 ?_) (fun hov => br_t rfl ?_)
        · rw [tm_GX_s hr4 es, ← tm_M_s er] at H2
          refine nm_r (nI_1 _) (ih (j + 1) s2 k2 w2 (by omega) (by omega) (tm_Fl_1 hF hr4 er fun hov => tm_noX H2 hP tm_gu_s hov) (tm_PX_of H2 fun x hx => ⟨hx, ?_⟩))
          by_cases z : x = 22 + (t * 4 + r)
          · subst z; rw [tm_gu_s]; exact tm_GX_s hr4 es
          · rw [tm_gu_n z]
            by_cases y : 22 + t * 4 ≤ x ∧ x < 22 + (t * 4 + 4) ∧ st (x - 22) = 2
            · have ex : x = 22 + (t * 4 + (x - 22 - t * 4)) := by omega
              have e2 : st (t * 4 + (x - 22 - t * 4)) = 2 := by rw [show t * 4 + (x - 22 - t * 4) = x - 22 by omega]; exact y.2.2
              rw [ex, tm_GX_s (by omega) e2, tm_GX_s (by omega) e2]
              exact tm_M_n er hr4 (by omega) (by omega)
            · exact (if_neg y).trans (if_neg y).symm
        · rw [tm_GX_s hr4 es, ← tm_M_s er] at hov
          refine h0 ⟨j, by omega, r, hr4, er, hov⟩ s1 k1 w1 (tm_PX_of HX fun x hx => ⟨(hP' x hx).1, ?_⟩)
          exact (tm_GX_n ((hP' x hx).2.elim Or.inl fun y => Or.inr (Or.inl y))).symm
  exact ⟨c + 1, loop (c + 1) 0 s k w (by omega) (by omega) tm_Fl_0 H⟩
theorem tm_xAnew {post : Int32 → SX → Prop} {P P' : Nat → Prop} {G : Nat → Int32 → Option Int32} {s k w : Nat → Int32} {t c : Nat} (ht : t < 3) (hc : c ≤ 8) (ea : ac t = nI c) (hr : ∀ j, j < c → ∃ r, r < 4 ∧ ar (t * 8 + j) = nI r ∧ st (t * 4 + r) = 2)
    (hPq : ∀ q, q < 22 → P q) (hPo : ∀ r, r < 4 → st (t * 4 + r) ≠ 0 → P (22 + (t * 4 + r))) (hP' : ∀ q, P' q → P q ∧ (q < 22 + t * 4 ∨ 22 + (t * 4 + 4) ≤ q))
    (H : tm_PX P G s k w)
    (h1 : ¬ tm_Fl G t ar ak ad c → ∀ s1 k1 w1, tm_PX P (tm_GX G st t (tm_M G t ar ak ad c) 4) s1 k1 w1 → post 1 (s1, k1, w1, op, st, en, ch, ac, ar, ak, ad, sc, sa, sk, sd, wc, wk, wd))
    (h0 : tm_Fl G t ar ak ad c → ∀ s1 k1 w1, tm_PX P' G s1 k1 w1 → post 0 (s1, k1, w1, op, st, en, ch, ac, ar, ak, ad, sc, sa, sk, sd, wc, wk, wd)) : wpX_adjustAnew post (s, k, w, op, st, en, ch, ac, ar, ak, ad, sc, sa, sk, sd, wc, wk, wd) (nI t) := by
  have loop : ∀ q m s1 k1 w1, m ≤ 4 → 4 - m < q → tm_PX P (tm_GX G st t (tm_M G t ar ak ad 0) m) s1 k1 w1 → wX_adjustAnew_2 post (nI t) q (nI m) s1 k1 w1 op st en ch ac ar ak ad sc sa sk sd wc wk wd := by
    intro q
    induction q with
    | zero => intro m s1 k1 w1 _ hm; omega
    | succ q ih =>
      intro m s1 k1 w1 h2 hm HX
      refine pk_le 4 m (fun hle => ?_) (fun hgt => ?_)
      · have : m = 4 := by omega
        subst this
        refine nm_r (pk_mul t 8) ⟨vp_in_nI ht (by omega), nm_r (e' := nI c) (by rw [nI_clamp (by omega), ea]) ?_⟩
        exact tm_xAnew2 ht hc hr hPo hP' HX h1 h0
      · have i1 : vp_in (nI (t * 4 + m)) 12 := vp_in_nI (by omega) (by omega)
        have ec : (nI (t * 4 + m)).toNatClampNeg = t * 4 + m := nI_clamp (by omega)
        refine nm_r (tm_r4 t m) ⟨i1, ?_⟩
        rw [ec]
        refine br_c (fun e2 => ?_) (fun e2 => nm_r (nI_1 m) (ih (m + 1) s1 k1 w1 (by omega) (by omega) (tm_PX_of HX fun x hx => ⟨hx, ?_⟩)))
        · rw [tm_a4, tm_a22]
          refine tm_xCp (by omega) (by omega) HX (hPq _ (by omega)) (fun s2 k2 w2 H2 => nm_r (nI_1 m) (ih (m + 1) s2 k2 w2 (by omega) (by omega) (tm_PX_of H2 fun x hx => ⟨Or.inl hx, ?_⟩)))
          by_cases z : x = 22 + (t * 4 + m)
          · subst z
            rw [tm_gu_s, tm_GX_n (q := 4 + m) (Or.inl (by omega)), tm_GX_s (by omega) e2]
            rfl
          · rw [tm_gu_n z]
            unfold tm_GX
            by_cases y : 22 + t * 4 ≤ x ∧ x < 22 + (t * 4 + m) ∧ st (x - 22) = 2
            · rw [if_pos y, if_pos ⟨y.1, by omega, y.2.2⟩]
            · rw [if_neg y, if_neg fun q => y ⟨q.1, by omega, q.2.2⟩]
        · unfold tm_GX
          by_cases y : 22 + t * 4 ≤ x ∧ x < 22 + (t * 4 + m) ∧ st (x - 22) = 2
          · rw [if_pos y, if_pos ⟨y.1, by omega, y.2.2⟩]
          · rw [if_neg y, if_neg]
            intro q
            have : x ≠ 22 + (t * 4 + m) := by
              intro z
              apply e2
              have := q.2.2
              rw [z, show 22 + (t * 4 + m) - 22 = t * 4 + m by omega] at this
              exact this
            exact y ⟨q.1, by omega, q.2.2⟩
  refine ⟨5, loop 5 0 s k w (by omega) (by omega) (tm_PX_of H fun x hx => ⟨hx, tm_GX_n (by omega)⟩)⟩
theorem tm_xCnt {post : Int32 → Prop} {s k w : Nat → Int32} {t g c : Nat} (ht : t < 3) (hc : c ≤ 6) (ea : sc t = nI c) (h : post (nI (tm_cs sa t g c))) : wpX_countSendsTo post (s, k, w, op, st, en, ch, ac, ar, ak, ad, sc, sa, sk, sd, wc, wk, wd) (nI t) (nI g) := by
  have loop : ∀ q j, j ≤ c → c - j < q → wX_countSendsTo_19 post (nI g) (nI (t * 6)) (nI c) s k w op st en ch ac ar ak ad sc sa sk sd wc wk wd q (nI (tm_cs sa t g j)) (nI (t * 6 + j)) := by
    intro q
    induction q with
    | zero => intro j _ hm; omega
    | succ q ih =>
      intro j h2 hm
      refine pk_le (t * 6 + c) (t * 6 + j) (fun hle => ?_) (fun hgt => ?_) (nI_add _ _)
      · have : j = c := by omega
        subst this
        exact h
      · have ec : (nI (t * 6 + j)).toNatClampNeg = t * 6 + j := nI_clamp (by omega)
        refine ⟨vp_in_nI (by omega) (by omega), ?_⟩
        rw [ec]
        have ihn := ih (j + 1) (by omega) (by omega)
        refine br_c (fun e => nm_r (nI_1 _) (nm_r (nI_1 (t * 6 + j)) ?_)) (fun e => nm_r (nI_1 (t * 6 + j)) ?_)
        · rw [show tm_cs sa t g (j + 1) = tm_cs sa t g j + 1 from if_pos e] at ihn
          exact ihn
        · rw [show tm_cs sa t g (j + 1) = tm_cs sa t g j from if_neg e] at ihn
          exact ihn
  exact nm_r (pk_mul t 6) ⟨vp_in_nI ht (by omega), nm_r (e' := nI c) (by rw [nI_clamp (by omega), ea]) ⟨c + 1, loop (c + 1) 0 (by omega) (by omega)⟩⟩
theorem tm_xFit {post : Int32 → Prop} {s k w : Nat → Int32} {t c : Nat} (ht : t < 3) (hc : c ≤ 6) (ea : sc t = nI c) (hw : ∀ g, g < 2 → ∃ c, c ≤ 8 ∧ wc g = nI c) (h1 : tm_S sa wc t c → post 1) (h0 : ¬ tm_S sa wc t c → post 0) : wpX_sendsFit post (s, k, w, op, st, en, ch, ac, ar, ak, ad, sc, sa, sk, sd, wc, wk, wd) (nI t) := by
  have loop : ∀ q g, g ≤ 2 → 2 - g < q → (∀ i, i < g → (wc i).toNatClampNeg + tm_cs sa t i c ≤ 8) → wX_sendsFit_2 post (nI t) s k w op st en ch ac ar ak ad sc sa sk sd wc wk wd q (nI g) := by
    intro q
    induction q with
    | zero => intro j _ hm; omega
    | succ q ih =>
      intro g h2 hm hh
      refine pk_le 2 g (fun hle => ?_) (fun hgt => ?_)
      · exact h1 fun i hi => hh i (by omega)
      · refine tm_xCnt ht hc ea ⟨vp_in_nI hgt (by omega), ?_⟩
        obtain ⟨d, hd, e⟩ := hw g hgt
        have ed : (wc g).toNatClampNeg = d := by rw [e, nI_clamp (by omega)]
        have hcs : tm_cs sa t g c ≤ c := tm_cs_le c
        rw [nI_clamp (show g < 2 ^ 31 by omega), e, nI_add]
        refine pk_le (d + tm_cs sa t g c) 8 (fun hle => nm_r (nI_1 g) (ih (g + 1) (by omega) (by omega) fun i hi => ?_)) (fun hgt2 => h0 fun z => ?_)
        · by_cases z : i = g
          · subst z; rw [ed]; exact hle
          · exact hh i (by omega)
        · have := z g hgt
          rw [ed] at this
          omega
  exact ⟨3, loop 3 0 (by omega) (by omega) fun i hi => absurd hi (Nat.not_lt_zero i)⟩
/-! what finish leaves -/
def tm_mr (a : Nat → Int32) (r : Nat) : Nat → Nat → Int32
  | 0 => a
  | m + 1 => upd (tm_mr a r m) (m * 4 + r) (vp_nar .boolean 1)
def tm_ch (st ch : Nat → Int32) (t : Nat) : Nat → Nat → Int32
  | 0 => ch
  | c + 1 => if st (t * 4 + c) = 0 then tm_ch st ch t c else tm_mr (tm_ch st ch t c) c 3
theorem tm_xMark {post : SX → Prop} {s k w : Nat → Int32} {r : Nat} (hr : r < 4) (h : post (s, k, w, op, st, en, tm_mr ch r 3, ac, ar, ak, ad, sc, sa, sk, sd, wc, wk, wd)) : wpX_markChanged post (s, k, w, op, st, en, ch, ac, ar, ak, ad, sc, sa, sk, sd, wc, wk, wd) (nI r) := by
  have loop : ∀ q m, m ≤ 3 → 3 - m < q → wX_markChanged_2 post (nI r) q (nI m) s k w op st en (tm_mr ch r m) ac ar ak ad sc sa sk sd wc wk wd := by
    intro q
    induction q with
    | zero => intro j _ hm; omega
    | succ q ih =>
      intro m h2 hm
      refine pk_le 3 m (fun hle => ?_) (fun hgt => ?_)
      · have : m = 3 := by omega
        subst this
        exact h
      · exact ⟨pk_in (m * 4 + r) 12 (by omega) (tm_r4 m r), nm_r (e' := tm_mr ch r (m + 1)) (by rw [tm_r4, nI_clamp (by omega)]; rfl) (nm_r (nI_1 m) (ih (m + 1) (by omega) (by omega)))⟩
  exact ⟨4, loop 4 0 (by omega) (by omega)⟩
def tm_GP (G : Nat → Int32 → Option Int32) (st : Nat → Int32) (t : Nat) (N : Nat → Int32 → Option Int32) (c : Nat) : Nat → Int32 → Option Int32 :=
  fun q => if 4 ≤ q ∧ q < 4 + c ∧ st (t * 4 + (q - 4)) ≠ 0 then N (q - 4) else G q
theorem tm_GP_0 {G : Nat → Int32 → Option Int32} {t q : Nat} {N : Nat → Int32 → Option Int32} : tm_GP G st t N 0 q = G q := if_neg (by omega)
theorem tm_GP_z {G : Nat → Int32 → Option Int32} {t c q : Nat} {N : Nat → Int32 → Option Int32} (h : st (t * 4 + c) = 0) : tm_GP G st t N (c + 1) q = tm_GP G st t N c q := by
  unfold tm_GP
  by_cases y : 4 ≤ q ∧ q < 4 + c ∧ st (t * 4 + (q - 4)) ≠ 0
  · rw [if_pos y, if_pos ⟨y.1, by omega, y.2.2⟩]
  · rw [if_neg y, if_neg]
    intro z
    have : q ≠ 4 + c := by
      intro x
      apply z.2.2
      rw [x, show 4 + c - 4 = c by omega]
      exact h
    exact y ⟨z.1, by omega, z.2.2⟩
theorem tm_GP_s {G : Nat → Int32 → Option Int32} {t c q : Nat} {N : Nat → Int32 → Option Int32} (h : st (t * 4 + c) ≠ 0) : tm_GP G st t N (c + 1) q = tm_gu (tm_GP G st t N c) (4 + c) (N c) q := by
  by_cases z : q = 4 + c
  · subst z
    rw [tm_gu_s]
    unfold tm_GP
    rw [if_pos ⟨by omega, by omega, by rw [show 4 + c - 4 = c by omega]; exact h⟩, show 4 + c - 4 = c by omega]
  · rw [tm_gu_n z]
    unfold tm_GP
    by_cases y : 4 ≤ q ∧ q < 4 + c ∧ st (t * 4 + (q - 4)) ≠ 0
    · rw [if_pos y, if_pos ⟨y.1, by omega, y.2.2⟩]
    · rw [if_neg y, if_neg fun x => y ⟨x.1, by omega, x.2.2⟩]
theorem tm_GP_n {G : Nat → Int32 → Option Int32} {t c q : Nat} {N : Nat → Int32 → Option Int32} (h : q < 4 ∨ 4 + c ≤ q) : tm_GP G st t N c q = G q := if_neg (by omega)
theorem tm_xPub {post : SX → Prop} {P : Nat → Prop} {G : Nat → Int32 → Option Int32} {s k w : Nat → Int32} {t : Nat} {N : Nat → Int32 → Option Int32} (ht : t < 3)
    (hPq : ∀ q, q < 22 → P q) (hPo : ∀ r, r < 4 → st (t * 4 + r) ≠ 0 → P (22 + (t * 4 + r)) ∧ G (22 + (t * 4 + r)) = N r)
    (H : tm_PX P G s k w) (h : ∀ s1 k1 w1, tm_PX P (tm_GP G st t N 4) s1 k1 w1 → post (s1, k1, w1, op, st, en, tm_ch st ch t 4, ac, ar, ak, ad, sc, sa, sk, sd, wc, wk, wd)) : wpX_publishRefs post (s, k, w, op, st, en, ch, ac, ar, ak, ad, sc, sa, sk, sd, wc, wk, wd) (nI t) := by
  have loop : ∀ q c s1 k1 w1, c ≤ 4 → 4 - c < q → tm_PX P (tm_GP G st t N c) s1 k1 w1 → wX_publishRefs_2 post (nI t) q (nI c) s1 k1 w1 op st en (tm_ch st ch t c) ac ar ak ad sc sa sk sd wc wk wd := by
    intro q
    induction q with
    | zero => intro c s1 k1 w1 _ hm; omega
    | succ q ih =>
      intro c s1 k1 w1 h2 hm HX
      refine pk_le 4 c (fun hle => ?_) (fun hgt => ?_)
      · have : c = 4 := by omega
        subst this
        exact h s1 k1 w1 HX
      · have i1 : vp_in (nI (t * 4 + c)) 12 := vp_in_nI (by omega) (by omega)
        have ec : (nI (t * 4 + c)).toNatClampNeg = t * 4 + c := nI_clamp (by omega)
        refine nm_r (tm_r4 t c) ⟨i1, ?_⟩
        rw [ec]
        have ihn := ih (c + 1)
        refine br_c (fun e => nm_r (nI_1 c) ?_) (fun e => ?_)
        · rw [show tm_ch st ch t (c + 1) = tm_ch st ch t c from if_pos e] at ihn
          exact ihn s1 k1 w1 (by omega) (by omega) (tm_PX_of HX fun x hx => ⟨hx, tm_GP_z e⟩)
        · rw [show tm_ch st ch t (c + 1) = tm_mr (tm_ch st ch t c) c 3 from if_neg e] at ihn
          rw [tm_a22, tm_a4]
          refine tm_xCp (by omega) (by omega) HX (hPo c hgt e).1 (fun s2 k2 w2 H2 => ?_)
          refine tm_xMark hgt (nm_r (nI_1 c) (ihn s2 k2 w2 (by omega) (by omega) (tm_PX_of H2 fun x hx => ⟨Or.inl hx, ?_⟩)))
          rw [tm_GP_s e, tm_GP_n (q := 22 + (t * 4 + c)) (Or.inr (by omega)), (hPo c hgt e).2]
  exact ⟨5, loop 5 0 s k w (by omega) (by omega) (tm_PX_of H fun x hx => ⟨hx, tm_GP_0⟩)⟩
/-! the sends delivered -/
def tm_dw (sa wc : Nat → Int32) (t : Nat) : Nat → Nat → Int32
  | 0 => wc
  | j + 1 => upd (tm_dw sa wc t j) (sa (t * 6 + j)).toNatClampNeg (nI ((tm_dw sa wc t j (sa (t * 6 + j)).toNatClampNeg).toNatClampNeg + 1))
def tm_dk (sa wc sk wk : Nat → Int32) (t : Nat) : Nat → Nat → Int32
  | 0 => wk
  | j + 1 => upd (tm_dk sa wc sk wk t j) ((sa (t * 6 + j)).toNatClampNeg * 8 + (tm_dw sa wc t j (sa (t * 6 + j)).toNatClampNeg).toNatClampNeg) (sk (t * 6 + j))
theorem tm_dw_v {t c : Nat} (hs : ∀ j, j < c → ∃ g, g < 2 ∧ sa (t * 6 + j) = nI g) (hw : ∀ g, g < 2 → ∃ c, c ≤ 8 ∧ wc g = nI c) (hS : tm_S sa wc t c) (hc : c ≤ 6) : ∀ j, j ≤ c → ∀ g, g < 2 → tm_dw sa wc t j g = nI ((wc g).toNatClampNeg + tm_cs sa t g j) := by
  intro j
  induction j with
  | zero =>
    intro _ g hg
    obtain ⟨d, hd, e⟩ := hw g hg
    show wc g = _
    rw [e, nI_clamp (by omega)]
    rfl
  | succ j ih =>
    intro hj g hg
    obtain ⟨g', hg', e'⟩ := hs j (by omega)
    have e1 : (sa (t * 6 + j)).toNatClampNeg = g' := by rw [e', nI_clamp (by omega)]
    have b := hS g' hg'
    have m1 := tm_cs_mono (sa := sa) (t := t) (g := g') (show j ≤ c by omega)
    show upd (tm_dw sa wc t j) (sa (t * 6 + j)).toNatClampNeg (nI ((tm_dw sa wc t j (sa (t * 6 + j)).toNatClampNeg).toNatClampNeg + 1)) g = nI ((wc g).toNatClampNeg + (if sa (t * 6 + j) = nI g then tm_cs sa t g j + 1 else tm_cs sa t g j))
    rw [e1]
    by_cases z : g = g'
    · subst z
      rw [pk_us, if_pos e', ih (by omega) g hg, nI_clamp (by omega), Nat.add_assoc]
    · rw [pk_un z, if_neg (fun y => z ((nI_eq (by omega) (by omega)).mp (y.symm.trans e'))), ih (by omega) g hg]
theorem tm_dw_st {t c j : Nat} (hs : ∀ j, j < c → ∃ g, g < 2 ∧ sa (t * 6 + j) = nI g) (hw : ∀ g, g < 2 → ∃ c, c ≤ 8 ∧ wc g = nI c) (hS : tm_S sa wc t c) (hc : c ≤ 6) (hj : j < c) :
    ∃ g d, g < 2 ∧ d < 8 ∧ sa (t * 6 + j) = nI g ∧ tm_dw sa wc t j g = nI d ∧ tm_dw sa wc t (j + 1) = upd (tm_dw sa wc t j) g (nI (d + 1)) ∧ ∀ sk wk : Nat → Int32, tm_dk sa wc sk wk t (j + 1) = upd (tm_dk sa wc sk wk t j) (g * 8 + d) (sk (t * 6 + j)) := by
  obtain ⟨g, hg, e⟩ := hs j hj
  have e1 : (sa (t * 6 + j)).toNatClampNeg = g := by rw [e, nI_clamp (by omega)]
  have b := hS g hg
  have m1 := tm_cs_mono (sa := sa) (t := t) (g := g) (show j + 1 ≤ c by omega)
  rw [show tm_cs sa t g (j + 1) = tm_cs sa t g j + 1 from if_pos e] at m1
  have v := tm_dw_v hs hw hS hc j (by omega) g hg
  refine ⟨g, (wc g).toNatClampNeg + tm_cs sa t g j, hg, by omega, e, v, ?_, fun sk wk => ?_⟩
  · show upd (tm_dw sa wc t j) (sa (t * 6 + j)).toNatClampNeg (nI ((tm_dw sa wc t j (sa (t * 6 + j)).toNatClampNeg).toNatClampNeg + 1)) = _
    rw [e1, v, nI_clamp (by omega)]
  · show upd (tm_dk sa wc sk wk t j) ((sa (t * 6 + j)).toNatClampNeg * 8 + (tm_dw sa wc t j (sa (t * 6 + j)).toNatClampNeg).toNatClampNeg) (sk (t * 6 + j)) = _
    rw [e1, v, nI_clamp (by omega)]
theorem tm_xDel {post : SX → Prop} {s k w : Nat → Int32} {t c : Nat} (ht : t < 3) (hc : c ≤ 6) (ea : sc t = nI c) (hs : ∀ j, j < c → ∃ g, g < 2 ∧ sa (t * 6 + j) = nI g) (hw : ∀ g, g < 2 → ∃ c, c ≤ 8 ∧ wc g = nI c) (hS : tm_S sa wc t c)
    (h : post (s, k, w, op, st, en, ch, ac, ar, ak, ad, sc, sa, sk, sd, tm_dw sa wc t c, tm_dk sa wc sk wk t c, tm_dk sa wc sd wd t c)) : wpX_deliverSends post (s, k, w, op, st, en, ch, ac, ar, ak, ad, sc, sa, sk, sd, wc, wk, wd) (nI t) := by
  have loop : ∀ q j, j ≤ c → c - j < q → wX_deliverSends_15 post (nI (t * 6)) (nI c) q (nI (t * 6 + j)) s k w op st en ch ac ar ak ad sc sa sk sd (tm_dw sa wc t j) (tm_dk sa wc sk wk t j) (tm_dk sa wc sd wd t j) := by
    intro q
    induction q with
    | zero => intro j _ hm; omega
    | succ q ih =>
      intro j h2 hm
      refine pk_le (t * 6 + c) (t * 6 + j) (fun hle => ?_) (fun hgt => ?_) (nI_add _ _)
      · have : j = c := by omega
        subst this
        exact h
      · have i1 : vp_in (nI (t * 6 + j)) 18 := vp_in_nI (by omega) (by omega)
        have ec : (nI (t * 6 + j)).toNatClampNeg = t * 6 + j := nI_clamp (by omega)
        obtain ⟨g, d, hg, hd, e, ed, x1, x2⟩ := tm_dw_st hs hw hS hc (show j < c by omega)
        refine ⟨i1, i1, i1, ?_⟩
        rw [ec, e]
        have ihn := ih (j + 1) (by omega) (by omega)
        rw [x1, x2, x2] at ihn
        exact tm_xJoin hg hd ed (nm_r (nI_1 (t * 6 + j)) ihn)
  exact nm_r (pk_mul t 6) ⟨vp_in_nI ht (by omega), nm_r (e' := nI c) (by rw [nI_clamp (by omega), ea]) ⟨c + 1, loop (c + 1) 0 (by omega) (by omega)⟩⟩
end
end
end
section
section
theorem tm_a35 (r : Nat) : 35 + nI r = nI (35 + r) := nI_add 35 r
section
variable {op st en ch ac ar ak ad sc sa sk sd wc wk wd : Nat → Int32}
theorem tm_yCnt {post : Int32 → SY → Prop} {J : Int32 → Prop} {s k w : Nat → Int32} {t g c d : Nat} (ht : t < 3) (hc : c ≤ 6) (ea : sc t = nI c) (hd : d ≤ 8) (h1 : d + tm_cs sa t g c ≤ 8 → J (nI (g + 1))) (h0 : ¬ d + tm_cs sa t g c ≤ 8 → post (-2) (k, w, s, op, st, en, ch, ar, ak, ad, ac, sa, sk, sd, sc, wk, wd, wc)) :
    ∃ q, wY_verdict_151 post J (nI t) (nI g) k w s op st en ch ar ak ad ac sa sk sd sc wk wd wc q (nI d) (nI (t * 6)) := by
  have loop : ∀ q j, j ≤ c → c - j < q → wY_verdict_151 post J (nI t) (nI g) k w s op st en ch ar ak ad ac sa sk sd sc wk wd wc q (nI (d + tm_cs sa t g j)) (nI (t * 6 + j)) := by
    intro q
    induction q with
    | zero => intro j _ hm; omega
    | succ q ih =>
      intro j h2 hm
      have hcs : tm_cs sa t g j ≤ j := tm_cs_le j
      refine ⟨vp_in_nI ht (by omega), pk_le (t * 6 + c) (t * 6 + j) (fun hle => ?_) (fun hgt => ?_) (by rw [nI_clamp (by omega), ea, tm_r6])⟩
      · have : j = c := by omega
        subst this
        exact pk_le (d + tm_cs sa t g j) 8 (fun x => nm_r (nI_1 g) (h1 x)) (fun x => h0 (by omega))
      · have ec : (nI (t * 6 + j)).toNatClampNeg = t * 6 + j := nI_clamp (by omega)
        refine ⟨vp_in_nI (by omega) (by omega), ?_⟩
        rw [ec]
        have ihn := ih (j + 1) (by omega) (by omega)
        refine br_c (fun e => nm_r (nI_1 _) (nm_r (nI_1 (t * 6 + j)) ?_)) (fun e => nm_r (nI_1 (t * 6 + j)) ?_)
        · rw [show tm_cs sa t g (j + 1) = tm_cs sa t g j + 1 from if_pos e] at ihn
          exact ihn
        · rw [show tm_cs sa t g (j + 1) = tm_cs sa t g j from if_neg e] at ihn
          exact ihn
  exact ⟨c + 1, loop (c + 1) 0 (by omega) (by omega)⟩
theorem tm_yFit {post : Int32 → SY → Prop} {s k w : Nat → Int32} {t c : Nat} (ht : t < 3) (hc : c ≤ 6) (ea : sc t = nI c) (hw : ∀ g, g < 2 → ∃ c, c ≤ 8 ∧ wc g = nI c) (h1 : tm_S sa wc t c → post 1 (k, w, s, op, st, en, ch, ar, ak, ad, ac, sa, sk, sd, sc, wk, wd, wc)) (h0 : ¬ tm_S sa wc t c → post (-2) (k, w, s, op, st, en, ch, ar, ak, ad, ac, sa, sk, sd, sc, wk, wd, wc)) :
    ∃ q, wY_verdict_133 post (nI t) k w s op st en ch ar ak ad ac sa sk sd sc wk wd wc q 0 := by
  have loop : ∀ q g, g ≤ 2 → 2 - g < q → (∀ i, i < g → (wc i).toNatClampNeg + tm_cs sa t i c ≤ 8) → wY_verdict_133 post (nI t) k w s op st en ch ar ak ad ac sa sk sd sc wk wd wc q (nI g) := by
    intro q
    induction q with
    | zero => intro j _ hm; omega
    | succ q ih =>
      intro g h2 hm hh
      refine pk_le 2 g (fun hle => ?_) (fun hgt => ?_)
      · exact h1 fun i hi => hh i (by omega)
      · obtain ⟨d, hd, e⟩ := hw g hgt
        have ed : (wc g).toNatClampNeg = d := by rw [e, nI_clamp (by omega)]
        refine ⟨vp_in_nI hgt (by omega), nm_r (e' := nI d) (by rw [nI_clamp (by omega), e]) (nm_r (pk_mul t 6) ?_)⟩
        refine tm_yCnt ht hc ea hd (fun hle => ih (g + 1) (by omega) (by omega) fun i hi => ?_) (fun hgt2 => h0 fun z => ?_)
        · by_cases z : i = g
          · subst z; rw [ed]; exact hle
          · exact hh i (by omega)
        · have := z g hgt
          rw [ed] at this
          exact hgt2 this
  exact ⟨3, loop 3 0 (by omega) (by omega) fun i hi => absurd hi (Nat.not_lt_zero i)⟩
def tm_GY (G : Nat → Int32 → Option Int32) (M : Nat → Int32 → Option Int32) : Nat → Int32 → Option Int32 := fun q => if 35 ≤ q then M (q - 35) else G q
theorem tm_GY_s {G : Nat → Int32 → Option Int32} {M : Nat → Int32 → Option Int32} {r : Nat} : tm_GY G M (35 + r) = M r := by
  unfold tm_GY
  rw [if_pos (by omega), show 35 + r - 35 = r by omega]
theorem tm_GY_n {G : Nat → Int32 → Option Int32} {M : Nat → Int32 → Option Int32} {q : Nat} (h : q < 35) : tm_GY G M q = G q := if_neg (by omega)
theorem tm_yAnew2 {post : Int32 → SY → Prop} {P : Nat → Prop} {G : Nat → Int32 → Option Int32} {s k w : Nat → Int32} {t c c6 : Nat} (ht : t < 3) (hc : c ≤ 8) (ea : ac t = nI c) (hr : ∀ j, j < c → ∃ r, r < 4 ∧ ar (t * 8 + j) = nI r ∧ st (t * 4 + r) = 2)
    (hP35 : ∀ q, P q → q < 35) (hc6 : c6 ≤ 6) (es : sc t = nI c6) (hw : ∀ g, g < 2 → ∃ c, c ≤ 8 ∧ wc g = nI c)
    (H : tm_PY (fun q => P q ∨ (35 ≤ q ∧ q < 39)) (tm_GY G (tm_M G t ar ak ad 0)) s k w)
    (h1 : ¬ tm_Fl G t ar ak ad c → tm_S sa wc t c6 → ∀ s1 k1 w1, tm_PY (fun q => P q ∨ (35 ≤ q ∧ q < 39)) (tm_GY G (tm_M G t ar ak ad c)) s1 k1 w1 → post 1 (k1, w1, s1, op, st, en, ch, ar, ak, ad, ac, sa, sk, sd, sc, wk, wd, wc))
    (h0 : (tm_Fl G t ar ak ad c ∨ ¬ tm_S sa wc t c6) → ∀ s1 k1 w1, tm_PY P G s1 k1 w1 → post (-2) (k1, w1, s1, op, st, en, ch, ar, ak, ad, ac, sa, sk, sd, sc, wk, wd, wc)) : ∃ q, wY_verdict_79 post (nI t) q (nI (t * 8)) k w s op st en ch ar ak ad ac sa sk sd sc wk wd wc := by
  have back : ∀ j s1 k1 w1, tm_PY (fun q => P q ∨ (35 ≤ q ∧ q < 39)) (tm_GY G (tm_M G t ar ak ad j)) s1 k1 w1 → tm_PY P G s1 k1 w1 := fun j s1 k1 w1 h =>
    tm_PY_of h fun x hx => ⟨Or.inl hx, (tm_GY_n (hP35 x hx)).symm⟩
  have loop : ∀ q j s1 k1 w1, j ≤ c → c - j < q → ¬ tm_Fl G t ar ak ad j → tm_PY (fun q => P q ∨ (35 ≤ q ∧ q < 39)) (tm_GY G (tm_M G t ar ak ad j)) s1 k1 w1 → wY_verdict_79 post (nI t) q (nI (t * 8 + j)) k1 w1 s1 op st en ch ar ak ad ac sa sk sd sc wk wd wc := by
    intro q
    induction q with
    | zero => intro j s1 k1 w1 _ hm; omega
    | succ q ih =>
      intro j s1 k1 w1 h2 hm hF HY
      refine ⟨vp_in_nI ht (by omega), pk_le (t * 8 + c) (t * 8 + j) (fun hle => ?_) (fun hgt => ?_) (by rw [nI_clamp (by omega), ea, tm_r8])⟩
      · have : j = c := by omega
        subst this
        exact tm_yFit ht hc6 es hw (fun hS => h1 hF hS s1 k1 w1 HY) (fun hS => h0 (Or.inr hS) s1 k1 w1 (back _ _ _ _ HY))
      · have i1 : vp_in (nI (t * 8 + j)) 24 := vp_in_nI (by omega) (by omega)
        have ec : (nI (t * 8 + j)).toNatClampNeg = t * 8 + j := nI_clamp (by omega)
        obtain ⟨r, hr4, er, _⟩ := hr j (by omega)
        have hP : P (35 + r) ∨ (35 ≤ 35 + r ∧ 35 + r < 39) := Or.inr ⟨by omega, by omega⟩
        refine ⟨i1, i1, i1, ?_⟩
        rw [ec, er, tm_a35]
        refine tm_yAj (by omega) HY hP (fun s2 k2 w2 H2 => br_f tm_10 ?_) (fun hov => br_t rfl ?_)
        · rw [tm_GY_s, ← tm_M_s er] at H2
          refine nm_r (nI_1 _) (ih (j + 1) s2 k2 w2 (by omega) (by omega) (tm_Fl_1 hF hr4 er fun hov => tm_noY H2 hP tm_gu_s hov) (tm_PY_of H2 fun x hx => ⟨hx, ?_⟩))
          by_cases z : x = 35 + r
          · subst z; rw [tm_gu_s]; exact tm_GY_s
          · rw [tm_gu_n z]
            unfold tm_GY
            by_cases y : 35 ≤ x
            · rw [if_pos y, if_pos y]
              have hx39 : x < 39 := hx.elim (fun q => by have := hP35 x q; omega) (fun q => q.2)
              exact tm_M_n er hr4 (by omega) (by omega)
            · rw [if_neg y, if_neg y]
        · rw [tm_GY_s, ← tm_M_s er] at hov
          exact h0 (Or.inl ⟨j, by omega, r, hr4, er, hov⟩) s1 k1 w1 (back _ _ _ _ HY)
  exact ⟨c + 1, loop (c + 1) 0 s k w (by omega) (by omega) tm_Fl_0 H⟩
theorem tm_yAnew {post : Int32 → SY → Prop} {P : Nat → Prop} {G : Nat → Int32 → Option Int32} {s k w : Nat → Int32} {t c c6 : Nat} (ht : t < 3) (hc : c ≤ 8) (ea : ac t = nI c) (hr : ∀ j, j < c → ∃ r, r < 4 ∧ ar (t * 8 + j) = nI r ∧ st (t * 4 + r) = 2)
    (hPq : ∀ q, q < 22 → P q) (hP35 : ∀ q, P q → q < 35) (hc6 : c6 ≤ 6) (es : sc t = nI c6) (hw : ∀ g, g < 2 → ∃ c, c ≤ 8 ∧ wc g = nI c)
    (H : tm_PY P G s k w)
    (h1 : ¬ tm_Fl G t ar ak ad c → tm_S sa wc t c6 → ∀ s1 k1 w1, tm_PY (fun q => P q ∨ (35 ≤ q ∧ q < 39)) (tm_GY G (tm_M G t ar ak ad c)) s1 k1 w1 → post 1 (k1, w1, s1, op, st, en, ch, ar, ak, ad, ac, sa, sk, sd, sc, wk, wd, wc))
    (h0 : (tm_Fl G t ar ak ad c ∨ ¬ tm_S sa wc t c6) → ∀ s1 k1 w1, tm_PY P G s1 k1 w1 → post (-2) (k1, w1, s1, op, st, en, ch, ar, ak, ad, ac, sa, sk, sd, sc, wk, wd, wc)) : ∃ q, wY_verdict_52 post (nI t) q 0 k w s op st en ch ar ak ad ac sa sk sd sc wk wd wc := by
  have loop : ∀ q m s1 k1 w1, m ≤ 4 → 4 - m < q → tm_PY (fun q => P q ∨ (35 ≤ q ∧ q < 35 + m)) (tm_GY G (tm_M G t ar ak ad 0)) s1 k1 w1 → wY_verdict_52 post (nI t) q (nI m) k1 w1 s1 op st en ch ar ak ad ac sa sk sd sc wk wd wc := by
    intro q
    induction q with
    | zero => intro m s1 k1 w1 _ hm; omega
    | succ q ih =>
      intro m s1 k1 w1 h2 hm HY
      refine pk_le 4 m (fun hle => ?_) (fun hgt => ?_)
      · have : m = 4 := by omega
        subst this
        exact nm_r (pk_mul t 8) (tm_yAnew2 ht hc ea hr hP35 hc6 es hw HY h1 h0)
      · rw [tm_a4, tm_a35]
        refine tm_yCp (by omega) (by omega) HY (Or.inl (hPq _ (by omega))) (fun s2 k2 w2 H2 => nm_r (nI_1 m) (ih (m + 1) s2 k2 w2 (by omega) (by omega) (tm_PY_of H2 fun x hx => ⟨?_, ?_⟩)))
        · rcases hx with hx | hx
          · exact Or.inl (Or.inl hx)
          · by_cases z : x = 35 + m
            · exact Or.inr z
            · exact Or.inl (Or.inr ⟨hx.1, by omega⟩)
        · by_cases z : x = 35 + m
          · subst z
            rw [tm_gu_s, tm_GY_s, tm_GY_n (by omega)]
            rfl
          · rw [tm_gu_n z]
  refine ⟨5, loop 5 0 s k w (by omega) (by omega) (tm_PY_of H fun x hx => ?_)⟩
  have hx' : P x := hx.elim id fun q => by omega
  exact ⟨hx', tm_GY_n (hP35 x hx')⟩
theorem tm_yVerd {post : Int32 → SY → Prop} {P : Nat → Prop} {G : Nat → Int32 → Option Int32} {s k w : Nat → Int32} {t c c6 : Nat} (ht : t < 3) (hc : c ≤ 8) (ea : ac t = nI c) (hr : ∀ j, j < c → ∃ r, r < 4 ∧ ar (t * 8 + j) = nI r ∧ st (t * 4 + r) = 2)
    (hPq : ∀ q, q < 22 → P q) (hP35 : ∀ q, P q → q < 35) (hc6 : c6 ≤ 6) (es : sc t = nI c6) (hw : ∀ g, g < 2 → ∃ c, c ≤ 8 ∧ wc g = nI c)
    (H : tm_PY P G s k w) (hcf : tm_cf st en ch t → post (-3) (k, w, s, op, st, en, ch, ar, ak, ad, ac, sa, sk, sd, sc, wk, wd, wc))
    (h1 : ¬ tm_cf st en ch t → ¬ tm_Fl G t ar ak ad c → tm_S sa wc t c6 → ∀ s1 k1 w1, tm_PY (fun q => P q ∨ (35 ≤ q ∧ q < 39)) (tm_GY G (tm_M G t ar ak ad c)) s1 k1 w1 → post 1 (k1, w1, s1, op, st, en, ch, ar, ak, ad, ac, sa, sk, sd, sc, wk, wd, wc))
    (h0 : ¬ tm_cf st en ch t → (tm_Fl G t ar ak ad c ∨ ¬ tm_S sa wc t c6) → ∀ s1 k1 w1, tm_PY P G s1 k1 w1 → post (-2) (k1, w1, s1, op, st, en, ch, ar, ak, ad, ac, sa, sk, sd, sc, wk, wd, wc)) : wpY_verdict post (k, w, s, op, st, en, ch, ar, ak, ad, ac, sa, sk, sd, sc, wk, wd, wc) (nI t) := by
  have loop : ∀ q m, m ≤ 4 → 4 - m < q → (∀ i, i < m → ¬ (ch (t * 4 + i) ≠ 0 ∧ (st (t * 4 + i) = 1 ∨ en (t * 4 + i) ≠ 0))) → wY_verdict_4 post (nI t) k w s op st en ch ar ak ad ac sa sk sd sc wk wd wc q (nI (t * 4 + m)) := by
    intro q
    induction q with
    | zero => intro m _ hm; omega
    | succ q ih =>
      intro m h2 hm hn
      refine pk_le (t * 4 + 4) (t * 4 + m) (fun hle => ?_) (fun hgt => ?_) (tm_r4 t 4)
      · have : m = 4 := by omega
        subst this
        have hno : ¬ tm_cf st en ch t := by
          intro z
          obtain ⟨i, hi, a⟩ := z
          exact hn i hi a
        exact tm_yAnew ht hc ea hr hPq hP35 hc6 es hw H (h1 hno) (h0 hno)
      · have i1 : vp_in (nI (t * 4 + m)) 12 := vp_in_nI (by omega) (by omega)
        have ec : (nI (t * 4 + m)).toNatClampNeg = t * 4 + m := nI_clamp (by omega)
        have next : ¬ (ch (t * 4 + m) ≠ 0 ∧ (st (t * 4 + m) = 1 ∨ en (t * 4 + m) ≠ 0)) → wY_verdict_4 post (nI t) k w s op st en ch ar ak ad ac sa sk sd sc wk wd wc q (nI (t * 4 + (m + 1))) := by
          intro hc
          refine ih (m + 1) (by omega) (by omega) fun i hi => ?_
          by_cases z : i = m
          · subst z; exact hc
          · exact hn i (by omega)
        refine ⟨i1, br_c (fun a => nm_r (nI_1 (t * 4 + m)) (next ?_)) (fun a => ⟨i1, br_c (fun b => hcf ?_) (fun b => ⟨i1, br_c (fun d => nm_r (nI_1 (t * 4 + m)) (next ?_)) (fun d => hcf ?_)⟩)⟩)⟩
        · rw [ec] at a; exact fun y => y.1 a
        · rw [ec] at a b; exact ⟨m, by omega, a, Or.inl b⟩
        · rw [ec] at b d; exact fun y => y.2.elim b (fun x => x d)
        · rw [ec] at a d; exact ⟨m, by omega, a, Or.inr d⟩
  exact nm_r (e' := nI (t * 4 + 0)) (pk_mul t 4) ⟨5, loop 5 0 (by omega) (by omega) fun i hi => absurd hi (Nat.not_lt_zero i)⟩
theorem tm_yMark {post : Int32 → SY → Prop} {J : Int32 → (Nat → Int32) → (Nat → Int32) → (Nat → Int32) → (Nat → Int32) → (Nat → Int32) → (Nat → Int32) → (Nat → Int32) → (Nat → Int32) → (Nat → Int32) → (Nat → Int32) → (Nat → Int32) → (Nat → Int32) → (Nat → Int32) → (Nat → Int32) → (Nat → Int32) → (Nat → Int32) → (Nat → Int32) → (Nat → Int32) → Prop} {s k w : Nat → Int32} {x1 : Int32} {r : Nat} (hr : r < 4) (h : J (nI (r + 1)) k w s op st en (tm_mr ch r 3) ar ak ad ac sa sk sd sc wk wd wc) : ∃ q, wY_finish_122 post J x1 (nI r) q 0 k w s op st en ch ar ak ad ac sa sk sd sc wk wd wc := by
  have loop : ∀ q m, m ≤ 3 → 3 - m < q → wY_finish_122 post J x1 (nI r) q (nI m) k w s op st en (tm_mr ch r m) ar ak ad ac sa sk sd sc wk wd wc := by
    intro q
    induction q with
    | zero => intro j _ hm; omega
    | succ q ih =>
      intro m h2 hm
      refine pk_le 3 m (fun hle => ?_) (fun hgt => ?_)
      · have : m = 3 := by omega
        subst this
        exact nm_r (nI_1 r) h
      · exact ⟨pk_in (m * 4 + r) 12 (by omega) (tm_r4 m r), nm_r (e' := tm_mr ch r (m + 1)) (by rw [tm_r4, nI_clamp (by omega)]; rfl) (nm_r (nI_1 m) (ih (m + 1) (by omega) (by omega)))⟩
  exact ⟨4, loop 4 0 (by omega) (by omega)⟩
theorem tm_yDel {post : Int32 → SY → Prop} {s k w : Nat → Int32} {t c : Nat} (ht : t < 3) (hc : c ≤ 6) (ea : sc t = nI c) (hs : ∀ j, j < c → ∃ g, g < 2 ∧ sa (t * 6 + j) = nI g) (hw : ∀ g, g < 2 → ∃ c, c ≤ 8 ∧ wc g = nI c) (hS : tm_S sa wc t c)
    (h : post 1 (k, w, s, op, st, en, ch, ar, ak, ad, ac, sa, sk, sd, sc, tm_dk sa wc sk wk t c, tm_dk sa wc sd wd t c, tm_dw sa wc t c)) : ∃ q, wY_finish_156 post (nI t) q 0 k w s op st en ch ar ak ad ac sa sk sd sc wk wd wc := by
  have loop : ∀ q j, j ≤ c → c - j < q → wY_finish_156 post (nI t) q (nI j) k w s op st en ch ar ak ad ac sa sk sd sc (tm_dk sa wc sk wk t j) (tm_dk sa wc sd wd t j) (tm_dw sa wc t j) := by
    intro q
    induction q with
    | zero => intro j _ hm; omega
    | succ q ih =>
      intro j h2 hm
      refine ⟨vp_in_nI ht (by omega), pk_le c j (fun hle => ?_) (fun hgt => ?_) (by rw [nI_clamp (by omega), ea])⟩
      · have : j = c := by omega
        subst this
        exact h
      · have i1 : vp_in (nI (t * 6 + j)) 18 := vp_in_nI (by omega) (by omega)
        have ec : (nI (t * 6 + j)).toNatClampNeg = t * 6 + j := nI_clamp (by omega)
        obtain ⟨g, d, hg, hd, e, ed, x1, x2⟩ := tm_dw_st hs hw hS hc (show j < c by omega)
        refine nm_r (tm_r6 t j) ⟨i1, i1, i1, ?_⟩
        rw [ec, e]
        have ihn := ih (j + 1) (by omega) (by omega)
        rw [x1, x2, x2] at ihn
        exact tm_yEnq hg hd ed (nm_r (nI_1 j) ihn)
  exact ⟨c + 1, loop (c + 1) 0 (by omega) (by omega)⟩
theorem tm_yPub {post : Int32 → SY → Prop} {P : Nat → Prop} {G : Nat → Int32 → Option Int32} {s k w : Nat → Int32} {t : Nat} {N : Nat → Int32 → Option Int32} (ht : t < 3) (hst : ∀ r, r < 4 → st (t * 4 + r) = 0 ∨ st (t * 4 + r) = 1 ∨ st (t * 4 + r) = 2)
    (hPo : ∀ r, r < 4 → st (t * 4 + r) = 1 → P (22 + (t * 4 + r)) ∧ G (22 + (t * 4 + r)) = N r) (hPa : ∀ r, r < 4 → st (t * 4 + r) = 2 → P (35 + r) ∧ G (35 + r) = N r)
    (H : tm_PY P G s k w) (h : ∀ s1 k1 w1, tm_PY P (tm_GP G st t N 4) s1 k1 w1 → ∃ q, wY_finish_156 post (nI t) q 0 k1 w1 s1 op st en (tm_ch st ch t 4) ar ak ad ac sa sk sd sc wk wd wc) : ∃ q, wY_finish_39 post (nI t) q 0 k w s op st en ch ar ak ad ac sa sk sd sc wk wd wc := by
  have loop : ∀ q c s1 k1 w1, c ≤ 4 → 4 - c < q → tm_PY P (tm_GP G st t N c) s1 k1 w1 → wY_finish_39 post (nI t) q (nI c) k1 w1 s1 op st en (tm_ch st ch t c) ar ak ad ac sa sk sd sc wk wd wc := by
    intro q
    induction q with
    | zero => intro c s1 k1 w1 _ hm; omega
    | succ q ih =>
      intro c s1 k1 w1 h2 hm HY
      refine pk_le 4 c (fun hle => ?_) (fun hgt => ?_)
      · have : c = 4 := by omega
        subst this
        exact h s1 k1 w1 HY
      · have i1 : vp_in (nI t * 4 + nI c) 12 := pk_in (t * 4 + c) 12 (by omega) (tm_r4 t c)
        have ec : (nI t * 4 + nI c).toNatClampNeg = t * 4 + c := by rw [tm_r4, nI_clamp (by omega)]
        have ihn := ih (c + 1)
        have n1 : ∀ x : Int32, st (t * 4 + c) ≠ x → ¬ st (nI t * 4 + nI c).toNatClampNeg = x := fun x hx => by rw [ec]; exact hx
        have y1 : ∀ x : Int32, st (t * 4 + c) = x → st (nI t * 4 + nI c).toNatClampNeg = x := fun x hx => by rw [ec]; exact hx
        rcases hst c hgt with e | e | e
        · rw [show tm_ch st ch t (c + 1) = tm_ch st ch t c from if_pos e] at ihn
          refine ⟨i1, br_f (n1 1 (by rw [e]; decide)) ⟨i1, br_f (n1 2 (by rw [e]; decide)) ⟨i1, br_t (y1 0 e) (nm_r (nI_1 c) ?_)⟩⟩⟩
          exact ihn s1 k1 w1 (by omega) (by omega) (tm_PY_of HY fun x hx => ⟨hx, tm_GP_z e⟩)
        · have e0 : st (t * 4 + c) ≠ 0 := by rw [e]; decide
          rw [show tm_ch st ch t (c + 1) = tm_mr (tm_ch st ch t c) c 3 from if_neg e0] at ihn
          refine ⟨i1, br_t (y1 1 e) ?_⟩
          rw [tm_b22, tm_a4]
          refine tm_yCp (by omega) (by omega) HY (hPo c hgt e).1 (fun s2 k2 w2 H2 => ?_)
          refine ⟨i1, br_f (n1 2 (by rw [e]; decide)) ⟨i1, br_f (n1 0 e0) ?_⟩⟩
          refine tm_yMark hgt (ihn s2 k2 w2 (by omega) (by omega) (tm_PY_of H2 fun x hx => ⟨Or.inl hx, ?_⟩))
          rw [tm_GP_s e0, tm_GP_n (q := 22 + (t * 4 + c)) (Or.inr (by omega)), (hPo c hgt e).2]
        · have e0 : st (t * 4 + c) ≠ 0 := by rw [e]; decide
          rw [show tm_ch st ch t (c + 1) = tm_mr (tm_ch st ch t c) c 3 from if_neg e0] at ihn
          refine ⟨i1, br_f (n1 1 (by rw [e]; decide)) ⟨i1, br_t (y1 2 e) ?_⟩⟩
          rw [tm_a35, tm_a4]
          refine tm_yCp (by omega) (by omega) HY (hPa c hgt e).1 (fun s2 k2 w2 H2 => ?_)
          refine ⟨i1, br_f (n1 0 e0) ?_⟩
          refine tm_yMark hgt (ihn s2 k2 w2 (by omega) (by omega) (tm_PY_of H2 fun x hx => ⟨Or.inl hx, ?_⟩))
          rw [tm_GP_s e0, tm_GP_n (q := 35 + c) (Or.inr (by omega)), (hPa c hgt e).2]
  exact ⟨5, loop 5 0 s k w (by omega) (by omega) (tm_PY_of H fun x hx => ⟨hx, tm_GP_0⟩)⟩
end
/-! finish as a whole -/
theorem tm_n0 : vp_nar .boolean 0 = 0 := rfl
def tm_N (G : Nat → Int32 → Option Int32) (st : Nat → Int32) (t : Nat) (M : Nat → Int32 → Option Int32) : Nat → Int32 → Option Int32 := fun r => if st (t * 4 + r) = 2 then M r else G (22 + (t * 4 + r))
section
variable {op st en ch ac ar ak ad sc sa sk sd wc wk wd : Nat → Int32}
theorem tm_P_cl {t : Nat} (q : Nat) (h : tm_P (upd op t (vp_nar .boolean 0)) st q) : tm_P op st q ∧ (q < 22 + t * 4 ∨ 22 + (t * 4 + 4) ≤ q) := by
  rcases h with h | ⟨h1, h2, h3, h4⟩
  · exact ⟨Or.inl h, Or.inl (by omega)⟩
  · have hne : (q - 22) / 4 ≠ t := by
      intro z
      apply h3
      rw [z, pk_us]
      exact tm_n0
    rw [pk_un hne] at h3
    exact ⟨Or.inr ⟨h1, h2, h3, h4⟩, by omega⟩
theorem tm_xFin {post : Int32 → SX → Prop} {G : Nat → Int32 → Option Int32} {s k w : Nat → Int32} {t c c6 : Nat} {b : Int32} (ht : t < 3) (ho : op t ≠ 0) (hb : b ≠ 0) (hQ : tm_Q st ac ar sc sa wc) (hc : c ≤ 8) (ea : ac t = nI c) (hr : ∀ j, j < c → ∃ r, r < 4 ∧ ar (t * 8 + j) = nI r ∧ st (t * 4 + r) = 2)
    (hc6 : c6 ≤ 6) (es : sc t = nI c6) (hs : ∀ j, j < c6 → ∃ g, g < 2 ∧ sa (t * 6 + j) = nI g) (H : tm_PX (tm_P op st) G s k w)
    (hcf : tm_cf st en ch t → post (-3) (s, k, w, upd op t (vp_nar .boolean 0), st, en, ch, ac, ar, ak, ad, sc, sa, sk, sd, wc, wk, wd))
    (h0 : ¬ tm_cf st en ch t → (tm_Fl G t ar ak ad c ∨ ¬ tm_S sa wc t c6) → ∀ s1 k1 w1, tm_PX (tm_P (upd op t (vp_nar .boolean 0)) st) G s1 k1 w1 → post (-2) (s1, k1, w1, upd op t (vp_nar .boolean 0), st, en, ch, ac, ar, ak, ad, sc, sa, sk, sd, wc, wk, wd))
    (h1 : ¬ tm_cf st en ch t → ¬ tm_Fl G t ar ak ad c → tm_S sa wc t c6 → ∀ s1 k1 w1, tm_PX (tm_P (upd op t (vp_nar .boolean 0)) st) (tm_GP G st t (tm_N G st t (tm_M G t ar ak ad c)) 4) s1 k1 w1 →
      post 1 (s1, k1, w1, upd op t (vp_nar .boolean 0), st, en, tm_ch st ch t 4, ac, ar, ak, ad, sc, sa, sk, sd, tm_dw sa wc t c6, tm_dk sa wc sk wk t c6, tm_dk sa wc sd wd t c6)) : wpX_finish post (s, k, w, op, st, en, ch, ac, ar, ak, ad, sc, sa, sk, sd, wc, wk, wd) (nI t) b := by
  unfold wpX_finish
  have hPq : ∀ q, q < 22 → tm_P op st q := fun q hq => Or.inl hq
  have hPo : ∀ r, r < 4 → st (t * 4 + r) ≠ 0 → tm_P op st (22 + (t * 4 + r)) := fun r hr4 hs => tm_P_own ht hr4 ho hs
  refine tm_xO1 ht ho (br_f tm_10 ⟨vp_in_nI ht (by omega), nm_r (e' := upd op t (vp_nar .boolean 0)) (by rw [nI_clamp (by omega)]) (br_f hb ?_)⟩)
  refine tm_xConf ht (fun hC => br_f tm_10 (hcf hC)) (fun hC => br_t rfl ?_)
  refine tm_xAnew ht hc ea hr hPq hPo tm_P_cl H (fun hF s1 k1 w1 H1 => br_f tm_10 ?_) (fun hF s1 k1 w1 H1 => br_t rfl (h0 hC (Or.inl hF) s1 k1 w1 H1))
  refine tm_xFit ht hc6 es hQ.2.2.2 (fun hS => br_f tm_10 ?_) (fun hS => br_t rfl (h0 hC (Or.inr hS) s1 k1 w1 ?_))
  · refine tm_xPub (N := tm_N G st t (tm_M G t ar ak ad c)) ht hPq (fun r hr4 hs => ⟨hPo r hr4 hs, ?_⟩) H1 (fun s2 k2 w2 H2 => ?_)
    · unfold tm_N
      by_cases z : st (t * 4 + r) = 2
      · rw [if_pos z]; exact tm_GX_s hr4 z
      · rw [if_neg z]
        refine tm_GX_n (Or.inr (Or.inr ?_))
        rw [show 22 + (t * 4 + r) - 22 = t * 4 + r by omega]
        exact z
    · refine tm_xDel ht hc6 es hs hQ.2.2.2 hS (h1 hC hF hS s2 k2 w2 (tm_PX_of H2 fun q hq => ⟨(tm_P_cl q hq).1, ?_⟩))
      unfold tm_GP
      by_cases y : 4 ≤ q ∧ q < 4 + 4 ∧ st (t * 4 + (q - 4)) ≠ 0
      · rw [if_pos y, if_pos y]
      · rw [if_neg y, if_neg y]
        exact (tm_GX_n ((tm_P_cl q hq).2.elim Or.inl fun y => Or.inr (Or.inl y))).symm
  · refine tm_PX_of H1 fun q hq => ⟨(tm_P_cl q hq).1, ?_⟩
    exact (tm_GX_n ((tm_P_cl q hq).2.elim Or.inl fun y => Or.inr (Or.inl y))).symm
theorem tm_yFin {post : Int32 → SY → Prop} {G : Nat → Int32 → Option Int32} {s k w : Nat → Int32} {t c c6 : Nat} {b : Int32} (ht : t < 3) (ho : op t ≠ 0) (hb : b ≠ 0) (hQ : tm_Q st ac ar sc sa wc) (hc : c ≤ 8) (ea : ac t = nI c) (hr : ∀ j, j < c → ∃ r, r < 4 ∧ ar (t * 8 + j) = nI r ∧ st (t * 4 + r) = 2)
    (hc6 : c6 ≤ 6) (es : sc t = nI c6) (hs : ∀ j, j < c6 → ∃ g, g < 2 ∧ sa (t * 6 + j) = nI g) (H : tm_PY (tm_P op st) G s k w)
    (hcf : tm_cf st en ch t → post (-3) (k, w, s, upd op t (vp_nar .boolean 0), st, en, ch, ar, ak, ad, ac, sa, sk, sd, sc, wk, wd, wc))
    (h0 : ¬ tm_cf st en ch t → (tm_Fl G t ar ak ad c ∨ ¬ tm_S sa wc t c6) → ∀ s1 k1 w1, tm_PY (tm_P (upd op t (vp_nar .boolean 0)) st) G s1 k1 w1 → post (-2) (k1, w1, s1, upd op t (vp_nar .boolean 0), st, en, ch, ar, ak, ad, ac, sa, sk, sd, sc, wk, wd, wc))
    (h1 : ¬ tm_cf st en ch t → ¬ tm_Fl G t ar ak ad c → tm_S sa wc t c6 → ∀ s1 k1 w1, tm_PY (tm_P (upd op t (vp_nar .boolean 0)) st) (tm_GP G st t (tm_N G st t (tm_M G t ar ak ad c)) 4) s1 k1 w1 →
      post 1 (k1, w1, s1, upd op t (vp_nar .boolean 0), st, en, tm_ch st ch t 4, ar, ak, ad, ac, sa, sk, sd, sc, tm_dk sa wc sk wk t c6, tm_dk sa wc sd wd t c6, tm_dw sa wc t c6)) : wpY_finish post (k, w, s, op, st, en, ch, ar, ak, ad, ac, sa, sk, sd, sc, wk, wd, wc) (nI t) b := by
  unfold wpY_finish
  have hPq : ∀ q, q < 22 → tm_P op st q := fun q hq => Or.inl hq
  have hP35 : ∀ q, tm_P op st q → q < 35 := fun q hq => hq.elim (fun x => by omega) (fun x => by omega)
  have hPo : ∀ r, r < 4 → st (t * 4 + r) ≠ 0 → tm_P op st (22 + (t * 4 + r)) := fun r hr4 hs => tm_P_own ht hr4 ho hs
  refine tm_yO1 ht ho (br_f tm_10 ⟨vp_in_nI ht (by omega), nm_r (e' := upd op t (vp_nar .boolean 0)) (by rw [nI_clamp (by omega)]) (br_f hb ?_)⟩)
  refine tm_yVerd ht hc ea hr hPq hP35 hc6 es hQ.2.2.2 H (fun hC => br_f (by decide) (hcf hC)) (fun hC hF hS s1 k1 w1 H1 => br_t rfl ?_) (fun hC hF s1 k1 w1 H1 => br_f (by decide) (h0 hC hF s1 k1 w1 (tm_PY_of H1 fun q hq => ⟨(tm_P_cl q hq).1, rfl⟩)))
  refine tm_yPub (N := tm_N G st t (tm_M G t ar ak ad c)) ht (fun r hr4 => hQ.1 _ (by omega)) (fun r hr4 e => ⟨Or.inl (hPo r hr4 (by rw [e]; decide)), ?_⟩) (fun r hr4 e => ⟨Or.inr ⟨by omega, by omega⟩, ?_⟩) H1 (fun s2 k2 w2 H2 => ?_)
  · unfold tm_N
    rw [if_neg (by rw [e]; decide)]
    exact tm_GY_n (by omega)
  · unfold tm_N
    rw [if_pos e]
    exact tm_GY_s
  · refine tm_yDel ht hc6 es hs hQ.2.2.2 hS (h1 hC hF hS s2 k2 w2 (tm_PY_of H2 fun q hq => ⟨Or.inl (tm_P_cl q hq).1, ?_⟩))
    unfold tm_GP
    by_cases y : 4 ≤ q ∧ q < 4 + 4 ∧ st (t * 4 + (q - 4)) ≠ 0
    · rw [if_pos y, if_pos y]
    · rw [if_neg y, if_neg y]
      exact (tm_GY_n (hP35 q (tm_P_cl q hq).1)).symm
end
theorem i_vc_finish {k : Nat} {u : SX} {v : SY} (I : i_Rel k u v) (hk : k + 5 ≤ 2561) (v1 : Int32) (v2 : Int32) : wpX_finish (fun r u' => wpY_finish (fun r' v' => r' = r ∧ i_Rel (k + 5) u' v') v v1 (lw_bz v2)) u v1 (lw_bz v2) := by
  obtain ⟨s, k, w, s', k', w', op, st, en, ch, ac, ar, ak, ad, sc, sa, sk, sd, wc, wk, wd, G, rfl, rfl, hX, hY, hQ⟩ := I
  rcases tm_cO op v1 with h | ⟨t, ht, rfl, ho⟩
  · unfold wpX_finish wpY_finish
    exact tm_xO0 h (br_t rfl (tm_yO0 h (br_t rfl ⟨rfl, tm_mk hX hY hQ⟩)))
  · obtain ⟨c, hc, ea, hr⟩ := hQ.2.1 t ht
    obtain ⟨c6, hc6, es, hs⟩ := hQ.2.2.1 t ht
    by_cases hb : lw_bz v2 = 0
    · unfold wpX_finish wpY_finish
      have i0 : vp_in (nI t) 3 := vp_in_nI ht (by omega)
      refine tm_xO1 ht ho (br_f tm_10 ⟨i0, nm_r (e' := upd op t (vp_nar .boolean 0)) (by rw [nI_clamp (by omega)]) (br_t hb ?_)⟩)
      refine tm_yO1 ht ho (br_f tm_10 ⟨i0, nm_r (e' := upd op t (vp_nar .boolean 0)) (by rw [nI_clamp (by omega)]) (br_t hb ⟨rfl, ?_⟩)⟩)
      exact tm_mk (tm_PX_of hX fun q hq => ⟨(tm_P_cl q hq).1, rfl⟩) (tm_PY_of hY fun q hq => ⟨(tm_P_cl q hq).1, rfl⟩) hQ
    · refine tm_xFin ht ho hb hQ hc ea hr hc6 es hs hX (fun hC => ?_) (fun hC hF s1 k1 w1 HX => ?_) (fun hC hF hS s1 k1 w1 HX => ?_)
      · refine tm_yFin ht ho hb hQ hc ea hr hc6 es hs hY (fun _ => ⟨rfl, ?_⟩) (fun z => absurd hC z) (fun z => absurd hC z)
        exact tm_mk (tm_PX_of hX fun q hq => ⟨(tm_P_cl q hq).1, rfl⟩) (tm_PY_of hY fun q hq => ⟨(tm_P_cl q hq).1, rfl⟩) hQ
      · refine tm_yFin ht ho hb hQ hc ea hr hc6 es hs hY (fun z => absurd z hC) (fun _ _ s2 k2 w2 HY => ⟨rfl, tm_mk HX HY hQ⟩) (fun _ z y => ?_)
        exact absurd y (hF.resolve_left z)
      · refine tm_yFin ht ho hb hQ hc ea hr hc6 es hs hY (fun z => absurd z hC) (fun _ z => (z.elim (fun y => hF y) (fun y => y hS)).elim) (fun _ _ _ s2 k2 w2 HY => ⟨rfl, tm_mk HX HY ⟨hQ.1, hQ.2.1, hQ.2.2.1, ?_⟩⟩)
        intro g hg
        have := hS g hg
        exact ⟨_, this, tm_dw_v hs hQ.2.2.2 hS hc6 c6 (Nat.le_refl _) g hg⟩
end
end
section
section
theorem tm_zz : True := trivial
end
end
