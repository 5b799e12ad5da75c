section
theorem pk_us {f : Nat → Int32} {k : Nat} {x : Int32} : upd f k x k = x := if_pos rfl
theorem pk_un {f : Nat → Int32} {k j : Nat} {x : Int32} (h : j ≠ k) : upd f k x j = f j := if_neg h
theorem pk_sub {a b : Nat} (h : b ≤ a) : nI a - nI b = nI (a - b) := by
  obtain ⟨c, rfl⟩ : ∃ c, a = c + b := ⟨a - b, by omega⟩
  rw [← nI_add, Int32.add_sub_cancel, Nat.add_sub_cancel]
theorem pk_m1 (n : Nat) : nI (n + 1) + (-1) = nI n := by
  rw [← nI_1, Int32.add_assoc, show (1 : Int32) + (-1) = 0 from rfl, Int32.add_zero]
theorem pk_mul (a b : Nat) : nI a * nI b = nI (a * b) := (Int32.ofNat_mul a b).symm
theorem pk_ix (x : Int32) {n : Nat} (hn : n < 2 ^ 31) : x < 0 ∨ nI n ≤ x ∨ ∃ j : Nat, j < n ∧ x = nI j := by
  by_cases h : x < 0
  · exact Or.inl h
  · obtain ⟨j, hj, rfl⟩ := nI_of h
    by_cases h2 : j < n
    · exact Or.inr (Or.inr ⟨j, h2, rfl⟩)
    · exact Or.inr (Or.inl (nI_le (by omega) hj))
theorem pk_le {x y : Int32} {A B : Prop} (a b : Nat) (f : a ≤ b → A) (g : b < a → B) (hx : x = nI a := by rfl) (hy : y = nI b := by rfl) (ha : a < 2 ^ 31 := by omega) (hb : b < 2 ^ 31 := by omega) : (x ≤ y → A) ∧ (¬ x ≤ y → B) := by
  subst hx hy
  rw [nI_leI ha hb]
  exact ⟨f, fun z => g (by omega)⟩
theorem pk_lt {x y : Int32} {A B : Prop} (a b : Nat) (f : a < b → A) (g : b ≤ a → B) (hx : x = nI a := by rfl) (hy : y = nI b := by rfl) (ha : a < 2 ^ 31 := by omega) (hb : b < 2 ^ 31 := by omega) : (x < y → A) ∧ (¬ x < y → B) := by
  subst hx hy
  rw [nI_ltI ha hb]
  exact ⟨f, fun z => g (by omega)⟩
theorem pk_eq {x y : Int32} {A B : Prop} (a b : Nat) (f : a = b → A) (g : a ≠ b → B) (hx : x = nI a := by rfl) (hy : y = nI b := by rfl) (ha : a < 2 ^ 31 := by omega) (hb : b < 2 ^ 31 := by omega) : (x = y → A) ∧ (¬ x = y → B) := by
  subst hx hy
  rw [nI_eq ha hb]
  exact ⟨f, g⟩
theorem pk_in {x : Int32} (n N : Nat) (h : n < N) (hx : x = nI n := by rfl) (hN : N < 2 ^ 31 := by omega) : vp_in x N := by
  subst hx
  exact vp_in_nI h hN
theorem pk_cl {x : Int32} (n : Nat) (hx : x = nI n := by rfl) (h : n < 2 ^ 31 := by omega) : x.toNatClampNeg = n := by
  subst hx
  exact nI_clamp h
/-! maps as functions; rows of keys and values as their pictures -/
def tm_set (f : Int32 → Option Int32) (k w : Int32) : Int32 → Option Int32 := fun x => if x = k then some w else f x
def tm_del (f : Int32 → Option Int32) (k : Int32) : Int32 → Option Int32 := fun x => if x = k then none else f x
def tm_F (n : Nat) (K V : Nat → Int32) (f : Int32 → Option Int32) : Prop :=
  (∀ i, i < n → f (K i) = some (V i)) ∧ (∀ x, (∀ i, i < n → K i ≠ x) → f x = none)
def tm_I (n : Nat) (K : Nat → Int32) : Prop := ∀ i j, i < n → j < n → K i = K j → i = j
def tm_O (n : Nat) (K : Nat → Int32) : Prop := ∀ i j, i < j → j < n → K i < K j
theorem tm_OI {n : Nat} {K : Nat → Int32} (h : tm_O n K) : tm_I n K := by
  intro i j hi hj e
  rcases Nat.lt_trichotomy i j with z | z | z
  · exact absurd e (Int32.ne_of_lt (h i j z hj))
  · exact z
  · exact absurd e.symm (Int32.ne_of_lt (h j i z hi))
theorem tm_card : ∀ (m n : Nat) (K K' : Nat → Int32), tm_I n K → (∀ i, i < n → ∃ j, j < m ∧ K' j = K i) → n ≤ m := by
  intro m
  induction m with
  | zero =>
    intro n K K' _ h
    cases n with
    | zero => exact Nat.le_refl _
    | succ n => obtain ⟨j, hj, _⟩ := h 0 (by omega); omega
  | succ m ih =>
    intro n K K' hI h
    by_cases hx : ∃ i, i < n ∧ K' m = K i
    · obtain ⟨a, ha, e⟩ := hx
      have key : ∀ q, q < n → q ≠ a → ∃ j, j < m ∧ K' j = K q := by
        intro q hq hne
        obtain ⟨j, hj, ej⟩ := h q hq
        refine ⟨j, ?_, ej⟩
        have : j ≠ m := by
          intro z
          rw [z] at ej
          exact hne (hI q a hq ha (ej.symm.trans e))
        omega
      have h2 : n - 1 ≤ m := by
        refine ih (n - 1) (fun i => if i < a then K i else K (i + 1)) K' ?_ ?_
        · intro i j hi hj he
          dsimp only at he
          split at he <;> split at he
          · exact hI i j (by omega) (by omega) he
          · have := hI i (j + 1) (by omega) (by omega) he; omega
          · have := hI (i + 1) j (by omega) (by omega) he; omega
          · have := hI (i + 1) (j + 1) (by omega) (by omega) he; omega
        · intro i hi
          split
          · exact key i (by omega) (by omega)
          · exact key (i + 1) (by omega) (by omega)
      omega
    · refine Nat.le_succ_of_le (ih n K K' hI ?_)
      intro i hi
      obtain ⟨j, hj, ej⟩ := h i hi
      refine ⟨j, ?_, ej⟩
      have : j ≠ m := by
        intro z
        exact hx ⟨i, hi, by rw [← z]; exact ej⟩
      omega
theorem tm_F_in {n : Nat} {K V : Nat → Int32} {f : Int32 → Option Int32} (h : tm_F n K V f) {x : Int32} (hx : f x ≠ none) : ∃ i, i < n ∧ K i = x := by
  refine Classical.byContradiction fun z => hx (h.2 x ?_)
  intro i hi e
  exact z ⟨i, hi, e⟩
theorem tm_F_none {n : Nat} {K V : Nat → Int32} {f : Int32 → Option Int32} (h : tm_F n K V f) {i : Nat} (hi : i < n) : f (K i) ≠ none := by
  rw [h.1 i hi]; exact fun z => nomatch z
theorem tm_F_eq {n : Nat} {K V : Nat → Int32} {f g : Int32 → Option Int32} (h : tm_F n K V f) (h' : tm_F n K V g) : f = g := by
  funext x
  by_cases z : ∃ i, i < n ∧ K i = x
  · obtain ⟨i, hi, rfl⟩ := z
    rw [h.1 i hi, h'.1 i hi]
  · rw [h.2 x (fun i hi e => z ⟨i, hi, e⟩), h'.2 x (fun i hi e => z ⟨i, hi, e⟩)]
theorem tm_F_le {n m : Nat} {K V K' V' : Nat → Int32} {f g : Int32 → Option Int32} (hI : tm_I n K) (h : tm_F n K V f) (h' : tm_F m K' V' g) (hs : ∀ x, f x ≠ none → g x ≠ none) : n ≤ m :=
  tm_card m n K K' hI fun _ hi => tm_F_in h' (hs _ (tm_F_none h hi))
theorem tm_F_congr {n : Nat} {K V K' V' : Nat → Int32} {f : Int32 → Option Int32} (h : tm_F n K V f) (e : ∀ i, i < n → K' i = K i ∧ V' i = V i) : tm_F n K' V' f :=
  ⟨fun i hi => by rw [(e i hi).1, (e i hi).2]; exact h.1 i hi, fun x hx => h.2 x fun i hi => by rw [← (e i hi).1]; exact hx i hi⟩
theorem tm_O_congr {n : Nat} {K K' : Nat → Int32} (h : tm_O n K) (e : ∀ i, i < n → K' i = K i) : tm_O n K' := by
  intro i j hij hj
  rw [e i (by omega), e j hj]
  exact h i j hij hj
theorem tm_I_congr {n : Nat} {K K' : Nat → Int32} (h : tm_I n K) (e : ∀ i, i < n → K' i = K i) : tm_I n K' := by
  intro i j hi hj z
  rw [e i hi, e j hj] at z
  exact h i j hi hj z
/-- more than ten keys -/
def tm_Ov (f : Int32 → Option Int32) : Prop := ∃ e : Nat → Int32, tm_I 11 e ∧ ∀ i, i < 11 → f (e i) ≠ none
theorem tm_Ov_no {n : Nat} {K V : Nat → Int32} {f : Int32 → Option Int32} (h : tm_F n K V f) (hn : n ≤ 10) (ho : tm_Ov f) : False := by
  obtain ⟨e, hI, he⟩ := ho
  have := tm_card n 11 e K hI fun i hi => tm_F_in h (he i hi)
  omega
theorem tm_Ov_of {K V : Nat → Int32} {f g : Int32 → Option Int32} (h : tm_F 10 K V f) (hI : tm_I 10 K) {k : Int32} (hk : f k = none) (hg : ∀ x, (f x ≠ none ∨ x = k) → g x ≠ none) : tm_Ov g := by
  refine ⟨fun i => if i < 10 then K i else k, ?_, ?_⟩
  · intro i j hi hj e
    dsimp only at e
    split at e <;> split at e
    · exact hI i j (by assumption) (by assumption) e
    · rename_i a b; exact absurd (e ▸ hk) (tm_F_none h a)
    · rename_i a b; exact absurd (e ▸ hk) (tm_F_none h b)
    · omega
  · intro i hi
    dsimp only
    split
    · rename_i a; exact hg _ (Or.inl (tm_F_none h a))
    · exact hg _ (Or.inr rfl)
theorem tm_set_ne {f : Int32 → Option Int32} {k w x : Int32} (h : f x ≠ none ∨ x = k) : tm_set f k w x ≠ none := by
  unfold tm_set
  split
  · exact fun z => nomatch z
  · rename_i a; exact h.resolve_right a
theorem tm_set_s {f : Int32 → Option Int32} {k w : Int32} : tm_set f k w k = some w := if_pos rfl
theorem tm_set_n {f : Int32 → Option Int32} {k w x : Int32} (h : x ≠ k) : tm_set f k w x = f x := if_neg h
/-- a new value under a key that is there -/
theorem tm_rep {n p : Nat} {K V K' V' : Nat → Int32} {f : Int32 → Option Int32} {k w : Int32} (hI : tm_I n K) (h : tm_F n K V f) (hp : p < n) (hk : K p = k)
    (e : ∀ i, i < n → K' i = K i) (ep : V' p = w) (en : ∀ i, i < n → i ≠ p → V' i = V i) : tm_F n K' V' (tm_set f k w) := by
  refine ⟨fun i hi => ?_, fun x hx => ?_⟩
  · rw [e i hi]
    by_cases z : i = p
    · subst z; rw [hk, tm_set_s, ep]
    · rw [tm_set_n (fun y => z (hI i p hi hp (y.trans hk.symm))), en i hi z]; exact h.1 i hi
  · have : x ≠ k := by
      intro z
      have := hx p hp
      rw [e p hp, hk] at this
      exact this z.symm
    rw [tm_set_n this]
    exact h.2 x fun i hi => by rw [← e i hi]; exact hx i hi
/-- a new key at its place in the order -/
theorem tm_ins {n p : Nat} {K V K' V' : Nat → Int32} {f : Int32 → Option Int32} {k w : Int32} (hO : tm_O n K) (h : tm_F n K V f) (hp : p ≤ n)
    (hl : ∀ i, i < p → K i < k) (hg : ∀ i, p ≤ i → i < n → k < K i)
    (ea : ∀ i, i < p → K' i = K i ∧ V' i = V i) (eb : K' p = k ∧ V' p = w) (ec : ∀ i, p ≤ i → i < n → K' (i + 1) = K i ∧ V' (i + 1) = V i) :
    tm_O (n + 1) K' ∧ tm_F (n + 1) K' V' (tm_set f k w) := by
  have hc : ∀ i, i < n + 1 → (i < p ∨ i = p ∨ ∃ j, i = j + 1 ∧ p ≤ j ∧ j < n) := by
    intro i hi
    by_cases a : i < p
    · exact Or.inl a
    · by_cases b : i = p
      · exact Or.inr (Or.inl b)
      · exact Or.inr (Or.inr ⟨i - 1, by omega, by omega, by omega⟩)
  refine ⟨?_, ?_, ?_⟩
  · intro i j hij hj
    rcases hc i (by omega) with a | a | ⟨a, a1, a2, a3⟩ <;> rcases hc j hj with b | b | ⟨b, b1, b2, b3⟩
    · rw [(ea i a).1, (ea j b).1]; exact hO i j hij (by omega)
    · subst b; rw [(ea i a).1, eb.1]; exact hl i a
    · subst b1; rw [(ea i a).1, (ec b b2 b3).1]; exact hO i b (by omega) b3
    · omega
    · omega
    · subst a b1; rw [eb.1, (ec b b2 b3).1]; exact hg b b2 b3
    · omega
    · omega
    · subst a1 b1; rw [(ec a a2 a3).1, (ec b b2 b3).1]; exact hO a b (by omega) b3
  · intro i hi
    rcases hc i hi with a | a | ⟨a, a1, a2, a3⟩
    · rw [(ea i a).1, (ea i a).2, tm_set_n (Int32.ne_of_lt (hl i a))]; exact h.1 i (by omega)
    · subst a; rw [eb.1, eb.2]; exact tm_set_s
    · subst a1; rw [(ec a a2 a3).1, (ec a a2 a3).2, tm_set_n (fun z => Int32.ne_of_lt (hg a a2 a3) z.symm)]; exact h.1 a a3
  · intro x hx
    have h1 : x ≠ k := fun z => hx p (by omega) (eb.1.trans z.symm)
    rw [tm_set_n h1]
    refine h.2 x fun i hi z => ?_
    by_cases a : i < p
    · exact hx i (by omega) ((ea i a).1.trans z)
    · exact hx (i + 1) (by omega) ((ec i (by omega) hi).1.trans z)
/-- a new key behind the others -/
theorem tm_app {n : Nat} {K V K' V' : Nat → Int32} {f : Int32 → Option Int32} {k w : Int32} (hI : tm_I n K) (h : tm_F n K V f) (hk : ∀ i, i < n → K i ≠ k)
    (ea : ∀ i, i < n → K' i = K i ∧ V' i = V i) (eb : K' n = k ∧ V' n = w) : tm_I (n + 1) K' ∧ tm_F (n + 1) K' V' (tm_set f k w) := by
  have hc : ∀ i, i < n + 1 → i < n ∨ i = n := fun i hi => by omega
  refine ⟨?_, ?_, ?_⟩
  · intro i j hi hj e
    rcases hc i hi with a | a <;> rcases hc j hj with b | b
    · rw [(ea i a).1, (ea j b).1] at e; exact hI i j a b e
    · subst b; rw [(ea i a).1, eb.1] at e; exact absurd e (hk i a)
    · subst a; rw [(ea j b).1, eb.1] at e; exact absurd e.symm (hk j b)
    · omega
  · intro i hi
    rcases hc i hi with a | a
    · rw [(ea i a).1, (ea i a).2, tm_set_n (hk i a)]; exact h.1 i a
    · subst a; rw [eb.1, eb.2]; exact tm_set_s
  · intro x hx
    rw [tm_set_n (fun z => hx n (by omega) (eb.1.trans z.symm))]
    exact h.2 x fun i hi z => hx i (by omega) ((ea i hi).1.trans z)
/-- a key taken out of the order -/
theorem tm_out {n p : Nat} {K V K' V' : Nat → Int32} {f : Int32 → Option Int32} {k : Int32} (hO : tm_O (n + 1) K) (h : tm_F (n + 1) K V f) (hp : p < n + 1) (hk : K p = k)
    (ea : ∀ i, i < p → K' i = K i ∧ V' i = V i) (ec : ∀ i, p ≤ i → i < n → K' i = K (i + 1) ∧ V' i = V (i + 1)) : tm_O n K' ∧ tm_F n K' V' (tm_del f k) := by
  have hI := tm_OI hO
  refine ⟨?_, ?_, ?_⟩
  · intro i j hij hj
    by_cases a : i < p <;> by_cases b : j < p
    · rw [(ea i a).1, (ea j b).1]; exact hO i j hij (by omega)
    · rw [(ea i a).1, (ec j (by omega) hj).1]; exact hO i (j + 1) (by omega) (by omega)
    · omega
    · rw [(ec i (by omega) (by omega)).1, (ec j (by omega) hj).1]; exact hO (i + 1) (j + 1) (by omega) (by omega)
  · intro i hi
    by_cases a : i < p
    · rw [(ea i a).1, (ea i a).2]
      unfold tm_del
      rw [if_neg (fun z => by have := hI i p (by omega) hp (z.trans hk.symm); omega)]
      exact h.1 i (by omega)
    · rw [(ec i (by omega) hi).1, (ec i (by omega) hi).2]
      unfold tm_del
      rw [if_neg (fun z => by have := hI (i + 1) p (by omega) hp (z.trans hk.symm); omega)]
      exact h.1 (i + 1) (by omega)
  · intro x hx
    unfold tm_del
    by_cases z : x = k
    · rw [if_pos z]
    · rw [if_neg z]
      refine h.2 x fun i hi e => ?_
      by_cases a : i < p
      · exact hx i (by omega) ((ea i a).1.trans e)
      · by_cases b : i = p
        · subst b; exact z (e.symm.trans hk)
        · obtain ⟨j, rfl⟩ : ∃ j, i = j + 1 := ⟨i - 1, by omega⟩
          exact hx j (by omega) ((ec j (by omega) (by omega)).1.trans e)
/-- a key taken out, the last one in its place -/
theorem tm_swp {n p : Nat} {K V K' V' : Nat → Int32} {f : Int32 → Option Int32} {k : Int32} (hI : tm_I (n + 1) K) (h : tm_F (n + 1) K V f) (hp : p < n + 1) (hk : K p = k)
    (ea : ∀ i, i < n → i ≠ p → K' i = K i ∧ V' i = V i) (eb : K' p = K n ∧ V' p = V n) : tm_I n K' ∧ tm_F n K' V' (tm_del f k) := by
  have hg : ∀ i, i < n → ∃ j, j < n + 1 ∧ j ≠ p ∧ K' i = K j ∧ V' i = V j ∧ (j = i ∨ (i = p ∧ j = n)) := by
    intro i hi
    by_cases a : i = p
    · subst a; exact ⟨n, by omega, by omega, eb.1, eb.2, Or.inr ⟨rfl, rfl⟩⟩
    · exact ⟨i, by omega, a, (ea i hi a).1, (ea i hi a).2, Or.inl rfl⟩
  refine ⟨?_, ?_, ?_⟩
  · intro i j hi hj e
    obtain ⟨a, a1, a2, a3, _, a5⟩ := hg i hi
    obtain ⟨b, b1, b2, b3, _, b5⟩ := hg j hj
    have := hI a b a1 b1 (a3.symm.trans (e.trans b3))
    omega
  · intro i hi
    obtain ⟨a, a1, a2, a3, a4, _⟩ := hg i hi
    rw [a3, a4]
    unfold tm_del
    rw [if_neg (fun z => a2 (hI a p a1 hp (z.trans hk.symm)))]
    exact h.1 a a1
  · intro x hx
    unfold tm_del
    by_cases z : x = k
    · rw [if_pos z]
    · rw [if_neg z]
      refine h.2 x fun i hi e => ?_
      have hip : i ≠ p := fun y => z (e.symm.trans (by rw [y]; exact hk))
      by_cases a : i < n
      · exact hx i a ((ea i a hip).1.trans e)
      · have : i = n := by omega
        subst this
        exact hx p (by omega) (eb.1.trans e)
/-- two ordered rows of one map are one row -/
theorem tm_uni {n : Nat} {K V K' V' : Nat → Int32} {f : Int32 → Option Int32} (hO : tm_O n K) (h : tm_F n K V f) (hO' : tm_O n K') (h' : tm_F n K' V' f) {i : Nat} (hi : i < n)
    (hb : ∀ j, j < i → K j = K' j) : K i = K' i := by
  have aux : ∀ {K V K' V' : Nat → Int32}, tm_O n K → tm_F n K V f → tm_O n K' → tm_F n K' V' f → (∀ j, j < i → K j = K' j) → ¬ K i < K' i := by
    intro K V K' V' hO h hO' h' hb z
    obtain ⟨j, hj, e⟩ := tm_F_in h' (tm_F_none h hi)
    by_cases a : j < i
    · have := tm_OI hO j i hj hi ((hb j a).trans e)
      omega
    · by_cases b : j = i
      · subst b; exact absurd e.symm (Int32.ne_of_lt z)
      · exact Int32.lt_asymm z (e ▸ hO' i j (by omega) hj)
  exact Int32.le_antisymm (Int32.not_lt.mp (aux hO' h' hO h fun j hj => (hb j hj).symm)) (Int32.not_lt.mp (aux hO h hO' h' hb))
/-- how many keys are below x -/
def tm_bel (K : Nat → Int32) (x : Int32) : Nat → Nat
  | 0 => 0
  | n + 1 => if K n < x then tm_bel K x n + 1 else tm_bel K x n
theorem tm_bel_le (K : Nat → Int32) (x : Int32) : ∀ n, tm_bel K x n ≤ n := by
  intro n
  induction n with
  | zero => exact Nat.le_refl _
  | succ n ih => unfold tm_bel; split <;> omega
theorem tm_bel_en (K : Nat → Int32) (x : Int32) : ∀ n, ∃ e : Nat → Nat, (∀ i, i < tm_bel K x n → e i < n ∧ K (e i) < x) ∧ (∀ i j, i < tm_bel K x n → j < tm_bel K x n → e i = e j → i = j) ∧ (∀ j, j < n → K j < x → ∃ i, i < tm_bel K x n ∧ e i = j) := by
  intro n
  induction n with
  | zero => exact ⟨id, fun i hi => absurd hi (Nat.not_lt_zero i), fun i _ hi => absurd hi (Nat.not_lt_zero i), fun j hj => absurd hj (Nat.not_lt_zero j)⟩
  | succ n ih =>
    obtain ⟨e, h1, h2, h3⟩ := ih
    by_cases z : K n < x
    · have eb : tm_bel K x (n + 1) = tm_bel K x n + 1 := if_pos z
      rw [eb]
      refine ⟨fun i => if i < tm_bel K x n then e i else n, ?_, ?_, ?_⟩
      · intro i hi
        dsimp only
        split
        · rename_i a; exact ⟨Nat.lt_succ_of_lt (h1 i a).1, (h1 i a).2⟩
        · exact ⟨Nat.lt_succ_self n, z⟩
      · intro i j hi hj he
        dsimp only at he
        split at he <;> split at he
        · rename_i a b; exact h2 i j a b he
        · rename_i a b; have := (h1 i a).1; omega
        · rename_i a b; have := (h1 j b).1; omega
        · omega
      · intro j hj hx
        by_cases a : j < n
        · obtain ⟨i, hi, hh⟩ := h3 j a hx
          exact ⟨i, by omega, by dsimp only; rw [if_pos hi]; exact hh⟩
        · refine ⟨tm_bel K x n, by omega, ?_⟩
          dsimp only
          rw [if_neg (Nat.lt_irrefl _)]
          omega
    · have eb : tm_bel K x (n + 1) = tm_bel K x n := if_neg z
      rw [eb]
      refine ⟨e, fun i hi => ⟨Nat.lt_succ_of_lt (h1 i hi).1, (h1 i hi).2⟩, h2, fun j hj hx => ?_⟩
      by_cases a : j < n
      · exact h3 j a hx
      · have : j = n := by omega
        subst this; exact absurd hx z
theorem tm_bel_eq {n p : Nat} {K V K' V' : Nat → Int32} {f : Int32 → Option Int32} (hO : tm_O n K) (h : tm_F n K V f) (hI' : tm_I n K') (h' : tm_F n K' V' f) (hp : p < n) : tm_bel K' (K p) n = p := by
  obtain ⟨e, h1, h2, h3⟩ := tm_bel_en K' (K p) n
  have hI := tm_OI hO
  apply Nat.le_antisymm
  · refine tm_card p _ (fun i => K' (e i)) K ?_ ?_
    · intro i j hi hj he
      exact h2 i j hi hj (hI' _ _ (h1 i hi).1 (h1 j hj).1 he)
    · intro i hi
      obtain ⟨l, hl, el⟩ := tm_F_in h (tm_F_none h' (h1 i hi).1)
      refine ⟨l, ?_, el⟩
      have hlt := (h1 i hi).2
      rw [← el] at hlt
      rcases Nat.lt_trichotomy l p with z | z | z
      · exact z
      · subst z; exact absurd hlt Int32.lt_irrefl
      · exact absurd hlt (Int32.lt_asymm (hO p l z hl))
  · refine tm_card _ p K (fun i => K' (e i)) (fun i j hi hj he => hI i j (by omega) (by omega) he) ?_
    intro i hi
    obtain ⟨l, hl, el⟩ := tm_F_in h' (tm_F_none h (show i < n by omega))
    obtain ⟨a, ha, ea⟩ := h3 l hl (by rw [el]; exact hO i p hi hp)
    exact ⟨a, ha, by rw [ea]; exact el⟩
end
