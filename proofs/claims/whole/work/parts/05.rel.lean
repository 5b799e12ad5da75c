section
/-! families of maps: one function for both sides -/
def tm_PX (P : Nat → Prop) (G : Nat → Int32 → Option Int32) (s k w : Nat → Int32) : Prop := ∀ q, P q → ∃ n, tm_X s k w q n (G q)
def tm_PY (P : Nat → Prop) (G : Nat → Int32 → Option Int32) (s k w : Nat → Int32) : Prop := ∀ q, P q → ∃ n, tm_Y s k w q n (G q)
def tm_gu (G : Nat → Int32 → Option Int32) (b : Nat) (g : Int32 → Option Int32) : Nat → Int32 → Option Int32 := fun q => if q = b then g else G q
theorem tm_gu_s {G : Nat → Int32 → Option Int32} {b : Nat} {g : Int32 → Option Int32} : tm_gu G b g b = g := if_pos rfl
theorem tm_gu_n {G : Nat → Int32 → Option Int32} {b q : Nat} {g : Int32 → Option Int32} (h : q ≠ b) : tm_gu G b g q = G q := if_neg h
theorem tm_PX_of {P P' : Nat → Prop} {G G' : Nat → Int32 → Option Int32} {s k w : Nat → Int32} (h : tm_PX P G s k w) (e : ∀ q, P' q → P q ∧ G' q = G q) : tm_PX P' G' s k w := by
  intro q hq
  rw [(e q hq).2]
  exact h q (e q hq).1
theorem tm_PY_of {P P' : Nat → Prop} {G G' : Nat → Int32 → Option Int32} {s k w : Nat → Int32} (h : tm_PY P G s k w) (e : ∀ q, P' q → P q ∧ G' q = G q) : tm_PY P' G' s k w := by
  intro q hq
  rw [(e q hq).2]
  exact h q (e q hq).1
theorem tm_PX_u {P : Nat → Prop} {G : Nat → Int32 → Option Int32} {s k w s1 k1 w1 : Nat → Int32} {b n : Nat} {g : Int32 → Option Int32} (h : tm_PX P G s k w) (fr : tm_fr b s k w s1 k1 w1) (hb : tm_X s1 k1 w1 b n g) : tm_PX (fun q => P q ∨ q = b) (tm_gu G b g) s1 k1 w1 := by
  intro q hq
  by_cases z : q = b
  · subst z; rw [tm_gu_s]; exact ⟨n, hb⟩
  · rw [tm_gu_n z]
    obtain ⟨m, hm⟩ := h q (hq.resolve_right z)
    exact ⟨m, tm_fr_X fr z hm⟩
theorem tm_PY_u {P : Nat → Prop} {G : Nat → Int32 → Option Int32} {s k w s1 k1 w1 : Nat → Int32} {b n : Nat} {g : Int32 → Option Int32} (h : tm_PY P G s k w) (fr : tm_fr b s k w s1 k1 w1) (hb : tm_Y s1 k1 w1 b n g) : tm_PY (fun q => P q ∨ q = b) (tm_gu G b g) s1 k1 w1 := by
  intro q hq
  by_cases z : q = b
  · subst z; rw [tm_gu_s]; exact ⟨n, hb⟩
  · rw [tm_gu_n z]
    obtain ⟨m, hm⟩ := h q (hq.resolve_right z)
    exact ⟨m, tm_fr_Y fr z hm⟩
theorem tm_PX_s {P : Nat → Prop} {G : Nat → Int32 → Option Int32} {s k w s1 k1 w1 : Nat → Int32} {b n : Nat} {g : Int32 → Option Int32} (h : tm_PX P G s k w) (fr : tm_fr b s k w s1 k1 w1) (hb : tm_X s1 k1 w1 b n g) : tm_PX P (tm_gu G b g) s1 k1 w1 :=
  tm_PX_of (tm_PX_u h fr hb) fun _ hq => ⟨Or.inl hq, rfl⟩
theorem tm_PY_s {P : Nat → Prop} {G : Nat → Int32 → Option Int32} {s k w s1 k1 w1 : Nat → Int32} {b n : Nat} {g : Int32 → Option Int32} (h : tm_PY P G s k w) (fr : tm_fr b s k w s1 k1 w1) (hb : tm_Y s1 k1 w1 b n g) : tm_PY P (tm_gu G b g) s1 k1 w1 :=
  tm_PY_of (tm_PY_u h fr hb) fun _ hq => ⟨Or.inl hq, rfl⟩
theorem tm_sz {P P' : Nat → Prop} {G : Nat → Int32 → Option Int32} {s k w s' k' w' : Nat → Int32} {q : Nat} (h : tm_PX P G s k w) (h' : tm_PY P' G s' k' w') (hq : P q) (hq' : P' q) : s' q = s q := by
  obtain ⟨n, a⟩ := h q hq
  obtain ⟨m, b⟩ := h' q hq'
  rw [a.1, b.1, tm_nn (tm_XY a) b]
def tm_ad (f : Int32 → Option Int32) (key d : Int32) : Int32 → Option Int32 := tm_set f key ((f key).getD 0 + d)
section
variable {op st en ch ac ar ak ad sc sa sk sd wc wk wd : Nat → Int32}
theorem tm_xCp {post : SX → Prop} {P : Nat → Prop} {G : Nat → Int32 → Option Int32} {s k w : Nat → Int32} {a b : Nat} (ha : a < 35) (hb : b < 35) (H : tm_PX P G s k w) (hP : P a)
    (h : ∀ s1 k1 w1, tm_PX (fun q => P q ∨ q = b) (tm_gu G b (G a)) s1 k1 w1 → post (s1, k1, w1, op, st, en, ch, ac, ar, ak, ad, sc, sa, sk, sd, wc, wk, wd)) : wpX_copyMap post (s, k, w, op, st, en, ch, ac, ar, ak, ad, sc, sa, sk, sd, wc, wk, wd) (nI a) (nI b) := by
  obtain ⟨n, hn⟩ := H a hP
  exact tm_xCopy ha hb hn fun s1 k1 w1 x y => h s1 k1 w1 (tm_PX_u H x y)
theorem tm_yCp {post : SY → Prop} {P : Nat → Prop} {G : Nat → Int32 → Option Int32} {s k w : Nat → Int32} {a b : Nat} (ha : a < 39) (hb : b < 39) (H : tm_PY P G s k w) (hP : P a)
    (h : ∀ s1 k1 w1, tm_PY (fun q => P q ∨ q = b) (tm_gu G b (G a)) s1 k1 w1 → post (k1, w1, s1, op, st, en, ch, ar, ak, ad, ac, sa, sk, sd, sc, wk, wd, wc)) : wpY_copy post (k, w, s, op, st, en, ch, ar, ak, ad, ac, sa, sk, sd, sc, wk, wd, wc) (nI a) (nI b) := by
  obtain ⟨n, hn⟩ := H a hP
  exact tm_yCopy ha hb hn fun s1 k1 w1 x y => h s1 k1 w1 (tm_PY_u H x y)
theorem tm_xSt {post : Int32 → SX → Prop} {P : Nat → Prop} {G : Nat → Int32 → Option Int32} {s k w : Nat → Int32} {r : Nat} {key x : Int32} (hr : r < 35) (H : tm_PX P G s k w) (hP : P r)
    (h1 : ∀ s1 k1 w1, tm_PX P (tm_gu G r (tm_set (G r) key x)) s1 k1 w1 → post 1 (s1, k1, w1, op, st, en, ch, ac, ar, ak, ad, sc, sa, sk, sd, wc, wk, wd)) (h0 : tm_Ov (tm_set (G r) key x) → post 0 (s, k, w, op, st, en, ch, ac, ar, ak, ad, sc, sa, sk, sd, wc, wk, wd)) : wpX_setEntry post (s, k, w, op, st, en, ch, ac, ar, ak, ad, sc, sa, sk, sd, wc, wk, wd) (nI r) key x := by
  obtain ⟨n, hn⟩ := H r hP
  exact tm_xSet hr hn (fun s1 k1 w1 n1 x y => h1 s1 k1 w1 (tm_PX_s H x y)) h0
theorem tm_ySt {post : Int32 → SY → Prop} {P : Nat → Prop} {G : Nat → Int32 → Option Int32} {s k w : Nat → Int32} {r : Nat} {key x : Int32} (hr : r < 39) (H : tm_PY P G s k w) (hP : P r)
    (h1 : ∀ s1 k1 w1, tm_PY P (tm_gu G r (tm_set (G r) key x)) s1 k1 w1 → post 1 (k1, w1, s1, op, st, en, ch, ar, ak, ad, ac, sa, sk, sd, sc, wk, wd, wc)) (h0 : tm_Ov (tm_set (G r) key x) → post 0 (k, w, s, op, st, en, ch, ar, ak, ad, ac, sa, sk, sd, sc, wk, wd, wc)) : wpY_set post (k, w, s, op, st, en, ch, ar, ak, ad, ac, sa, sk, sd, sc, wk, wd, wc) (nI r) key x := by
  obtain ⟨n, hn⟩ := H r hP
  exact tm_ySet hr hn (fun s1 k1 w1 n1 x y => h1 s1 k1 w1 (tm_PY_s H x y)) h0
theorem tm_xAj {post : Int32 → SX → Prop} {P : Nat → Prop} {G : Nat → Int32 → Option Int32} {s k w : Nat → Int32} {r : Nat} {key d : Int32} (hr : r < 35) (H : tm_PX P G s k w) (hP : P r)
    (h1 : ∀ s1 k1 w1, tm_PX P (tm_gu G r (tm_ad (G r) key d)) s1 k1 w1 → post 1 (s1, k1, w1, op, st, en, ch, ac, ar, ak, ad, sc, sa, sk, sd, wc, wk, wd)) (h0 : tm_Ov (tm_ad (G r) key d) → post 0 (s, k, w, op, st, en, ch, ac, ar, ak, ad, sc, sa, sk, sd, wc, wk, wd)) : wpX_adjustMap post (s, k, w, op, st, en, ch, ac, ar, ak, ad, sc, sa, sk, sd, wc, wk, wd) (nI r) key d := by
  obtain ⟨n, hn⟩ := H r hP
  exact tm_xAdj hr hn (fun s1 k1 w1 n1 x y => h1 s1 k1 w1 (tm_PX_s H x y)) h0
theorem tm_yAj {post : Int32 → SY → Prop} {P : Nat → Prop} {G : Nat → Int32 → Option Int32} {s k w : Nat → Int32} {r : Nat} {key d : Int32} (hr : r < 39) (H : tm_PY P G s k w) (hP : P r)
    (h1 : ∀ s1 k1 w1, tm_PY P (tm_gu G r (tm_ad (G r) key d)) s1 k1 w1 → post 1 (k1, w1, s1, op, st, en, ch, ar, ak, ad, ac, sa, sk, sd, sc, wk, wd, wc)) (h0 : tm_Ov (tm_ad (G r) key d) → post 0 (k, w, s, op, st, en, ch, ar, ak, ad, ac, sa, sk, sd, sc, wk, wd, wc)) : wpY_adjusted post (k, w, s, op, st, en, ch, ar, ak, ad, ac, sa, sk, sd, sc, wk, wd, wc) (nI r) key d := by
  obtain ⟨n, hn⟩ := H r hP
  exact tm_yAdj hr hn (fun s1 k1 w1 n1 x y => h1 s1 k1 w1 (tm_PY_s H x y)) h0
end
theorem tm_noX {P : Nat → Prop} {G : Nat → Int32 → Option Int32} {s k w : Nat → Int32} {q : Nat} {g : Int32 → Option Int32} (h : tm_PX P G s k w) (hP : P q) (e : G q = g) (ho : tm_Ov g) : False := by
  obtain ⟨n, hn⟩ := h q hP
  exact tm_no (tm_XY hn) (e ▸ ho)
theorem tm_noY {P : Nat → Prop} {G : Nat → Int32 → Option Int32} {s k w : Nat → Int32} {q : Nat} {g : Int32 → Option Int32} (h : tm_PY P G s k w) (hP : P q) (e : G q = g) (ho : tm_Ov g) : False := by
  obtain ⟨n, hn⟩ := h q hP
  exact tm_no hn (e ▸ ho)
/-! the relation -/
def tm_P (op st : Nat → Int32) (q : Nat) : Prop := q < 22 ∨ (22 ≤ q ∧ q < 34 ∧ op ((q - 22) / 4) ≠ 0 ∧ st (q - 22) ≠ 0)
def tm_Q (st ac ar sc sa wc : Nat → Int32) : Prop :=
  (∀ i, i < 12 → st i = 0 ∨ st i = 1 ∨ st i = 2) ∧
  (∀ t, t < 3 → ∃ c, c ≤ 8 ∧ ac t = nI c ∧ ∀ j, j < c → ∃ r, r < 4 ∧ ar (t * 8 + j) = nI r ∧ st (t * 4 + r) = 2) ∧
  (∀ t, t < 3 → ∃ c, c ≤ 6 ∧ sc t = nI c ∧ ∀ j, j < c → ∃ g, g < 2 ∧ sa (t * 6 + j) = nI g) ∧
  (∀ g, g < 2 → ∃ c, c ≤ 8 ∧ wc g = nI c)
def i_Rel (_ : Nat) (u : SX) (v : SY) : Prop := ∃ (s k w s' k' w' op st en ch ac ar ak ad sc sa sk sd wc wk wd : Nat → Int32) (G : Nat → Int32 → Option Int32),
  u = (s, k, w, op, st, en, ch, ac, ar, ak, ad, sc, sa, sk, sd, wc, wk, wd) ∧ v = (k', w', s', op, st, en, ch, ar, ak, ad, ac, sa, sk, sd, sc, wk, wd, wc) ∧ tm_PX (tm_P op st) G s k w ∧ tm_PY (tm_P op st) G s' k' w' ∧ tm_Q st ac ar sc sa wc
theorem i_up {k : Nat} {u : SX} {v : SY} (h : i_Rel k u v) : i_Rel (k + 5) u v := h
theorem i_vc0 (k0 : Int32) : wpX_init (fun u => wpY_init (fun v => i_Rel 1 u v) k0) k0 := by
  have e0 : tm_F 0 (fun _ => (0 : Int32)) (fun _ => 0) (fun _ => none) := ⟨fun i hi => absurd hi (Nat.not_lt_zero i), fun _ _ => rfl⟩
  refine ⟨fun _ => 0, fun _ => 0, fun _ => 0, fun _ => 0, fun _ => 0, fun _ => 0, fun _ => 0, fun _ => 0, fun _ => 0, fun _ => 0, fun _ => 0, fun _ => 0, fun _ => 0, fun _ => 0, fun _ => 0, fun _ => 0, fun _ => 0, fun _ => 0, fun _ => 0, fun _ => 0, fun _ => 0, fun _ _ => none, rfl, rfl, ?_, ?_, ?_⟩
  · intro q _
    exact ⟨0, rfl, by omega, fun i j _ hj => absurd hj (Nat.not_lt_zero j), e0⟩
  · intro q _
    exact ⟨0, rfl, by omega, fun i j hi => absurd hi (Nat.not_lt_zero i), e0⟩
  · exact ⟨fun _ _ => Or.inl rfl, fun _ _ => ⟨0, by omega, rfl, fun j hj => absurd hj (Nat.not_lt_zero j)⟩, fun _ _ => ⟨0, by omega, rfl, fun j hj => absurd hj (Nat.not_lt_zero j)⟩, fun _ _ => ⟨0, by omega, rfl⟩⟩
section
variable {op st en ch ac ar ak ad sc sa sk sd wc wk wd : Nat → Int32}
theorem tm_mk {m : Nat} {s k w s' k' w' : Nat → Int32} {G : Nat → Int32 → Option Int32} (hX : tm_PX (tm_P op st) G s k w) (hY : tm_PY (tm_P op st) G s' k' w') (hQ : tm_Q st ac ar sc sa wc) : i_Rel m (s, k, w, op, st, en, ch, ac, ar, ak, ad, sc, sa, sk, sd, wc, wk, wd) (k', w', s', op, st, en, ch, ar, ak, ad, ac, sa, sk, sd, sc, wk, wd, wc) :=
  ⟨s, k, w, s', k', w', op, st, en, ch, ac, ar, ak, ad, sc, sa, sk, sd, wc, wk, wd, G, rfl, rfl, hX, hY, hQ⟩
/-! guards -/
theorem tm_ix (x : Int32) {n : Nat} (hn : n < 2 ^ 31) : (x < 0 ∨ nI n ≤ x) ∨ ∃ j : Nat, j < n ∧ x = nI j := by
  rcases pk_ix x hn with h | h | h
  · exact Or.inl (Or.inl h)
  · exact Or.inl (Or.inr h)
  · exact Or.inr h
theorem tm_10 : ¬ (1 : Int32) = 0 := by decide
theorem tm_xB0 {post : Int32 → Prop} {x : Int32} {b : Nat} (h : x < 0 ∨ nI b ≤ x) (p : post 0) : wpX_isBelow post x (nI b) := by
  by_cases z : x < 0
  · exact br_t z p
  · exact br_f z (br_t (h.resolve_left z) p)
theorem tm_xB1 {post : Int32 → Prop} {j b : Nat} (h : j < b) (hb : b < 2 ^ 31) (p : post 1) : wpX_isBelow post (nI j) (nI b) := br_f (nI_pos (by omega)) (br_f (nI_ge h hb) p)
theorem tm_xV0 {post : Int32 → Prop} {x : Int32} (h : x < 0 ∨ nI 4 ≤ x) (p : post 0) : wpX_isVariable post x := tm_xB0 (b := 4) (post := fun r => narrow .boolean (.int r) = .int r ∧ post r) h ⟨by decide, p⟩
theorem tm_xV1 {post : Int32 → Prop} {j : Nat} (h : j < 4) (p : post 1) : wpX_isVariable post (nI j) := tm_xB1 (b := 4) (post := fun r => narrow .boolean (.int r) = .int r ∧ post r) h (by omega) ⟨by decide, p⟩
theorem tm_xR0 {post : Int32 → Prop} {x : Int32} (h : x < 0 ∨ nI 4 ≤ x) (p : post 0) : wpX_isRef post x := tm_xB0 (b := 4) (post := fun r => narrow .boolean (.int r) = .int r ∧ post r) h ⟨by decide, p⟩
theorem tm_xR1 {post : Int32 → Prop} {j : Nat} (h : j < 4) (p : post 1) : wpX_isRef post (nI j) := tm_xB1 (b := 4) (post := fun r => narrow .boolean (.int r) = .int r ∧ post r) h (by omega) ⟨by decide, p⟩
theorem tm_xG0 {post : Int32 → Prop} {x : Int32} (h : x < 0 ∨ nI 2 ≤ x) (p : post 0) : wpX_isAgent post x := tm_xB0 (b := 2) (post := fun r => narrow .boolean (.int r) = .int r ∧ post r) h ⟨by decide, p⟩
theorem tm_xG1 {post : Int32 → Prop} {j : Nat} (h : j < 2) (p : post 1) : wpX_isAgent post (nI j) := tm_xB1 (b := 2) (post := fun r => narrow .boolean (.int r) = .int r ∧ post r) h (by omega) ⟨by decide, p⟩
theorem tm_xT0 {post : Int32 → Prop} {x : Int32} (h : x < 0 ∨ nI 3 ≤ x) (p : post 0) : wpX_isTransaction post x := tm_xB0 (b := 3) (post := fun r => narrow .boolean (.int r) = .int r ∧ post r) h ⟨by decide, p⟩
theorem tm_xT1 {post : Int32 → Prop} {j : Nat} (h : j < 3) (p : post 1) : wpX_isTransaction post (nI j) := tm_xB1 (b := 3) (post := fun r => narrow .boolean (.int r) = .int r ∧ post r) h (by omega) ⟨by decide, p⟩
theorem tm_yB0 {post : Int32 → Prop} {s k w : Nat → Int32} {x : Int32} (b : Nat) (h : x < 0 ∨ nI b ≤ x) (p : post 0) : wpY_among post (k, w, s, op, st, en, ch, ar, ak, ad, ac, sa, sk, sd, sc, wk, wd, wc) x (nI b) := by
  by_cases z : x < 0
  · exact br_t z p
  · exact br_f z (br_t (h.resolve_left z) p)
theorem tm_yB1 {post : Int32 → Prop} {s k w : Nat → Int32} {j : Nat} (b : Nat) (h : j < b) (hb : b < 2 ^ 31) (p : post 1) : wpY_among post (k, w, s, op, st, en, ch, ar, ak, ad, ac, sa, sk, sd, sc, wk, wd, wc) (nI j) (nI b) := br_f (nI_pos (by omega)) (br_f (nI_ge h hb) p)
def tm_C (op : Nat → Int32) (x : Int32) : Prop := (x < 0 ∨ nI 3 ≤ x) ∨ ∃ j, j < 3 ∧ x = nI j ∧ op j = 0
theorem tm_cO (op : Nat → Int32) (x : Int32) : tm_C op x ∨ ∃ j, j < 3 ∧ x = nI j ∧ op j ≠ 0 := by
  rcases tm_ix x (n := 3) (by omega) with h | ⟨j, hj, e⟩
  · exact Or.inl (Or.inl h)
  · by_cases z : op j = 0
    · exact Or.inl (Or.inr ⟨j, hj, e, z⟩)
    · exact Or.inr ⟨j, hj, e, z⟩
theorem tm_xO0 {post : Int32 → Prop} {s k w : Nat → Int32} {x : Int32} (h : tm_C op x) (p : post 0) : wpX_isOpen post (s, k, w, op, st, en, ch, ac, ar, ak, ad, sc, sa, sk, sd, wc, wk, wd) x := by
  unfold wpX_isOpen
  rcases h with h | ⟨j, hj, rfl, h⟩
  · exact tm_xT0 h (br_t rfl p)
  · refine tm_xT1 hj (br_f tm_10 ⟨vp_in_nI hj (by omega), br_t ?_ p⟩)
    rw [nI_clamp (by omega)]; exact h
theorem tm_xO1 {post : Int32 → Prop} {s k w : Nat → Int32} {j : Nat} (hj : j < 3) (h : op j ≠ 0) (p : post 1) : wpX_isOpen post (s, k, w, op, st, en, ch, ac, ar, ak, ad, sc, sa, sk, sd, wc, wk, wd) (nI j) := by
  unfold wpX_isOpen
  refine tm_xT1 hj (br_f tm_10 ⟨vp_in_nI hj (by omega), br_f ?_ p⟩)
  rw [nI_clamp (by omega)]; exact h
theorem tm_yO0 {post : Int32 → Prop} {s k w : Nat → Int32} {x : Int32} (h : tm_C op x) (p : post 0) : wpY_isOpen post (k, w, s, op, st, en, ch, ar, ak, ad, ac, sa, sk, sd, sc, wk, wd, wc) x := by
  unfold wpY_isOpen
  rcases h with h | ⟨j, hj, rfl, h⟩
  · by_cases z : x < 0
    · exact br_t z p
    · exact br_f z (br_t (h.resolve_left z) p)
  · refine br_f (nI_pos (by omega)) (br_f (nI_ge (b := 3) hj (by omega)) ⟨vp_in_nI hj (by omega), br_t ?_ p⟩)
    rw [nI_clamp (by omega)]; exact h
theorem tm_yO1 {post : Int32 → Prop} {s k w : Nat → Int32} {j : Nat} (hj : j < 3) (h : op j ≠ 0) (p : post 1) : wpY_isOpen post (k, w, s, op, st, en, ch, ar, ak, ad, ac, sa, sk, sd, sc, wk, wd, wc) (nI j) := by
  unfold wpY_isOpen
  refine br_f (nI_pos (by omega)) (br_f (nI_ge (b := 3) hj (by omega)) ⟨vp_in_nI hj (by omega), br_f ?_ p⟩)
  rw [nI_clamp (by omega)]; exact h
end
end
