section
/-! combine -/
def tm_cm (kd : Nat) (fa fb : Int32 → Option Int32) : Int32 → Option Int32 := fun x => if kd < 2 ∨ (kd = 2 ∧ fb x = none) ∨ (kd = 3 ∧ ¬ fb x = none) then fa x else none
def tm_un (g fb : Int32 → Option Int32) : Int32 → Option Int32 := fun x => if fb x = none then g x else fb x
def tm_R (kd : Nat) (fa fb : Int32 → Option Int32) : Int32 → Option Int32 := if kd = 1 then tm_un (tm_cm kd fa fb) fb else tm_cm kd fa fb
theorem tm_Ov_mono {f g : Int32 → Option Int32} (h : ∀ x, f x ≠ none → g x ≠ none) (o : tm_Ov f) : tm_Ov g := by
  obtain ⟨e, a, b⟩ := o
  exact ⟨e, a, fun i hi => h _ (b i hi)⟩
theorem tm_cm_ne {kd : Nat} {fa fb : Int32 → Option Int32} {x : Int32} (h : tm_cm kd fa fb x ≠ none) : fa x ≠ none := by
  unfold tm_cm at h
  split at h
  · exact h
  · exact absurd rfl h
/-- the first c entries of a row have been gone through -/
def tm_v (c : Nat) (K : Nat → Int32) (F B g : Int32 → Option Int32) : Prop := (∀ i, i < c → g (K i) = F (K i)) ∧ (∀ x, (∀ i, i < c → K i ≠ x) → g x = B x)
theorem tm_v_0 {K : Nat → Int32} {F B : Int32 → Option Int32} : tm_v 0 K F B B := ⟨fun i hi => absurd hi (Nat.not_lt_zero i), fun _ _ => rfl⟩
theorem tm_v_set {n c : Nat} {K : Nat → Int32} {F B g : Int32 → Option Int32} {x : Int32} (hI : tm_I n K) (hc : c < n) (h : tm_v c K F B g) (e : F (K c) = some x) : tm_v (c + 1) K F B (tm_set g (K c) x) := by
  refine ⟨fun i hi => ?_, fun y hy => ?_⟩
  · by_cases z : i = c
    · subst z; rw [tm_set_s, e]
    · rw [tm_set_n (fun y => z (hI i c (by omega) hc y))]; exact h.1 i (by omega)
  · rw [tm_set_n (fun z => hy c (by omega) z.symm)]
    exact h.2 y fun i hi => hy i (by omega)
theorem tm_v_not {n c : Nat} {K : Nat → Int32} {F B g : Int32 → Option Int32} (hI : tm_I n K) (hc : c < n) (h : tm_v c K F B g) (e : F (K c) = B (K c)) : tm_v (c + 1) K F B g := by
  refine ⟨fun i hi => ?_, fun y hy => h.2 y fun i hi => hy i (by omega)⟩
  by_cases z : i = c
  · subst z
    rw [e]
    exact h.2 _ fun j hj y => by have := hI j i (by omega) hc y; omega
  · exact h.1 i (by omega)
theorem tm_v_end {n : Nat} {K : Nat → Int32} {F B g : Int32 → Option Int32} (h : tm_v n K F B g) (e : ∀ x, (∀ i, i < n → K i ≠ x) → F x = B x) : g = F := by
  funext x
  by_cases z : ∃ i, i < n ∧ K i = x
  · obtain ⟨i, hi, rfl⟩ := z; exact h.1 i hi
  · rw [h.2 x (fun i hi y => z ⟨i, hi, y⟩), e x (fun i hi y => z ⟨i, hi, y⟩)]
theorem tm_v_ne {c : Nat} {K : Nat → Int32} {F B g : Int32 → Option Int32} (h : tm_v c K F B g) {x : Int32} (hx : g x ≠ none) (hB : B x ≠ none → F x ≠ none) : F x ≠ none := by
  by_cases z : ∃ i, i < c ∧ K i = x
  · obtain ⟨i, hi, rfl⟩ := z; rw [h.1 i hi] at hx; exact hx
  · rw [h.2 x (fun i hi y => z ⟨i, hi, y⟩)] at hx; exact hB hx
theorem tm_set_ne' {g F : Int32 → Option Int32} {k x y : Int32} (h : tm_set g k x y ≠ none) (hk : F k ≠ none) (hg : g y ≠ none → F y ≠ none) : F y ≠ none := by
  unfold tm_set at h
  split at h
  · rename_i z; rw [z]; exact hk
  · exact hg h
theorem tm_X_0 {s k w : Nat → Int32} : tm_X (upd s 34 0) k w 34 0 (fun _ => none) :=
  ⟨rfl, by omega, fun i j _ hj => absurd hj (Nat.not_lt_zero j), fun i hi => absurd hi (Nat.not_lt_zero i), fun _ _ => rfl⟩
theorem tm_fr_0 {s k w : Nat → Int32} : tm_fr 34 s k w (upd s 34 0) k w := fun q hq => ⟨pk_un hq, fun _ _ => ⟨rfl, rfl⟩⟩
section
variable {op st en ch ac ar ak ad sc sa sk sd wc wk wd : Nat → Int32}
theorem tm_xChoose {post : SX → Prop} {s k w : Nat → Int32} {a b n m kd : Nat} {z : Int32} {fa fb : Int32 → Option Int32} (ha : a < 4) (hb : b < 4) (HA : tm_X s k w a n fa) (HB : tm_X s k w b m fb)
    (hz : (kd = 2 ∧ z = 0) ∨ (kd = 3 ∧ z = 1)) (h : ∀ s1 k1 w1 n1, tm_fr 34 s k w s1 k1 w1 → tm_X s1 k1 w1 34 n1 (tm_cm kd fa fb) → post (s1, k1, w1, op, st, en, ch, ac, ar, ak, ad, sc, sa, sk, sd, wc, wk, wd)) : wpX_chooseEntries post (s, k, w, op, st, en, ch, ac, ar, ak, ad, sc, sa, sk, sd, wc, wk, wd) (nI a) (nI b) z := by
  have hn := HA.2.1
  have loop : ∀ q c s1 k1 w1 n1 g, c ≤ n → n - c < q → tm_fr 34 s k w s1 k1 w1 → tm_X s1 k1 w1 34 n1 g → tm_v c (fun i => k (a * 10 + i)) (tm_cm kd fa fb) (fun _ => none) g →
      wX_chooseEntries_26 post (nI b) z (nI (a * 10)) (nI n) q (nI (a * 10 + c)) s1 k1 w1 op st en ch ac ar ak ad sc sa sk sd wc wk wd := by
    intro q
    induction q with
    | zero => intro c s1 k1 w1 n1 g _ hm; omega
    | succ q ih =>
      intro c s1 k1 w1 n1 g h2 hm fr H34 hv
      refine pk_le (a * 10 + n) (a * 10 + c) (fun hle => ?_) (fun hgt => ?_) (nI_add _ _)
      · have : c = n := by omega
        subst this
        have : g = tm_cm kd fa fb := by
          refine tm_v_end hv fun x hx => ?_
          have hf : fa x = none := HA.2.2.2.2 x hx
          unfold tm_cm
          split
          · exact hf
          · rfl
        subst this
        exact h s1 k1 w1 n1 fr H34
      · have i1 : vp_in (nI (a * 10 + c)) 350 := vp_in_nI (by omega) (by omega)
        have ek : k1 (a * 10 + c) = k (a * 10 + c) := ((fr a (by omega)).2 c (by omega)).1
        have ev : w1 (a * 10 + c) = w (a * 10 + c) := ((fr a (by omega)).2 c (by omega)).2
        have hI := tm_OI HA.2.2.1
        have hfc : fa (k (a * 10 + c)) = some (w (a * 10 + c)) := HA.2.2.2.1 c (by omega)
        refine ⟨i1, ?_⟩
        rw [nI_clamp (by omega), ek, ev]
        have skip : tm_cm kd fa fb (k (a * 10 + c)) = none → ∀ x6 : Int32, x6 = nI (a * 10 + c) + 1 → wX_chooseEntries_26 post (nI b) z (nI (a * 10)) (nI n) q x6 s1 k1 w1 op st en ch ac ar ak ad sc sa sk sd wc wk wd := fun e =>
          nm_r (nI_1 _) (ih (c + 1) s1 k1 w1 n1 g (by omega) (by omega) fr H34 (tm_v_not (K := fun i => k (a * 10 + i)) hI (by omega) hv e))
        have take : tm_cm kd fa fb (k (a * 10 + c)) = some (w (a * 10 + c)) → vp_in (nI (a * 10 + c)) 350 ∧ vp_in (nI (a * 10 + c)) 350 ∧ wpX_setEntry (fun r u => match u with | (a1, b1, c1, d1, d2, d3, d4, d5, d6, d7, d8, d9, d10, d11, d12, d13, d14, d15) => ∀ x6 : Int32, x6 = nI (a * 10 + c) + 1 → wX_chooseEntries_26 post (nI b) z (nI (a * 10)) (nI n) q x6 a1 b1 c1 d1 d2 d3 d4 d5 d6 d7 d8 d9 d10 d11 d12 d13 d14 d15) (s1, k1, w1, op, st, en, ch, ac, ar, ak, ad, sc, sa, sk, sd, wc, wk, wd) 34 (k (a * 10 + c)) (w (a * 10 + c)) := by
          intro e
          refine ⟨i1, i1, ?_⟩
          refine tm_xSet (r := 34) (by omega) H34 (fun s2 k2 w2 n2 fr2 H2 => ?_) (fun hov => ?_)
          · exact nm_r (nI_1 _) (ih (c + 1) s2 k2 w2 n2 _ (by omega) (by omega) (tm_fr_tr fr fr2) H2 (tm_v_set (K := fun i => k (a * 10 + i)) hI (by omega) hv e))
          · refine (tm_no (tm_XY HA) (tm_Ov_mono (fun x hx => ?_) hov)).elim
            refine tm_set_ne' hx (by rw [hfc]; exact fun z => nomatch z) fun y => tm_cm_ne (kd := kd) (fb := fb) (tm_v_ne hv y fun z => absurd rfl z)
        refine tm_xHas (by omega) (tm_fr_X fr (by omega) HB) (fun hne => ?_) (fun he => ?_)
        · rcases hz with ⟨hk, hz⟩ | ⟨hk, hz⟩
          · subst hk hz
            refine br_f tm_10 (skip ?_)
            unfold tm_cm
            rw [if_neg]
            intro y
            rcases y with y | y | y
            · omega
            · exact hne y.2
            · omega
          · subst hk hz
            refine br_t rfl (take ?_)
            unfold tm_cm
            rw [if_pos (Or.inr (Or.inr ⟨rfl, hne⟩))]
            exact hfc
        · rcases hz with ⟨hk, hz⟩ | ⟨hk, hz⟩
          · subst hk hz
            refine br_t rfl (take ?_)
            unfold tm_cm
            rw [if_pos (Or.inr (Or.inl ⟨rfl, he⟩))]
            exact hfc
          · subst hk hz
            refine br_f (by decide) (skip ?_)
            unfold tm_cm
            rw [if_neg]
            intro y
            rcases y with y | y | y
            · omega
            · omega
            · exact y.2 he
  refine nm_r (pk_mul a 10) ⟨vp_in_nI (by omega) (by omega), nm_r (e' := nI n) (by rw [nI_clamp (by omega), HA.1]) (nm_e ⟨n + 1, ?_⟩)⟩
  exact loop (n + 1) 0 _ _ _ 0 _ (by omega) (by omega) tm_fr_0 tm_X_0 tm_v_0
theorem tm_xAdd {post : Int32 → SX → Prop} {s k w : Nat → Int32} {b n m : Nat} {g fb : Int32 → Option Int32} (hb : b < 4) (H34 : tm_X s k w 34 n g) (HB : tm_X s k w b m fb)
    (h1 : ∀ s1 k1 w1 n1, tm_fr 34 s k w s1 k1 w1 → tm_X s1 k1 w1 34 n1 (tm_un g fb) → post 1 (s1, k1, w1, op, st, en, ch, ac, ar, ak, ad, sc, sa, sk, sd, wc, wk, wd)) (h0 : ∀ s1 k1 w1, tm_fr 34 s k w s1 k1 w1 → tm_Ov (tm_un g fb) → post 0 (s1, k1, w1, op, st, en, ch, ac, ar, ak, ad, sc, sa, sk, sd, wc, wk, wd)) :
    wpX_addEntries post (s, k, w, op, st, en, ch, ac, ar, ak, ad, sc, sa, sk, sd, wc, wk, wd) (nI b) := by
  have hm := HB.2.1
  have loop : ∀ q c s1 k1 w1 n1 g1, c ≤ m → m - c < q → tm_fr 34 s k w s1 k1 w1 → tm_X s1 k1 w1 34 n1 g1 → tm_v c (fun i => k (b * 10 + i)) (tm_un g fb) g g1 →
      wX_addEntries_15 post (nI (b * 10)) (nI m) q (nI (b * 10 + c)) s1 k1 w1 op st en ch ac ar ak ad sc sa sk sd wc wk wd := by
    intro q
    induction q with
    | zero => intro c s1 k1 w1 n1 g1 _ hm; omega
    | succ q ih =>
      intro c s1 k1 w1 n1 g1 h2 hm fr H34 hv
      refine pk_le (b * 10 + m) (b * 10 + c) (fun hle => ?_) (fun hgt => ?_) (nI_add _ _)
      · have : c = m := by omega
        subst this
        have : g1 = tm_un g fb := by
          refine tm_v_end hv fun x hx => ?_
          exact if_pos (HB.2.2.2.2 x hx)
        subst this
        exact h1 s1 k1 w1 n1 fr H34
      · have i1 : vp_in (nI (b * 10 + c)) 350 := vp_in_nI (by omega) (by omega)
        have ek : k1 (b * 10 + c) = k (b * 10 + c) := ((fr b (by omega)).2 c (by omega)).1
        have ev : w1 (b * 10 + c) = w (b * 10 + c) := ((fr b (by omega)).2 c (by omega)).2
        have hI := tm_OI HB.2.2.1
        have hfc : fb (k (b * 10 + c)) = some (w (b * 10 + c)) := HB.2.2.2.1 c (by omega)
        have hnn : ¬ fb (k (b * 10 + c)) = none := by rw [hfc]; exact fun z => nomatch z
        have hu : tm_un g fb (k (b * 10 + c)) = some (w (b * 10 + c)) := (if_neg hnn).trans hfc
        refine ⟨i1, i1, ?_⟩
        rw [nI_clamp (by omega), ek, ev]
        refine tm_xSet (r := 34) (by omega) H34 (fun s2 k2 w2 n2 fr2 H2 => br_f tm_10 ?_) (fun hov => br_t rfl ?_)
        · exact nm_r (nI_1 _) (ih (c + 1) s2 k2 w2 n2 _ (by omega) (by omega) (tm_fr_tr fr fr2) H2 (tm_v_set (K := fun i => k (b * 10 + i)) hI (by omega) hv hu))
        · refine h0 s1 k1 w1 fr (tm_Ov_mono (fun x hx => ?_) hov)
          refine tm_set_ne' hx (by rw [hu]; exact fun z => nomatch z) fun y => tm_v_ne hv y fun z => ?_
          unfold tm_un
          split
          · exact z
          · assumption
  refine nm_r (pk_mul b 10) ⟨vp_in_nI (by omega) (by omega), nm_r (e' := nI m) (by rw [nI_clamp (by omega), HB.1]) ⟨m + 1, ?_⟩⟩
  exact loop (m + 1) 0 s k w n g (by omega) (by omega) tm_fr_rf H34 tm_v_0
theorem tm_x71 {post : Int32 → SX → Prop} {P : Nat → Prop} {G : Nat → Int32 → Option Int32} {s k w s1 k1 w1 : Nat → Int32} {a b to n1 kd : Nat} (hkd : kd < 4) (ha : a < 4) (hb : b < 4) (hto : to < 4) (hX : tm_PX P G s k w) (hPb : P b) (hP34 : ¬ P 34)
    (fr : tm_fr 34 s k w s1 k1 w1) (H34 : tm_X s1 k1 w1 34 n1 (tm_cm kd (G a) (G b)))
    (h1 : ∀ s2 k2 w2, tm_PX P (tm_gu G to (tm_R kd (G a) (G b))) s2 k2 w2 → post (s2 to) (s2, k2, w2, op, st, en, ch, ac, ar, ak, ad, sc, sa, sk, sd, wc, wk, wd))
    (h0 : ∀ s2 k2 w2, tm_Ov (tm_R kd (G a) (G b)) → tm_PX P G s2 k2 w2 → post (-2) (s2, k2, w2, op, st, en, ch, ac, ar, ak, ad, sc, sa, sk, sd, wc, wk, wd)) : wX_combine_71 post (nI kd) (nI b) (nI to) s1 k1 w1 op st en ch ac ar ak ad sc sa sk sd wc wk wd := by
  have fin : ∀ s2 k2 w2 n2, tm_fr 34 s k w s2 k2 w2 → tm_X s2 k2 w2 34 n2 (tm_R kd (G a) (G b)) → wX_combine_87 post (nI to) s2 k2 w2 op st en ch ac ar ak ad sc sa sk sd wc wk wd := by
    intro s2 k2 w2 n2 fr2 H2
    unfold wX_combine_87
    refine tm_xCp (a := 34) (by omega) (by omega) (tm_PX_u hX fr2 H2) (Or.inr rfl) (fun s3 k3 w3 H3 => ⟨vp_in_nI (by omega) (by omega), ?_⟩)
    rw [nI_clamp (by omega)]
    refine h1 s3 k3 w3 (tm_PX_of H3 fun q hq => ⟨Or.inl (Or.inl hq), ?_⟩)
    unfold tm_gu
    have x2 : q ≠ 34 := fun x => hP34 (x ▸ hq)
    by_cases x : q = to
    · rw [if_pos x, if_pos x, if_pos rfl]
    · rw [if_neg x, if_neg x, if_neg x2]
  unfold wX_combine_71
  by_cases z : kd = 1
  · subst z
    refine br_t rfl ?_
    obtain ⟨m, HB⟩ := hX b hPb
    refine tm_xAdd hb H34 (tm_fr_X fr (by omega) HB) (fun s2 k2 w2 n2 fr2 H2 => br_f tm_10 (fin s2 k2 w2 n2 (tm_fr_tr fr fr2) ?_)) (fun s2 k2 w2 fr2 hov => br_t rfl (h0 s2 k2 w2 ?_ ?_))
    · rw [tm_R, if_pos rfl]; exact H2
    · rw [tm_R, if_pos rfl]; exact hov
    · intro q hq
      obtain ⟨n, hn⟩ := hX q hq
      exact ⟨n, tm_fr_X (tm_fr_tr fr fr2) (fun x => hP34 (x ▸ hq)) hn⟩
  · refine br_f (fun x => z ((nI_eq (b := 1) (by omega) (by omega)).mp x)) (fin s1 k1 w1 n1 fr ?_)
    rw [tm_R, if_neg z]; exact H34
theorem tm_xComb {post : Int32 → SX → Prop} {P : Nat → Prop} {G : Nat → Int32 → Option Int32} {s k w : Nat → Int32} {a b to kd : Nat} (hkd : kd < 4) (ha : a < 4) (hb : b < 4) (hto : to < 4) (hX : tm_PX P G s k w) (hPa : P a) (hPb : P b) (hP34 : ¬ P 34)
    (h1 : ∀ s2 k2 w2, tm_PX P (tm_gu G to (tm_R kd (G a) (G b))) s2 k2 w2 → post (s2 to) (s2, k2, w2, op, st, en, ch, ac, ar, ak, ad, sc, sa, sk, sd, wc, wk, wd))
    (h0 : ∀ s2 k2 w2, tm_Ov (tm_R kd (G a) (G b)) → tm_PX P G s2 k2 w2 → post (-2) (s2, k2, w2, op, st, en, ch, ac, ar, ak, ad, sc, sa, sk, sd, wc, wk, wd)) : wpX_combine post (s, k, w, op, st, en, ch, ac, ar, ak, ad, sc, sa, sk, sd, wc, wk, wd) (nI kd) (nI a) (nI b) (nI to) := by
  unfold wpX_combine
  obtain ⟨n, HA⟩ := hX a hPa
  obtain ⟨m, HB⟩ := hX b hPb
  refine tm_xV1 ha (br_f tm_10 (tm_xV1 hb (br_f tm_10 (tm_xV1 hto (br_f tm_10 (br_f (nI_pos (by omega)) (br_t (nI_le (b := 3) (by omega) (by omega)) ?_)))))))
  by_cases z2 : kd = 2
  · subst z2
    refine br_t rfl (br_f (by decide) ?_)
    unfold wX_combine_58
    exact tm_xChoose ha hb HA HB (Or.inl ⟨rfl, rfl⟩) fun s1 k1 w1 n1 fr H1 => tm_x71 hkd ha hb hto hX hPb hP34 fr H1 h1 h0
  · refine br_f (fun x => z2 ((nI_eq (b := 2) (by omega) (by omega)).mp x)) ?_
    by_cases z3 : kd = 3
    · subst z3
      refine br_t rfl (br_t rfl ?_)
      unfold wX_combine_58
      exact tm_xChoose ha hb HA HB (Or.inr ⟨rfl, rfl⟩) fun s1 k1 w1 n1 fr H1 => tm_x71 hkd ha hb hto hX hPb hP34 fr H1 h1 h0
    · refine br_f (fun x => z3 ((nI_eq (b := 3) (by omega) (by omega)).mp x)) ?_
      refine tm_xCopy (b := 34) (by omega) (by omega) HA (fun s1 k1 w1 fr H1 => tm_x71 (n1 := n) hkd ha hb hto hX hPb hP34 fr ?_ h1 h0)
      have : tm_cm kd (G a) (G b) = G a := by
        funext x
        exact if_pos (Or.inl (by omega))
      rw [this]; exact H1
theorem tm_y89 {post : Int32 → SY → Prop} {J : Int32 → (Nat → Int32) → (Nat → Int32) → (Nat → Int32) → (Nat → Int32) → (Nat → Int32) → (Nat → Int32) → (Nat → Int32) → (Nat → Int32) → (Nat → Int32) → (Nat → Int32) → (Nat → Int32) → (Nat → Int32) → (Nat → Int32) → (Nat → Int32) → (Nat → Int32) → (Nat → Int32) → (Nat → Int32) → (Nat → Int32) → Prop} {s k w : Nat → Int32} {x2 x3 x4 x5 z : Int32} {kd : Nat} (hkd : kd < 4)
    (h1 : (kd < 2 ∨ (kd = 2 ∧ z = 0) ∨ (kd = 3 ∧ ¬ z = 0)) → wY_combine_116 post J (nI kd) x2 x3 x4 x5 k w s op st en ch ar ak ad ac sa sk sd sc wk wd wc)
    (h0 : ¬ (kd < 2 ∨ (kd = 2 ∧ z = 0) ∨ (kd = 3 ∧ ¬ z = 0)) → ∀ y : Int32, y = x5 + 1 → J y k w s op st en ch ar ak ad ac sa sk sd sc wk wd wc) : wY_combine_89 post J (nI kd) x2 x3 x4 x5 z k w s op st en ch ar ak ad ac sa sk sd sc wk wd wc := by
  by_cases c0 : kd < 2
  · exact br_t (nI_lt (b := 2) c0 (by omega)) (h1 (Or.inl c0))
  · refine br_f (nI_nlt (b := 2) (by omega) (by omega)) ?_
    by_cases c2 : kd = 2
    · subst c2
      refine br_t rfl (br_c (fun y => h1 (Or.inr (Or.inl ⟨rfl, y⟩))) (fun y => br_f (by decide) (h0 ?_)))
      intro q
      rcases q with q | q | q
      · omega
      · exact y q.2
      · omega
    · have c3 : kd = 3 := by omega
      subst c3
      refine br_f (by decide) (br_t rfl (br_c (fun y => h0 ?_) (fun y => h1 (Or.inr (Or.inr ⟨rfl, y⟩)))))
      intro q
      rcases q with q | q | q
      · omega
      · omega
      · exact q.2 y
theorem tm_yChoose {post : Int32 → SY → Prop} {s k w : Nat → Int32} {a b to n m kd : Nat} {fa fb : Int32 → Option Int32} (hkd : kd < 4) (ha : a < 4) (hb : b < 4) (HA : tm_Y s k w a n fa) (HB : tm_Y s k w b m fb)
    (h : ∀ s1 k1 w1 n1, tm_fr 34 s k w s1 k1 w1 → tm_Y s1 k1 w1 34 n1 (tm_cm kd fa fb) → (kd = 1 → ∃ q, wY_combine_154 post (nI b) (nI to) q (nI (b * 10)) k1 w1 s1 op st en ch ar ak ad ac sa sk sd sc wk wd wc) ∧ (kd ≠ 1 → wY_combine_202 post (nI to) k1 w1 s1 op st en ch ar ak ad ac sa sk sd sc wk wd wc)) :
    ∃ q, wY_combine_53 post (nI kd) (nI a) (nI b) (nI to) q (nI (a * 10)) k w (upd s 34 0) op st en ch ar ak ad ac sa sk sd sc wk wd wc := by
  have hn := HA.2.1
  have loop : ∀ q c s1 k1 w1 n1 g, c ≤ n → n - c < q → tm_fr 34 s k w s1 k1 w1 → tm_Y s1 k1 w1 34 n1 g → tm_v c (fun i => k (a * 10 + i)) (tm_cm kd fa fb) (fun _ => none) g →
      wY_combine_53 post (nI kd) (nI a) (nI b) (nI to) q (nI (a * 10 + c)) k1 w1 s1 op st en ch ar ak ad ac sa sk sd sc wk wd wc := by
    intro q
    induction q with
    | zero => intro c s1 k1 w1 n1 g _ hm; omega
    | succ q ih =>
      intro c s1 k1 w1 n1 g h2 hm fr H34 hv
      have HA1 := tm_fr_Y fr (by omega) HA
      have HB1 := tm_fr_Y fr (by omega) HB
      refine ⟨vp_in_nI (by omega) (by omega), pk_le (a * 10 + n) (a * 10 + c) (fun hle => ?_) (fun hgt => ?_) (by rw [nI_clamp (by omega), HA1.1, tm_r10])⟩
      · have : c = n := by omega
        subst this
        have : g = tm_cm kd fa fb := by
          refine tm_v_end hv fun x hx => ?_
          have hf : fa x = none := HA.2.2.2.2 x hx
          unfold tm_cm
          split
          · exact hf
          · rfl
        subst this
        have hh := h s1 k1 w1 n1 fr H34
        exact pk_eq kd 1 (fun e => nm_r (pk_mul b 10) (hh.1 e)) (fun e => hh.2 e)
      · have i1 : vp_in (nI (a * 10 + c)) 390 := vp_in_nI (by omega) (by omega)
        have ek : k1 (a * 10 + c) = k (a * 10 + c) := ((fr a (by omega)).2 c (by omega)).1
        have ev : w1 (a * 10 + c) = w (a * 10 + c) := ((fr a (by omega)).2 c (by omega)).2
        have hI := HA.2.2.1
        have hfc : fa (k (a * 10 + c)) = some (w (a * 10 + c)) := HA.2.2.2.1 c (by omega)
        have ec : (nI (a * 10 + c)).toNatClampNeg = a * 10 + c := nI_clamp (by omega)
        refine ⟨i1, ?_⟩
        rw [ec, ek]
        have skip : tm_cm kd fa fb (k (a * 10 + c)) = none → ∀ x6 : Int32, x6 = nI (a * 10 + c) + 1 → wY_combine_53 post (nI kd) (nI a) (nI b) (nI to) q x6 k1 w1 s1 op st en ch ar ak ad ac sa sk sd sc wk wd wc := fun e =>
          nm_r (nI_1 _) (ih (c + 1) s1 k1 w1 n1 g (by omega) (by omega) fr H34 (tm_v_not (K := fun i => k (a * 10 + i)) hI (by omega) hv e))
        have take : tm_cm kd fa fb (k (a * 10 + c)) = some (w (a * 10 + c)) → wY_combine_116 post (wY_combine_53 post (nI kd) (nI a) (nI b) (nI to) q) (nI kd) (nI a) (nI b) (nI to) (nI (a * 10 + c)) k1 w1 s1 op st en ch ar ak ad ac sa sk sd sc wk wd wc := by
          intro e
          refine ⟨i1, i1, ?_⟩
          rw [ec, ek, ev]
          refine tm_ySet (r := 34) (by omega) H34 (fun s2 k2 w2 n2 fr2 H2 => ?_) (fun hov => ?_)
          · exact nm_r (nI_1 _) (ih (c + 1) s2 k2 w2 n2 _ (by omega) (by omega) (tm_fr_tr fr fr2) H2 (tm_v_set (K := fun i => k (a * 10 + i)) hI (by omega) hv e))
          · refine (tm_no HA (tm_Ov_mono (fun x hx => ?_) hov)).elim
            refine tm_set_ne' hx (by rw [hfc]; exact fun z => nomatch z) fun y => tm_cm_ne (kd := kd) (fb := fb) (tm_v_ne hv y fun z => absurd rfl z)
        have cmt : (kd < 2 ∨ (kd = 2 ∧ fb (k (a * 10 + c)) = none) ∨ (kd = 3 ∧ ¬ fb (k (a * 10 + c)) = none)) → tm_cm kd fa fb (k (a * 10 + c)) = some (w (a * 10 + c)) := fun y => (if_pos y).trans hfc
        have cmn : ¬ (kd < 2 ∨ (kd = 2 ∧ fb (k (a * 10 + c)) = none) ∨ (kd = 3 ∧ ¬ fb (k (a * 10 + c)) = none)) → tm_cm kd fa fb (k (a * 10 + c)) = none := fun y => if_neg y
        refine tm_yFind (by omega) HB1 (fun p hp e => br_f (nI_pos (by have := HB.2.1; omega)) ?_) (fun hf hne => br_t (by decide) ?_)
        · have hfb : ¬ fb (k (a * 10 + c)) = none := by rw [← e]; exact tm_F_none HB1.2.2.2 hp
          refine tm_y89 hkd (fun y => take (cmt ?_)) (fun y => skip (cmn fun q => y ?_))
          · rcases y with y | y | y
            · exact Or.inl y
            · exact absurd y.2 tm_10
            · exact Or.inr (Or.inr ⟨y.1, hfb⟩)
          · rcases q with q | q | q
            · exact Or.inl q
            · exact absurd q.2 hfb
            · exact Or.inr (Or.inr ⟨q.1, tm_10⟩)
        · refine tm_y89 hkd (fun y => take (cmt ?_)) (fun y => skip (cmn fun q => y ?_))
          · rcases y with y | y | y
            · exact Or.inl y
            · exact Or.inr (Or.inl ⟨y.1, hf⟩)
            · exact absurd rfl y.2
          · rcases q with q | q | q
            · exact Or.inl q
            · exact Or.inr (Or.inl ⟨q.1, rfl⟩)
            · exact absurd hf q.2
  exact ⟨n + 1, loop (n + 1) 0 _ _ _ 0 _ (by omega) (by omega) tm_fr_0 (tm_XY tm_X_0) tm_v_0⟩
theorem tm_yAdd {post : Int32 → SY → Prop} {s k w : Nat → Int32} {b to n m : Nat} {g fb : Int32 → Option Int32} (hb : b < 4) (H34 : tm_Y s k w 34 n g) (HB : tm_Y s k w b m fb)
    (h1 : ∀ s1 k1 w1 n1, tm_fr 34 s k w s1 k1 w1 → tm_Y s1 k1 w1 34 n1 (tm_un g fb) → wY_combine_202 post (nI to) k1 w1 s1 op st en ch ar ak ad ac sa sk sd sc wk wd wc) (h0 : ∀ s1 k1 w1, tm_fr 34 s k w s1 k1 w1 → tm_Ov (tm_un g fb) → post (-2) (k1, w1, s1, op, st, en, ch, ar, ak, ad, ac, sa, sk, sd, sc, wk, wd, wc)) :
    ∃ q, wY_combine_154 post (nI b) (nI to) q (nI (b * 10)) k w s op st en ch ar ak ad ac sa sk sd sc wk wd wc := by
  have hm := HB.2.1
  have loop : ∀ q c s1 k1 w1 n1 g1, c ≤ m → m - c < q → tm_fr 34 s k w s1 k1 w1 → tm_Y s1 k1 w1 34 n1 g1 → tm_v c (fun i => k (b * 10 + i)) (tm_un g fb) g g1 →
      wY_combine_154 post (nI b) (nI to) q (nI (b * 10 + c)) k1 w1 s1 op st en ch ar ak ad ac sa sk sd sc wk wd wc := by
    intro q
    induction q with
    | zero => intro c s1 k1 w1 n1 g1 _ hm; omega
    | succ q ih =>
      intro c s1 k1 w1 n1 g1 h2 hm fr H34 hv
      have HB1 := tm_fr_Y fr (by omega) HB
      refine ⟨vp_in_nI (by omega) (by omega), pk_le (b * 10 + m) (b * 10 + c) (fun hle => ?_) (fun hgt => ?_) (by rw [nI_clamp (by omega), HB1.1, tm_r10])⟩
      · have : c = m := by omega
        subst this
        have : g1 = tm_un g fb := by
          refine tm_v_end hv fun x hx => ?_
          exact if_pos (HB.2.2.2.2 x hx)
        subst this
        exact h1 s1 k1 w1 n1 fr H34
      · have i1 : vp_in (nI (b * 10 + c)) 390 := vp_in_nI (by omega) (by omega)
        have ek : k1 (b * 10 + c) = k (b * 10 + c) := ((fr b (by omega)).2 c (by omega)).1
        have ev : w1 (b * 10 + c) = w (b * 10 + c) := ((fr b (by omega)).2 c (by omega)).2
        have hI := HB.2.2.1
        have hfc : fb (k (b * 10 + c)) = some (w (b * 10 + c)) := HB.2.2.2.1 c (by omega)
        have hnn : ¬ fb (k (b * 10 + c)) = none := by rw [hfc]; exact fun z => nomatch z
        have hu : tm_un g fb (k (b * 10 + c)) = some (w (b * 10 + c)) := (if_neg hnn).trans hfc
        refine ⟨i1, i1, ?_⟩
        rw [nI_clamp (show b * 10 + c < 2 ^ 31 by omega), ek, ev]
        refine tm_ySet (r := 34) (by omega) H34 (fun s2 k2 w2 n2 fr2 H2 => br_f tm_10 ?_) (fun hov => br_t rfl ?_)
        · exact nm_r (nI_1 _) (ih (c + 1) s2 k2 w2 n2 _ (by omega) (by omega) (tm_fr_tr fr fr2) H2 (tm_v_set (K := fun i => k (b * 10 + i)) hI (by omega) hv hu))
        · refine h0 s1 k1 w1 fr (tm_Ov_mono (fun x hx => ?_) hov)
          refine tm_set_ne' hx (by rw [hu]; exact fun z => nomatch z) fun y => tm_v_ne hv y fun z => ?_
          unfold tm_un
          split
          · exact z
          · assumption
  exact ⟨m + 1, loop (m + 1) 0 s k w n g (by omega) (by omega) tm_fr_rf H34 tm_v_0⟩
theorem tm_yComb {post : Int32 → SY → Prop} {P : Nat → Prop} {G : Nat → Int32 → Option Int32} {s k w : Nat → Int32} {a b to kd : Nat} (hkd : kd < 4) (ha : a < 4) (hb : b < 4) (hto : to < 4) (hY : tm_PY P G s k w) (hPa : P a) (hPb : P b) (hP34 : ¬ P 34)
    (h1 : ∀ s2 k2 w2, tm_PY P (tm_gu G to (tm_R kd (G a) (G b))) s2 k2 w2 → post (s2 to) (k2, w2, s2, op, st, en, ch, ar, ak, ad, ac, sa, sk, sd, sc, wk, wd, wc))
    (h0 : ∀ s2 k2 w2, tm_Ov (tm_R kd (G a) (G b)) → tm_PY P G s2 k2 w2 → post (-2) (k2, w2, s2, op, st, en, ch, ar, ak, ad, ac, sa, sk, sd, sc, wk, wd, wc)) : wpY_combine post (k, w, s, op, st, en, ch, ar, ak, ad, ac, sa, sk, sd, sc, wk, wd, wc) (nI kd) (nI a) (nI b) (nI to) := by
  unfold wpY_combine
  obtain ⟨n, HA⟩ := hY a hPa
  obtain ⟨m, HB⟩ := hY b hPb
  have fin : ∀ s2 k2 w2 n2, tm_fr 34 s k w s2 k2 w2 → tm_Y s2 k2 w2 34 n2 (tm_R kd (G a) (G b)) → wY_combine_202 post (nI to) k2 w2 s2 op st en ch ar ak ad ac sa sk sd sc wk wd wc := by
    intro s2 k2 w2 n2 fr2 H2
    unfold wY_combine_202
    refine tm_yCp (a := 34) (by omega) (by omega) (tm_PY_u hY fr2 H2) (Or.inr rfl) (fun s3 k3 w3 H3 => ⟨vp_in_nI (by omega) (by omega), ?_⟩)
    rw [nI_clamp (by omega)]
    refine h1 s3 k3 w3 (tm_PY_of H3 fun q hq => ⟨Or.inl (Or.inl hq), ?_⟩)
    unfold tm_gu
    have x2 : q ≠ 34 := fun x => hP34 (x ▸ hq)
    by_cases x : q = to
    · rw [if_pos x, if_pos x, if_pos rfl]
    · rw [if_neg x, if_neg x, if_neg x2]
  refine tm_yB1 4 ha (by omega) (br_f tm_10 (tm_yB1 4 hb (by omega) (br_f tm_10 (tm_yB1 4 hto (by omega) (br_f tm_10 (tm_yB1 4 hkd (by omega) (br_f tm_10 (nm_e (nm_r (pk_mul a 10) ?_)))))))))
  refine tm_yChoose hkd ha hb HA HB fun s1 k1 w1 n1 fr H1 => ⟨fun e => ?_, fun e => fin s1 k1 w1 n1 fr ?_⟩
  · subst e
    refine tm_yAdd hb H1 (tm_fr_Y fr (by omega) HB) (fun s2 k2 w2 n2 fr2 H2 => fin s2 k2 w2 n2 (tm_fr_tr fr fr2) ?_) (fun s2 k2 w2 fr2 hov => h0 s2 k2 w2 ?_ ?_)
    · rw [tm_R, if_pos rfl]; exact H2
    · rw [tm_R, if_pos rfl]; exact hov
    · intro q hq
      obtain ⟨n, hn⟩ := hY q hq
      exact ⟨n, tm_fr_Y (tm_fr_tr fr fr2) (fun x => hP34 (x ▸ hq)) hn⟩
  · rw [tm_R, if_neg e]; exact H1
end
theorem i_vc_combine {k : Nat} {u : SX} {v : SY} (I : i_Rel k u v) (hk : k + 5 ≤ 2561) (v1 : Int32) (v2 : Int32) (v3 : Int32) (v4 : Int32) : wpX_combine (fun r u' => wpY_combine (fun r' v' => r' = r ∧ i_Rel (k + 5) u' v') v v1 v2 v3 v4) u v1 v2 v3 v4 := by
  obtain ⟨s, ky, w, s', k', w', op, st, en, ch, ac, ar, ak, ad, sc, sa, sk, sd, wc, wk, wd, G, rfl, rfl, hX, hY, hQ⟩ := I
  rcases tm_ix v2 (n := 4) (by omega) with h | ⟨a, ha, rfl⟩
  · unfold wpX_combine wpY_combine
    exact tm_xV0 h (br_t rfl (tm_yB0 4 h (br_t rfl ⟨rfl, tm_mk hX hY hQ⟩)))
  · rcases tm_ix v3 (n := 4) (by omega) with h | ⟨b, hb, rfl⟩
    · unfold wpX_combine wpY_combine
      exact tm_xV1 ha (br_f tm_10 (tm_xV0 h (br_t rfl (tm_yB1 4 ha (by omega) (br_f tm_10 (tm_yB0 4 h (br_t rfl ⟨rfl, tm_mk hX hY hQ⟩)))))))
    · rcases tm_ix v4 (n := 4) (by omega) with h | ⟨to, hto, rfl⟩
      · unfold wpX_combine wpY_combine
        exact tm_xV1 ha (br_f tm_10 (tm_xV1 hb (br_f tm_10 (tm_xV0 h (br_t rfl (tm_yB1 4 ha (by omega) (br_f tm_10 (tm_yB1 4 hb (by omega) (br_f tm_10 (tm_yB0 4 h (br_t rfl ⟨rfl, tm_mk hX hY hQ⟩)))))))))))
      · rcases tm_ix v1 (n := 4) (by omega) with h | ⟨kd, hkd, rfl⟩
        · unfold wpX_combine wpY_combine
          refine tm_xV1 ha (br_f tm_10 (tm_xV1 hb (br_f tm_10 (tm_xV1 hto (br_f tm_10 ?_)))))
          have yy : ∀ r : Int32, r = -1 → wpY_combine (fun r' v' => r' = r ∧ i_Rel (k + 5) (s, ky, w, op, st, en, ch, ac, ar, ak, ad, sc, sa, sk, sd, wc, wk, wd) v') (k', w', s', op, st, en, ch, ar, ak, ad, ac, sa, sk, sd, sc, wk, wd, wc) v1 (nI a) (nI b) (nI to) := by
            intro r hr
            unfold wpY_combine
            exact tm_yB1 4 ha (by omega) (br_f tm_10 (tm_yB1 4 hb (by omega) (br_f tm_10 (tm_yB1 4 hto (by omega) (br_f tm_10 (tm_yB0 4 h (br_t rfl ⟨hr.symm, tm_mk hX hY hQ⟩)))))))
          by_cases z : v1 < 0
          · exact br_t z (yy _ rfl)
          · refine br_f z (br_f (fun y => ?_) (yy _ rfl))
            exact absurd (Int32.le_trans (h.resolve_left z) y) (by decide)
        · have hPa : tm_P op st a := Or.inl (by omega)
          have hPb : tm_P op st b := Or.inl (by omega)
          have hPt : tm_P op st to := Or.inl (by omega)
          refine tm_xComb hkd ha hb hto hX hPa hPb tm_P_34 (fun s2 k2 w2 HX => ?_) (fun s2 k2 w2 hov HX => ?_)
          · exact tm_yComb hkd ha hb hto hY hPa hPb tm_P_34 (fun s3 k3 w3 HY => ⟨tm_sz HX HY hPt hPt, tm_mk HX HY hQ⟩) (fun s3 k3 w3 hov _ => (tm_noX HX hPt tm_gu_s hov).elim)
          · exact tm_yComb hkd ha hb hto hY hPa hPb tm_P_34 (fun s3 k3 w3 HY => (tm_noY HY hPt tm_gu_s hov).elim) (fun s3 k3 w3 _ HY => ⟨rfl, tm_mk HX HY hQ⟩)
end
