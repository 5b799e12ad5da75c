section
section
variable {op st en ch ac ar ak ad sc sa sk sd wc wk wd : Nat → Int32}
theorem tm_xOld {post : SX → Prop} {s k w : Nat → Int32} {g m : Nat} (hg : g < 2) (hm : m < 8) (e : wc g = nI (m + 1))
    (h : post (s, k, w, op, st, en, ch, ac, ar, ak, ad, sc, sa, sk, sd, upd wc g (nI m), tm_dn wk (g * 8) (g * 8 + m), tm_dn wd (g * 8) (g * 8 + m))) : wpX_dropOldestAction post (s, k, w, op, st, en, ch, ac, ar, ak, ad, sc, sa, sk, sd, wc, wk, wd) (nI g) := by
  have i0 : vp_in (nI g) 2 := vp_in_nI hg (by omega)
  have loop : ∀ q c, g * 8 ≤ c → c ≤ g * 8 + m → g * 8 + m - c < q → wX_dropOldestAction_19 post (nI g) (nI (g * 8 + m)) q (nI c) s k w op st en ch ac ar ak ad sc sa sk sd wc (tm_dn wk (g * 8) c) (tm_dn wd (g * 8) c) := by
    intro q
    induction q with
    | zero => intro c _ _ hm; omega
    | succ q ih =>
      intro c h1 h2 hm
      refine pk_le (g * 8 + m) c (fun hle => ?_) (fun hgt => ?_)
      · have : c = g * 8 + m := by omega
        subst this
        exact ⟨i0, i0, nm_r (by rw [nI_clamp (by omega), e, nI_pred]) h⟩
      · have i1 : vp_in (nI c + 1) 16 := pk_in (c + 1) 16 (by omega) (nI_1 c)
        have i2 : vp_in (nI c) 16 := vp_in_nI (by omega) (by omega)
        refine ⟨i1, i2, nm_r (e' := tm_dn wk (g * 8) (c + 1)) ?_ ⟨i1, i2, nm_r (e' := tm_dn wd (g * 8) (c + 1)) ?_ (nm_r (nI_1 c) (ih (c + 1) (by omega) (by omega) (by omega)))⟩⟩
        · rw [nI_1, nI_clamp (by omega), nI_clamp (by omega)]; exact tm_dn_1 wk h1
        · rw [nI_1, nI_clamp (by omega), nI_clamp (by omega)]; exact tm_dn_1 wd h1
  refine nm_r (e' := nI (g * 8)) (pk_mul g 8) ⟨i0, nm_r (e' := nI (g * 8 + m)) (by rw [nI_clamp (by omega), e, nI_add, ← Nat.add_assoc, nI_pred]) ⟨m + 1, ?_⟩⟩
  have := loop (m + 1) (g * 8) (by omega) (by omega) (by omega)
  rw [tm_dn_0, tm_dn_0] at this
  exact this
theorem tm_yOld {post : Int32 → SY → Prop} {s k w : Nat → Int32} {g m : Nat} {key d : Int32} (hg : g < 2) (hm : m < 8) (e : wc g = nI m)
    (h : wpY_adjusted (fun r u => match u with | (b, c, a, d1, d2, d3, d4, d6, d7, d8, d5, d10, d11, d12, d9, d14, d15, d13) => (r = 0 → post (-2) (b, c, a, d1, d2, d3, d4, d6, d7, d8, d5, d10, d11, d12, d9, d14, d15, d13)) ∧ (¬ r = 0 → post 1 (b, c, a, d1, d2, d3, d4, d6, d7, d8, d5, d10, d11, d12, d9, d14, d15, d13)))
      (k, w, s, op, st, en, ch, ar, ak, ad, ac, sa, sk, sd, sc, tm_dn wk (g * 8) (g * 8 + m), tm_dn wd (g * 8) (g * 8 + m), wc) (8 + nI g) key d) : ∃ n, wY_act_58 post (nI g) key d n (nI (g * 8)) k w s op st en ch ar ak ad ac sa sk sd sc wk wd wc := by
  have i0 : vp_in (nI g) 2 := vp_in_nI hg (by omega)
  have loop : ∀ q c, g * 8 ≤ c → c ≤ g * 8 + m → g * 8 + m - c < q → wY_act_58 post (nI g) key d q (nI c) k w s op st en ch ar ak ad ac sa sk sd sc (tm_dn wk (g * 8) c) (tm_dn wd (g * 8) c) wc := by
    intro q
    induction q with
    | zero => intro c _ _ hm; omega
    | succ q ih =>
      intro c h1 h2 hm
      refine ⟨i0, pk_le (g * 8 + m) c (fun hle => ?_) (fun hgt => ?_) (by rw [nI_clamp (by omega), e, tm_r8])⟩
      · have : c = g * 8 + m := by omega
        subst this
        exact h
      · have i1 : vp_in (nI c + 1) 16 := pk_in (c + 1) 16 (by omega) (nI_1 c)
        have i2 : vp_in (nI c) 16 := vp_in_nI (by omega) (by omega)
        refine ⟨i1, i2, nm_r (e' := tm_dn wk (g * 8) (c + 1)) ?_ ⟨i1, i2, nm_r (e' := tm_dn wd (g * 8) (c + 1)) ?_ (nm_r (nI_1 c) (ih (c + 1) (by omega) (by omega) (by omega)))⟩⟩
        · rw [nI_1, nI_clamp (by omega), nI_clamp (by omega)]; exact tm_dn_1 wk h1
        · rw [nI_1, nI_clamp (by omega), nI_clamp (by omega)]; exact tm_dn_1 wd h1
  refine ⟨m + 1, ?_⟩
  have := loop (m + 1) (g * 8) (by omega) (by omega) (by omega)
  rw [tm_dn_0, tm_dn_0] at this
  exact this
end
theorem i_vc_act {k : Nat} {u : SX} {v : SY} (I : i_Rel k u v) (hk : k + 5 ≤ 2561) (v1 : Int32) : wpX_act (fun r u' => wpY_act (fun r' v' => r' = r ∧ i_Rel (k + 5) u' v') v v1) u v1 := by
  obtain ⟨s, k, w, s', k', w', op, st, en, ch, ac, ar, ak, ad, sc, sa, sk, sd, wc, wk, wd, G, rfl, rfl, hX, hY, hQ⟩ := I
  unfold wpX_act
  rcases tm_ix v1 (n := 2) (by omega) with h | ⟨g, hg, rfl⟩
  · exact tm_xG0 h (br_t rfl (by unfold wpY_act; exact tm_yB0 2 h (br_t rfl ⟨rfl, tm_mk hX hY hQ⟩)))
  · obtain ⟨c, hc, e⟩ := hQ.2.2.2 g hg
    have i0 : vp_in (nI g) 2 := vp_in_nI hg (by omega)
    have ew : wc (nI g).toNatClampNeg = nI c := by rw [nI_clamp (by omega), e]
    refine tm_xG1 hg (br_f tm_10 ?_)
    cases c with
    | zero => exact ⟨i0, br_t ew (by unfold wpY_act; exact tm_yB1 2 hg (by omega) (br_f tm_10 ⟨i0, br_t ew ⟨rfl, tm_mk hX hY hQ⟩⟩))⟩
    | succ m =>
      have hne : ¬ wc (nI g).toNatClampNeg = 0 := by rw [ew]; exact nI_ne0 (by omega) (by omega)
      have i1 : vp_in (nI (g * 8)) 16 := vp_in_nI (by omega) (by omega)
      have i2 : vp_in (nI g * 8) 16 := pk_in (g * 8) 16 (by omega) (pk_mul g 8)
      have ec : (nI (g * 8)).toNatClampNeg = g * 8 := nI_clamp (by omega)
      have ec2 : (nI g * 8).toNatClampNeg = g * 8 := by rw [show nI g * 8 = nI (g * 8) from pk_mul g 8, ec]
      have hPg : tm_P op st (8 + g) := Or.inl (by omega)
      have hQ' : tm_Q st ac ar sc sa (upd wc g (nI m)) := ⟨hQ.1, hQ.2.1, hQ.2.2.1, tm_wc hQ.2.2.2 (by omega)⟩
      refine ⟨i0, br_f hne (nm_r (e' := nI (g * 8)) (pk_mul g 8) ⟨i1, nm_r (e' := wk (g * 8)) (by rw [ec]) ⟨i1, nm_r (e' := wd (g * 8)) (by rw [ec]) ?_⟩⟩)⟩
      refine tm_xOld hg (by omega) e ?_
      have yy : ∀ post : Int32 → SY → Prop, wpY_adjusted (fun r u => match u with | (b, c, a, d1, d2, d3, d4, d6, d7, d8, d5, d10, d11, d12, d9, d14, d15, d13) => (r = 0 → post (-2) (b, c, a, d1, d2, d3, d4, d6, d7, d8, d5, d10, d11, d12, d9, d14, d15, d13)) ∧ (¬ r = 0 → post 1 (b, c, a, d1, d2, d3, d4, d6, d7, d8, d5, d10, d11, d12, d9, d14, d15, d13)))
        (k', w', s', op, st, en, ch, ar, ak, ad, ac, sa, sk, sd, sc, tm_dn wk (g * 8) (g * 8 + m), tm_dn wd (g * 8) (g * 8 + m), upd wc g (nI m)) (8 + nI g) (wk (g * 8)) (wd (g * 8)) → wpY_act post (k', w', s', op, st, en, ch, ar, ak, ad, ac, sa, sk, sd, sc, wk, wd, wc) (nI g) := by
        intro post h
        unfold wpY_act
        refine tm_yB1 2 hg (by omega) (br_f tm_10 ⟨i0, br_f hne ⟨i2, nm_r (e' := wk (g * 8)) (by rw [ec2]) ⟨i2, nm_r (e' := wd (g * 8)) (by rw [ec2]) ⟨i0, i0, nm_r (e' := upd wc g (nI m)) (by rw [ew, nI_clamp (by omega), nI_pred]) (nm_r (e' := nI (g * 8)) (pk_mul g 8) ?_)⟩⟩⟩⟩)
        exact tm_yOld hg (by omega) pk_us h
      rw [tm_a8] at yy ⊢
      refine tm_xAj (by omega) hX hPg (fun s1 k1 w1 HX => br_f tm_10 (yy _ ?_)) (fun hov => br_t rfl (yy _ ?_))
      · exact tm_yAj (by omega) hY hPg (fun s2 k2 w2 HY => br_f tm_10 ⟨rfl, tm_mk HX HY hQ'⟩) (fun hov => (tm_noX HX hPg tm_gu_s hov).elim)
      · exact tm_yAj (by omega) hY hPg (fun s2 k2 w2 HY => (tm_noY HY hPg tm_gu_s hov).elim) (fun _ => br_t rfl ⟨rfl, tm_mk hX hY hQ'⟩)
/-! begin -/
def tm_zr (t : Nat) (a : Nat → Int32) (z : Int32) : Nat → Nat → Int32
  | 0 => a
  | c + 1 => upd (tm_zr t a z c) (t * 4 + c) z
def tm_gB (t : Nat) (G : Nat → Int32 → Option Int32) : Nat → Nat → Int32 → Option Int32
  | 0 => G
  | c + 1 => tm_gu (tm_gB t G c) (10 + (t * 4 + c)) (tm_gB t G c (4 + c))
theorem tm_zr_s {t : Nat} {a : Nat → Int32} {z : Int32} : ∀ {c i : Nat}, i < c → tm_zr t a z c (t * 4 + i) = z := by
  intro c
  induction c with
  | zero => intro i hi; omega
  | succ c ih =>
    intro i hi
    by_cases y : i = c
    · subst y; exact pk_us
    · exact (pk_un (by omega)).trans (ih (by omega))
theorem tm_zr_n {t : Nat} {a : Nat → Int32} {z : Int32} : ∀ {c j : Nat}, (j < t * 4 ∨ t * 4 + c ≤ j) → tm_zr t a z c j = a j := by
  intro c
  induction c with
  | zero => intro j _; rfl
  | succ c ih =>
    intro j hj
    exact (pk_un (by omega)).trans (ih (by omega))
section
variable {op st en ch ac ar ak ad sc sa sk sd wc wk wd : Nat → Int32}
theorem tm_xBeg {post : Int32 → SX → Prop} {P : Nat → Prop} {G : Nat → Int32 → Option Int32} {s k w : Nat → Int32} {t : Nat} (ht : t < 3) (hP : ∀ q, q < 22 → P q) (H : tm_PX P G s k w)
    (h : ∀ s1 k1 w1, tm_PX P (tm_gB t G 4) s1 k1 w1 → post 1 (s1, k1, w1, op, tm_zr t st 0 4, tm_zr t en (vp_nar .boolean 0) 4, tm_zr t ch (vp_nar .boolean 0) 4, ac, ar, ak, ad, sc, sa, sk, sd, wc, wk, wd)) :
    ∃ n, wX_begin_41 post (nI t) n 0 s k w op st en ch ac ar ak ad sc sa sk sd wc wk wd := by
  have loop : ∀ q c s k w, c ≤ 4 → 4 - c < q → tm_PX P (tm_gB t G c) s k w → wX_begin_41 post (nI t) q (nI c) s k w op (tm_zr t st 0 c) (tm_zr t en (vp_nar .boolean 0) c) (tm_zr t ch (vp_nar .boolean 0) c) ac ar ak ad sc sa sk sd wc wk wd := by
    intro q
    induction q with
    | zero => intro c s k w _ hm; omega
    | succ q ih =>
      intro c s k w h2 hm HX
      refine pk_le 4 c (fun hle => ?_) (fun hgt => ?_)
      · have : c = 4 := by omega
        subst this
        exact h s k w HX
      · have i1 : vp_in (nI (t * 4 + c)) 12 := vp_in_nI (by omega) (by omega)
        have ec : (nI (t * 4 + c)).toNatClampNeg = t * 4 + c := nI_clamp (by omega)
        refine nm_r (e' := nI (t * 4 + c)) (tm_r4 t c) ⟨i1, nm_r (e' := tm_zr t st 0 (c + 1)) (by rw [ec]; rfl) ⟨i1, nm_r (e' := tm_zr t en (vp_nar .boolean 0) (c + 1)) (by rw [ec]; rfl) ⟨i1, nm_r (e' := tm_zr t ch (vp_nar .boolean 0) (c + 1)) (by rw [ec]; rfl) ?_⟩⟩⟩
        rw [tm_a4, tm_a10]
        refine tm_xCp (by omega) (by omega) HX (hP _ (by omega)) (fun s1 k1 w1 HX1 => nm_r (nI_1 c) (ih (c + 1) s1 k1 w1 (by omega) (by omega) ?_))
        exact tm_PX_of HX1 fun q hq => ⟨Or.inl hq, rfl⟩
  exact ⟨5, loop 5 0 s k w (by omega) (by omega) H⟩
theorem tm_yBeg {post : Int32 → SY → Prop} {P : Nat → Prop} {G : Nat → Int32 → Option Int32} {s k w : Nat → Int32} {t : Nat} (ht : t < 3) (hP : ∀ q, q < 22 → P q) (H : tm_PY P G s k w)
    (h : ∀ s1 k1 w1, tm_PY P (tm_gB t G 4) s1 k1 w1 → post 1 (k1, w1, s1, op, tm_zr t st 0 4, tm_zr t en (vp_nar .boolean 0) 4, tm_zr t ch (vp_nar .boolean 0) 4, ar, ak, ad, upd ac t 0, sa, sk, sd, upd sc t 0, wk, wd, wc)) :
    ∃ n, wY_begin_29 post (nI t) n 0 k w s op st en ch ar ak ad ac sa sk sd sc wk wd wc := by
  have loop : ∀ q c s k w, c ≤ 4 → 4 - c < q → tm_PY P (tm_gB t G c) s k w → wY_begin_29 post (nI t) q (nI c) k w s op (tm_zr t st 0 c) (tm_zr t en (vp_nar .boolean 0) c) (tm_zr t ch (vp_nar .boolean 0) c) ar ak ad ac sa sk sd sc wk wd wc := by
    intro q
    induction q with
    | zero => intro c s k w _ hm; omega
    | succ q ih =>
      intro c s k w h2 hm HX
      refine pk_le 4 c (fun hle => ?_) (fun hgt => ?_)
      · have : c = 4 := by omega
        subst this
        have i0 : vp_in (nI t) 3 := vp_in_nI ht (by omega)
        exact ⟨i0, nm_r (by rw [nI_clamp (by omega)]) ⟨i0, nm_r (by rw [nI_clamp (by omega)]) (h s k w HX)⟩⟩
      · have i1 : vp_in (nI t * 4 + nI c) 12 := pk_in (t * 4 + c) 12 (by omega) (tm_r4 t c)
        have ec : (nI t * 4 + nI c).toNatClampNeg = t * 4 + c := by rw [tm_r4, nI_clamp (by omega)]
        rw [tm_a4, tm_b10]
        refine tm_yCp (by omega) (by omega) HX (hP _ (by omega)) (fun s1 k1 w1 HX1 => ?_)
        refine ⟨i1, nm_r (e' := tm_zr t st 0 (c + 1)) (by rw [ec]; rfl) ⟨i1, nm_r (e' := tm_zr t en (vp_nar .boolean 0) (c + 1)) (by rw [ec]; rfl) ⟨i1, nm_r (e' := tm_zr t ch (vp_nar .boolean 0) (c + 1)) (by rw [ec]; rfl) ?_⟩⟩⟩
        exact nm_r (nI_1 c) (ih (c + 1) s1 k1 w1 (by omega) (by omega) (tm_PY_of HX1 fun q hq => ⟨Or.inl hq, rfl⟩))
  exact ⟨5, loop 5 0 s k w (by omega) (by omega) H⟩
end
theorem i_vc_begin {k : Nat} {u : SX} {v : SY} (I : i_Rel k u v) (hk : k + 5 ≤ 2561) (v1 : Int32) : wpX_begin (fun r u' => wpY_begin (fun r' v' => r' = r ∧ i_Rel (k + 5) u' v') v v1) u v1 := by
  obtain ⟨s, k, w, s', k', w', op, st, en, ch, ac, ar, ak, ad, sc, sa, sk, sd, wc, wk, wd, G, rfl, rfl, hX, hY, hQ⟩ := I
  unfold wpX_begin wpY_begin
  rcases tm_ix v1 (n := 3) (by omega) with h | ⟨t, ht, rfl⟩
  · exact tm_xT0 h (br_t rfl (tm_yB0 3 h (br_t rfl ⟨rfl, tm_mk hX hY hQ⟩)))
  · have i0 : vp_in (nI t) 3 := vp_in_nI ht (by omega)
    have ec : (nI t).toNatClampNeg = t := nI_clamp (by omega)
    refine tm_xT1 ht (br_f tm_10 ?_)
    by_cases z : op t = 0
    · have z' : op (nI t).toNatClampNeg = 0 := by rw [ec]; exact z
      have hPq : ∀ q, q < 22 → tm_P op st q := fun q hq => Or.inl hq
      refine ⟨i0, br_t z' ⟨i0, nm_r (e' := upd op t (vp_nar .boolean 1)) (by rw [ec]) ⟨i0, nm_r (e' := upd ac t 0) (by rw [ec]) ⟨i0, nm_r (e' := upd sc t 0) (by rw [ec]) ?_⟩⟩⟩⟩
      refine tm_xBeg ht hPq hX (fun s1 k1 w1 HX => ?_)
      refine tm_yB1 3 ht (by omega) (br_f tm_10 ⟨i0, br_t z' ⟨i0, nm_r (e' := upd op t (vp_nar .boolean 1)) (by rw [ec]) ?_⟩⟩)
      refine tm_yBeg ht hPq hY (fun s2 k2 w2 HY => ⟨rfl, ?_⟩)
      have hP : ∀ q, tm_P (upd op t (vp_nar .boolean 1)) (tm_zr t st 0 4) q → tm_P op st q := by
        intro q hq
        rcases hq with h | ⟨h1, h2, h3, h4⟩
        · exact Or.inl h
        · have hne : (q - 22) / 4 ≠ t := by
            intro y
            apply h4
            have : q - 22 = t * 4 + (q - 22 - t * 4) := by omega
            rw [this]
            exact tm_zr_s (by omega)
          rw [pk_un hne] at h3
          rw [tm_zr_n (by omega)] at h4
          exact Or.inr ⟨h1, h2, h3, h4⟩
      refine tm_mk (tm_PX_of HX fun q hq => ⟨hP q hq, rfl⟩) (tm_PY_of HY fun q hq => ⟨hP q hq, rfl⟩) ⟨?_, ?_, ?_, hQ.2.2.2⟩
      · intro i hi
        by_cases y : i < t * 4 ∨ t * 4 + 4 ≤ i
        · rw [tm_zr_n y]; exact hQ.1 i hi
        · left
          have : i = t * 4 + (i - t * 4) := by omega
          rw [this]
          exact tm_zr_s (by omega)
      · intro t' ht'
        by_cases y : t' = t
        · subst y; exact ⟨0, by omega, pk_us, fun j hj => absurd hj (Nat.not_lt_zero j)⟩
        · obtain ⟨c, hc, e, hh⟩ := hQ.2.1 t' ht'
          refine ⟨c, hc, by rw [pk_un y]; exact e, fun j hj => ?_⟩
          obtain ⟨r, a, b, d⟩ := hh j hj
          exact ⟨r, a, b, by rw [tm_zr_n (by omega)]; exact d⟩
      · intro t' ht'
        by_cases y : t' = t
        · subst y; exact ⟨0, by omega, pk_us, fun j hj => absurd hj (Nat.not_lt_zero j)⟩
        · obtain ⟨c, hc, e, hh⟩ := hQ.2.2.1 t' ht'
          exact ⟨c, hc, by rw [pk_un y]; exact e, hh⟩
    · have z' : ¬ op (nI t).toNatClampNeg = 0 := by rw [ec]; exact z
      exact ⟨i0, br_f z' (tm_yB1 3 ht (by omega) (br_f tm_10 ⟨i0, br_f z' ⟨rfl, tm_mk hX hY hQ⟩⟩))⟩
theorem i_vc_adjust {k : Nat} {u : SX} {v : SY} (I : i_Rel k u v) (hk : k + 5 ≤ 2561) (v1 : Int32) (v2 : Int32) (v3 : Int32) (v4 : Int32) : wpX_adjust (fun r u' => wpY_adjust (fun r' v' => r' = r ∧ i_Rel (k + 5) u' v') v v1 v2 v3 v4) u v1 v2 v3 v4 := by
  obtain ⟨s, k, w, s', k', w', op, st, en, ch, ac, ar, ak, ad, sc, sa, sk, sd, wc, wk, wd, G, rfl, rfl, hX, hY, hQ⟩ := I
  unfold wpX_adjust
  rcases tm_cO op v1 with h | ⟨t, ht, rfl, ho⟩
  · exact tm_xO0 h (br_t rfl (by unfold wpY_adjust; exact tm_yO0 h (br_t rfl ⟨rfl, tm_mk hX hY hQ⟩)))
  · refine tm_xO1 ht ho (br_f tm_10 ?_)
    rcases tm_ix v2 (n := 4) (by omega) with h | ⟨r, hr, rfl⟩
    · exact tm_xR0 h (br_t rfl (by unfold wpY_adjust; exact tm_yO1 ht ho (br_f tm_10 (tm_yB0 4 h (br_t rfl ⟨rfl, tm_mk hX hY hQ⟩)))))
    · have i3 : vp_in (nI (t * 4 + r)) 12 := vp_in_nI (by omega) (by omega)
      have i4 : vp_in (nI t * 4 + nI r) 12 := pk_in (t * 4 + r) 12 (by omega) (tm_r4 t r)
      have e3 : (nI (t * 4 + r)).toNatClampNeg = t * 4 + r := nI_clamp (by omega)
      have e4 : (nI t * 4 + nI r).toNatClampNeg = t * 4 + r := by rw [tm_r4, e3]
      have i5 : vp_in (nI (22 + (t * 4 + r))) 35 := vp_in_nI (by omega) (by omega)
      have i6 : vp_in (nI (22 + (t * 4 + r))) 39 := vp_in_nI (by omega) (by omega)
      have i0 : vp_in (nI t) 3 := vp_in_nI ht (by omega)
      refine tm_xR1 hr (br_f tm_10 (nm_r (tm_r4 t r) (nm_r (tm_a22 (t * 4 + r)) ⟨i3, ?_⟩)))
      rw [e3]
      by_cases y : st (t * 4 + r) = 1
      · have hP : tm_P op st (22 + (t * 4 + r)) := tm_P_own ht hr ho (by rw [y]; decide)
        refine br_t y ?_
        refine tm_xAj (by omega) hX hP (fun s1 k1 w1 HX => br_f tm_10 ⟨i5, ?_⟩) (fun hov => br_t rfl ?_)
        · unfold wpY_adjust
          refine tm_yO1 ht ho (br_f tm_10 (tm_yB1 4 hr (by omega) (br_f tm_10 (nm_r (tm_b22 t r) ⟨i4, br_t (by rw [e4]; exact y) ?_⟩))))
          refine tm_yAj (by omega) hY hP (fun s2 k2 w2 HY => br_f tm_10 ⟨i6, ?_, tm_mk HX HY hQ⟩) (fun hov => (tm_noX HX hP tm_gu_s hov).elim)
          rw [nI_clamp (by omega)]
          exact tm_sz HX HY hP hP
        · unfold wpY_adjust
          refine tm_yO1 ht ho (br_f tm_10 (tm_yB1 4 hr (by omega) (br_f tm_10 (nm_r (tm_b22 t r) ⟨i4, br_t (by rw [e4]; exact y) ?_⟩))))
          exact tm_yAj (by omega) hY hP (fun s2 k2 w2 HY => (tm_noY HY hP tm_gu_s hov).elim) (fun _ => br_t rfl ⟨rfl, tm_mk hX hY hQ⟩)
      · refine br_f y ?_
        obtain ⟨c, hc, e, hh⟩ := hQ.2.1 t ht
        have ew : ac (nI t).toNatClampNeg = nI c := by rw [nI_clamp (by omega), e]
        have hst : st (t * 4 + r) = 0 ∨ st (t * 4 + r) = 2 := by
          rcases hQ.1 (t * 4 + r) (by omega) with x | x | x
          · exact Or.inl x
          · exact absurd x y
          · exact Or.inr x
        unfold wpX_commute
        by_cases z : c = 8
        · subst z
          refine ⟨i0, nm_r (e' := nI 8) ew (br_f (by decide) (br_t rfl ?_))⟩
          unfold wpY_adjust
          exact tm_yO1 ht ho (br_f tm_10 (tm_yB1 4 hr (by omega) (br_f tm_10 (nm_r (tm_b22 t r) ⟨i4, br_f (by rw [e4]; exact y) ⟨i0, br_t ew ⟨rfl, tm_mk hX hY hQ⟩⟩⟩))))
        · have hPr := tm_P_sn (st := st) ht hr ho
          have hlt := tm_sn_lt (st := st) (i := t * 4 + r) (by omega)
          have hne : ¬ ac (nI t).toNatClampNeg = 8 := by rw [ew]; exact fun q => z ((nI_eq (b := 8) (by omega) (by omega)).mp q)
          have i7 : vp_in (nI (t * 8 + c)) 24 := vp_in_nI (by omega) (by omega)
          have e7 : (nI (t * 8 + c)).toNatClampNeg = t * 8 + c := nI_clamp (by omega)
          refine ⟨i0, nm_r (e' := nI c) ew (br_t (nI_lt (b := 8) (by omega) (by omega)) (nm_r (tm_r4 t r) (nm_r (tm_a22 (t * 4 + r)) (tm_xSeen ht hr ?_))))⟩
          refine tm_xCp (by omega) (by omega) hX hPr (fun s1 k1 w1 HX => ?_)
          have yy : ∀ post : Int32 → SY → Prop,
              (∀ s2 k2 w2, tm_PY (fun q => (tm_P op st q ∨ q = 34) ∨ q = 22 + (t * 4 + r)) (tm_gu (tm_gu G 34 (tm_ad (G (tm_sn st (t * 4 + r))) v3 v4)) (22 + (t * 4 + r)) (tm_ad (G (tm_sn st (t * 4 + r))) v3 v4)) s2 k2 w2 →
                post (s2 (22 + (t * 4 + r))) (k2, w2, s2, op, upd st (t * 4 + r) 2, en, ch, upd ar (t * 8 + c) (nI r), upd ak (t * 8 + c) v3, upd ad (t * 8 + c) v4, upd ac t (nI (c + 1)), sa, sk, sd, sc, wk, wd, wc)) →
              (∀ s2 k2 w2, tm_Ov (tm_ad (G (tm_sn st (t * 4 + r))) v3 v4) → tm_PY (fun q => tm_P op st q ∨ q = 34) (tm_gu G 34 (G (tm_sn st (t * 4 + r)))) s2 k2 w2 → post (-2) (k2, w2, s2, op, st, en, ch, ar, ak, ad, ac, sa, sk, sd, sc, wk, wd, wc)) →
              wpY_adjust post (k', w', s', op, st, en, ch, ar, ak, ad, ac, sa, sk, sd, sc, wk, wd, wc) (nI t) (nI r) v3 v4 := by
            intro post h1 h0
            unfold wpY_adjust
            refine tm_yO1 ht ho (br_f tm_10 (tm_yB1 4 hr (by omega) (br_f tm_10 (nm_r (tm_b22 t r) ⟨i4, br_f (by rw [e4]; exact y) ⟨i0, br_f hne (tm_ySeen ht hr ?_)⟩⟩))))
            refine tm_yCp (b := 34) (by omega) (by omega) hY hPr (fun s2 k2 w2 HY => ?_)
            refine tm_yAj (r := 34) (by omega) HY (Or.inr rfl) (fun s3 k3 w3 HY3 => br_f tm_10 ?_) (fun hov => br_t rfl ?_)
            · refine tm_yCp (a := 34) (by omega) (by omega) HY3 (Or.inr rfl) (fun s4 k4 w4 HY4 => ?_)
              refine ⟨i4, nm_r (e' := upd st (t * 4 + r) 2) (by rw [e4]) ⟨i0, nm_r (e' := nI (t * 8 + c)) (by rw [ew, tm_r8]) ⟨i7, nm_r (e' := upd ar (t * 8 + c) (nI r)) (by rw [e7]) ⟨i7, nm_r (e' := upd ak (t * 8 + c) v3) (by rw [e7]) ⟨i7, nm_r (e' := upd ad (t * 8 + c) v4) (by rw [e7])
                ⟨i0, i0, nm_r (e' := upd ac t (nI (c + 1))) (by rw [ew, nI_1, nI_clamp (by omega)]) ⟨i6, ?_⟩⟩⟩⟩⟩⟩⟩
              rw [nI_clamp (show 22 + (t * 4 + r) < 2 ^ 31 by omega)]
              refine h1 s4 k4 w4 (tm_PY_of HY4 fun q hq => ⟨hq, ?_⟩)
              unfold tm_gu
              by_cases x : q = 22 + (t * 4 + r)
              · rw [if_pos x, if_pos x, if_pos rfl, if_pos rfl]
              · rw [if_neg x, if_neg x]
                by_cases x2 : q = 34
                · rw [if_pos x2, if_pos x2, if_pos rfl]
                · rw [if_neg x2, if_neg x2, if_neg x2]
            · rw [tm_gu_s] at hov
              exact h0 s2 k2 w2 hov HY
          refine tm_xAj (by omega) HX (Or.inr rfl) (fun s3 k3 w3 HX3 => br_f tm_10 ?_) (fun hov => br_t rfl (br_t rfl ?_))
          · refine ⟨i3, nm_r (e' := upd st (t * 4 + r) 2) (by rw [e3]) (nm_r (e' := nI (t * 8 + c)) (tm_r8 t c) ⟨i7, nm_r (e' := upd ar (t * 8 + c) (nI r)) (by rw [e7]) ⟨i7, nm_r (e' := upd ak (t * 8 + c) v3) (by rw [e7]) ⟨i7, nm_r (e' := upd ad (t * 8 + c) v4) (by rw [e7])
              ⟨i0, i0, nm_r (e' := upd ac t (nI (c + 1))) (by rw [ew, nI_1, nI_clamp (by omega)]) (br_f tm_10 ⟨i5, ?_⟩)⟩⟩⟩⟩)⟩
            refine yy _ (fun s2 k2 w2 HY => ⟨?_, ?_⟩) (fun s2 k2 w2 hov _ => ?_)
            · rw [nI_clamp (by omega)]
              have a1 := HX3 (22 + (t * 4 + r)) (Or.inr rfl)
              have a2 := HY (22 + (t * 4 + r)) (Or.inr rfl)
              rw [tm_gu_s, tm_gu_s] at a1
              rw [tm_gu_s] at a2
              obtain ⟨n1, b1⟩ := a1
              obtain ⟨n2, b2⟩ := a2
              rw [b1.1, b2.1, tm_nn (tm_XY b1) b2]
            · refine tm_mk (G := tm_gu G (22 + (t * 4 + r)) (tm_ad (G (tm_sn st (t * 4 + r))) v3 v4)) (tm_PX_of HX3 fun q hq => ⟨tm_P_up hq, ?_⟩) (tm_PY_of HY fun q hq => ⟨(tm_P_up hq).elim (fun x => Or.inl (Or.inl x)) Or.inr, ?_⟩) ⟨?_, ?_, hQ.2.2⟩
              · unfold tm_gu
                by_cases x : q = 22 + (t * 4 + r)
                · rw [if_pos x, if_pos x, if_pos rfl]
                · rw [if_neg x, if_neg x, if_neg x]
              · have x2 : q ≠ 34 := fun x => tm_P_34 (x ▸ hq)
                unfold tm_gu
                by_cases x : q = 22 + (t * 4 + r)
                · rw [if_pos x, if_pos x]
                · rw [if_neg x, if_neg x, if_neg x2]
              · intro i hi
                by_cases x : i = t * 4 + r
                · subst x; exact Or.inr (Or.inr pk_us)
                · rw [pk_un x]; exact hQ.1 i hi
              · intro t' ht'
                have up2 : ∀ i, st i = 2 → upd st (t * 4 + r) 2 i = 2 := by
                  intro i hi
                  by_cases x : i = t * 4 + r
                  · subst x; exact pk_us
                  · rw [pk_un x]; exact hi
                by_cases x : t' = t
                · subst x
                  refine ⟨c + 1, by omega, pk_us, fun j hj => ?_⟩
                  by_cases x : j = c
                  · subst x; exact ⟨r, hr, pk_us, pk_us⟩
                  · obtain ⟨r', a, b, d⟩ := hh j (by omega)
                    exact ⟨r', a, by rw [pk_un (by omega)]; exact b, up2 _ d⟩
                · obtain ⟨c', hc', e', hh'⟩ := hQ.2.1 t' ht'
                  refine ⟨c', hc', by rw [pk_un x]; exact e', fun j hj => ?_⟩
                  obtain ⟨r', a, b, d⟩ := hh' j hj
                  exact ⟨r', a, by rw [pk_un (by omega)]; exact b, up2 _ d⟩
            · have := tm_noX HX3 (q := 22 + (t * 4 + r)) (Or.inr rfl) tm_gu_s (by rw [tm_gu_s]; exact hov)
              exact this.elim
          · rw [tm_gu_s] at hov
            refine yy _ (fun s2 k2 w2 HY => ?_) (fun s2 k2 w2 _ HY => ⟨rfl, ?_⟩)
            · exact (tm_noY HY (q := 22 + (t * 4 + r)) (Or.inr rfl) tm_gu_s hov).elim
            · refine tm_mk (G := G) (tm_PX_of HX fun q hq => ⟨Or.inl hq, ?_⟩) (tm_PY_of HY fun q hq => ⟨Or.inl hq, ?_⟩) hQ
              · by_cases x : q = 22 + (t * 4 + r)
                · subst x
                  rw [tm_gu_s]
                  rcases hq with x | x
                  · omega
                  · have x4 := x.2.2.2
                    rw [show 22 + (t * 4 + r) - 22 = t * 4 + r by omega] at x4
                    rw [tm_sn, if_neg x4]
                · rw [tm_gu_n x]
              · rw [tm_gu_n (fun x => tm_P_34 (x ▸ hq))]
end
