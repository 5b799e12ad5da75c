section
theorem tm_F_get {n p : Nat} {K V : Nat → Int32} {f : Int32 → Option Int32} {key d : Int32} (h : tm_F n K V f) (hp : p < n) (e : K p = key) : V p = (f key).getD d := by
  rw [← e, h.1 p hp]; rfl
theorem i_vc_put {k : Nat} {u : SX} {v : SY} (I : i_Rel k u v) (hk : k + 5 ≤ 2561) (v1 : Int32) (v2 : Int32) (v3 : Int32) : wpX_put (fun r u' => wpY_put (fun r' v' => r' = r ∧ i_Rel (k + 5) u' v') v v1 v2 v3) u v1 v2 v3 := by
  obtain ⟨s, k, w, s', k', w', op, st, en, ch, ac, ar, ak, ad, sc, sa, sk, sd, wc, wk, wd, G, rfl, rfl, hX, hY, hQ⟩ := I
  unfold wpX_put wpY_put
  rcases tm_ix v1 (n := 4) (by omega) with h | ⟨j, hj, rfl⟩
  · exact tm_xV0 h (br_t rfl (tm_yB0 4 h (br_t rfl ⟨rfl, tm_mk hX hY hQ⟩)))
  · have hP : tm_P op st j := Or.inl (by omega)
    refine tm_xV1 hj (br_f tm_10 ?_)
    refine tm_xSt (by omega) hX hP (fun s1 k1 w1 HX => ?_) (fun ho => ?_)
    · refine br_f tm_10 ⟨vp_in_nI (by omega) (by omega), ?_⟩
      refine tm_yB1 4 hj (by omega) (br_f tm_10 ?_)
      refine tm_ySt (by omega) hY hP (fun s2 k2 w2 HY => ?_) (fun ho => (tm_noX HX hP tm_gu_s ho).elim)
      refine br_f tm_10 ⟨vp_in_nI (by omega) (by omega), ?_, tm_mk HX HY hQ⟩
      rw [nI_clamp (by omega)]
      exact tm_sz HX HY hP hP
    · refine br_t rfl ?_
      refine tm_yB1 4 hj (by omega) (br_f tm_10 ?_)
      exact tm_ySt (by omega) hY hP (fun s2 k2 w2 HY => (tm_noY HY hP tm_gu_s ho).elim) (fun _ => br_t rfl ⟨rfl, tm_mk hX hY hQ⟩)
theorem i_vc_get {k : Nat} {u : SX} {v : SY} (I : i_Rel k u v) (hk : k + 5 ≤ 2561) (v1 : Int32) (v2 : Int32) (v3 : Int32) : wpX_get (fun r => wpY_get (fun r' => r' = r ∧ i_Rel (k + 5) u v) v v1 v2 v3) u v1 v2 v3 := by
  obtain ⟨s, k, w, s', k', w', op, st, en, ch, ac, ar, ak, ad, sc, sa, sk, sd, wc, wk, wd, G, rfl, rfl, hX, hY, hQ⟩ := I
  unfold wpX_get wpY_get
  rcases tm_ix v1 (n := 4) (by omega) with h | ⟨j, hj, rfl⟩
  · exact tm_xV0 h (br_t rfl (tm_yB0 4 h (br_t rfl ⟨rfl, tm_mk hX hY hQ⟩)))
  · have hP : tm_P op st j := Or.inl (by omega)
    obtain ⟨n, HX⟩ := hX j hP
    obtain ⟨m, HY⟩ := hY j hP
    have hm := HY.2.1
    refine tm_xV1 hj (br_f tm_10 ?_)
    refine tm_xVal (by omega) HX ?_
    refine tm_yB1 4 hj (by omega) (br_f tm_10 ?_)
    refine tm_yFind (by omega) HY (fun p hp e => br_t (nI_pos' (by omega)) ⟨vp_in_nI (by omega) (by omega), ?_, tm_mk hX hY hQ⟩) (fun hf hne => br_f (by decide) ⟨?_, tm_mk hX hY hQ⟩)
    · rw [nI_clamp (by omega)]
      exact tm_F_get (K := fun i => k' (j * 10 + i)) (V := fun i => w' (j * 10 + i)) HY.2.2.2 hp e
    · rw [hf]; rfl
theorem i_vc_size {k : Nat} {u : SX} {v : SY} (I : i_Rel k u v) (hk : k + 5 ≤ 2561) (v1 : Int32) : wpX_size (fun r => wpY_size (fun r' => r' = r ∧ i_Rel (k + 5) u v) v v1) u v1 := by
  obtain ⟨s, k, w, s', k', w', op, st, en, ch, ac, ar, ak, ad, sc, sa, sk, sd, wc, wk, wd, G, rfl, rfl, hX, hY, hQ⟩ := I
  unfold wpX_size wpY_size
  rcases tm_ix v1 (n := 4) (by omega) with h | ⟨j, hj, rfl⟩
  · exact tm_xV0 h (br_t rfl (tm_yB0 4 h (br_t rfl ⟨rfl, tm_mk hX hY hQ⟩)))
  · have hP : tm_P op st j := Or.inl (by omega)
    refine tm_xV1 hj (br_f tm_10 ⟨vp_in_nI (by omega) (by omega), ?_⟩)
    refine tm_yB1 4 hj (by omega) (br_f tm_10 ⟨vp_in_nI (by omega) (by omega), ?_, tm_mk hX hY hQ⟩)
    rw [nI_clamp (by omega)]
    exact tm_sz hX hY hP hP
theorem i_vc_keyAt {k : Nat} {u : SX} {v : SY} (I : i_Rel k u v) (hk : k + 5 ≤ 2561) (v1 : Int32) (v2 : Int32) : wpX_keyAt (fun r => wpY_keyAt (fun r' => r' = r ∧ i_Rel (k + 5) u v) v v1 v2) u v1 v2 := by
  obtain ⟨s, ky, w, s', k', w', op, st, en, ch, ac, ar, ak, ad, sc, sa, sk, sd, wc, wk, wd, G, rfl, rfl, hX, hY, hQ⟩ := I
  unfold wpX_keyAt wpY_keyAt
  rcases tm_ix v1 (n := 4) (by omega) with h | ⟨j, hj, rfl⟩
  · exact tm_xV0 h (br_t rfl (tm_yB0 4 h (br_t rfl ⟨rfl, tm_mk hX hY hQ⟩)))
  · have hP : tm_P op st j := Or.inl (by omega)
    obtain ⟨n, HX⟩ := hX j hP
    obtain ⟨m, HY⟩ := hY j hP
    cases tm_nn (tm_XY HX) HY
    have hn := HX.2.1
    have e10 : ∀ p, nI j * 10 + nI p = nI (j * 10 + p) := tm_r10 j
    rcases tm_ix v2 (n := n) (by omega) with z | ⟨p, hp, rfl⟩
    · have hno : ∀ p, p < n → v2 ≠ nI p := by
        intro p hp e
        rcases z with z | z
        · rw [e] at z; exact nI_pos (by omega) z
        · rw [e] at z; exact nI_ge hp (by omega) z
      have hend : ∀ r : Int32, r = 0 → wpY_among (fun r_1 => (r_1 = 0 → (0 : Int32) = r ∧ i_Rel (k + 5) (s, ky, w, op, st, en, ch, ac, ar, ak, ad, sc, sa, sk, sd, wc, wk, wd) (k', w', s', op, st, en, ch, ar, ak, ad, ac, sa, sk, sd, sc, wk, wd, wc)) ∧ (¬ r_1 = 0 → ∀ x3 : Int32, x3 = nI j * 10 → ∃ n16 : Nat, wY_keyAt_16 (fun r' => r' = r ∧ i_Rel (k + 5) (s, ky, w, op, st, en, ch, ac, ar, ak, ad, sc, sa, sk, sd, wc, wk, wd) (k', w', s', op, st, en, ch, ar, ak, ad, ac, sa, sk, sd, sc, wk, wd, wc)) (nI j) v2 k' w' s' op st en ch ar ak ad ac sa sk sd sc wk wd wc n16 x3)) (k', w', s', op, st, en, ch, ar, ak, ad, ac, sa, sk, sd, sc, wk, wd, wc) (nI j) 4 := by
        intro r hr
        refine tm_yB1 4 hj (by omega) (br_f tm_10 (nm_e ?_))
        exact tm_yKey (by omega) HY HX.2.2.1 HX.2.2.2 (fun p hp e => absurd e (hno p hp)) (fun _ => ⟨hr.symm, tm_mk hX hY hQ⟩)
      refine tm_xV1 hj (br_f tm_10 ?_)
      by_cases y : v2 < 0
      · exact br_t y (hend 0 rfl)
      · refine br_f y ⟨vp_in_nI (by omega) (by omega), br_f ?_ (hend 0 rfl)⟩
        rw [nI_clamp (by omega), HX.1]
        exact Int32.not_lt.mpr (z.resolve_left y)
    · refine tm_xV1 hj (br_f tm_10 (br_f (nI_pos (by omega)) ⟨vp_in_nI (by omega) (by omega), br_t ?_ ⟨pk_in (j * 10 + p) 350 (by omega) (e10 p), ?_⟩⟩))
      · rw [nI_clamp (by omega), HX.1]; exact nI_lt hp (by omega)
      · rw [e10, nI_clamp (by omega)]
        refine tm_yB1 4 hj (by omega) (br_f tm_10 (nm_e ?_))
        refine tm_yKey (by omega) HY HX.2.2.1 HX.2.2.2 (fun p' hp' e => ⟨?_, tm_mk hX hY hQ⟩) (fun h => absurd rfl (h p hp))
        rw [nI_eq (by omega) (by omega)] at e
        rw [e]
theorem i_vc_same {k : Nat} {u : SX} {v : SY} (I : i_Rel k u v) (hk : k + 5 ≤ 2561) (v1 : Int32) (v2 : Int32) : wpX_same (fun r => wpY_same (fun r' => r' = r ∧ i_Rel (k + 5) u v) v v1 v2) u v1 v2 := by
  obtain ⟨s, k, w, s', k', w', op, st, en, ch, ac, ar, ak, ad, sc, sa, sk, sd, wc, wk, wd, G, rfl, rfl, hX, hY, hQ⟩ := I
  unfold wpX_same wpY_same
  rcases tm_ix v1 (n := 4) (by omega) with h | ⟨a, ha, rfl⟩
  · exact tm_xV0 h (br_t rfl (tm_yB0 4 h (br_t rfl ⟨rfl, tm_mk hX hY hQ⟩)))
  · refine tm_xV1 ha (br_f tm_10 ?_)
    rcases tm_ix v2 (n := 4) (by omega) with h | ⟨b, hb, rfl⟩
    · exact tm_xV0 h (br_t rfl (tm_yB1 4 ha (by omega) (br_f tm_10 (tm_yB0 4 h (br_t rfl ⟨rfl, tm_mk hX hY hQ⟩)))))
    · have hPa : tm_P op st a := Or.inl (by omega)
      have hPb : tm_P op st b := Or.inl (by omega)
      obtain ⟨n, HX⟩ := hX a hPa
      obtain ⟨m, HY⟩ := hY a hPa
      cases tm_nn (tm_XY HX) HY
      obtain ⟨n2, HX2⟩ := hX b hPb
      obtain ⟨m2, HY2⟩ := hY b hPb
      cases tm_nn (tm_XY HX2) HY2
      have hn := HX.2.1
      have hn2 := HX2.2.1
      refine tm_xV1 hb (br_f tm_10 ?_)
      refine tm_xEq (by omega) (by omega) HX HX2 (fun e => br_f tm_10 ?_) (fun e => br_t rfl ?_)
      · refine tm_yB1 4 ha (by omega) (br_f tm_10 (tm_yB1 4 hb (by omega) (br_f tm_10 ⟨vp_in_nI (by omega) (by omega), vp_in_nI (by omega) (by omega), ?_⟩)))
        rw [nI_clamp (by omega), nI_clamp (by omega), HY.1, HY2.1]
        refine pk_eq n n2 (fun e2 => nm_e ?_) (fun e2 => absurd (tm_nn (tm_XY HX) (e ▸ tm_XY HX2)) e2)
        subst e2
        exact tm_ySame (by omega) (by omega) HY HY2 (fun _ => ⟨rfl, tm_mk hX hY hQ⟩) (fun z => absurd e z)
      · refine tm_yB1 4 ha (by omega) (br_f tm_10 (tm_yB1 4 hb (by omega) (br_f tm_10 ⟨vp_in_nI (by omega) (by omega), vp_in_nI (by omega) (by omega), ?_⟩)))
        rw [nI_clamp (by omega), nI_clamp (by omega), HY.1, HY2.1]
        refine pk_eq n n2 (fun e2 => nm_e ?_) (fun e2 => ⟨rfl, tm_mk hX hY hQ⟩)
        subst e2
        exact tm_ySame (by omega) (by omega) HY HY2 (fun z => absurd z e) (fun _ => ⟨rfl, tm_mk hX hY hQ⟩)
theorem i_vc_remove {k : Nat} {u : SX} {v : SY} (I : i_Rel k u v) (hk : k + 5 ≤ 2561) (v1 : Int32) (v2 : Int32) : wpX_remove (fun r u' => wpY_remove (fun r' v' => r' = r ∧ i_Rel (k + 5) u' v') v v1 v2) u v1 v2 := by
  obtain ⟨s, k, w, s', k', w', op, st, en, ch, ac, ar, ak, ad, sc, sa, sk, sd, wc, wk, wd, G, rfl, rfl, hX, hY, hQ⟩ := I
  unfold wpX_remove wpY_remove
  rcases tm_ix v1 (n := 4) (by omega) with h | ⟨j, hj, rfl⟩
  · exact tm_xV0 h (br_t rfl (tm_yB0 4 h (br_t rfl ⟨rfl, tm_mk hX hY hQ⟩)))
  · have hP : tm_P op st j := Or.inl (by omega)
    obtain ⟨n, HX⟩ := hX j hP
    obtain ⟨m, HY⟩ := hY j hP
    cases tm_nn (tm_XY HX) HY
    have hn := HX.2.1
    refine tm_xV1 hj (br_f tm_10 ?_)
    refine tm_xLook (by omega) HX (fun p hp e => br_f tm_10 ?_) (fun p hp hl hg => br_t rfl ?_)
    · refine tm_xDrop (by omega) HX hp e (fun s1 k1 w1 n1 fr H1 => ?_)
      have h1 := tm_PX_s hX fr H1
      refine tm_yB1 4 hj (by omega) (br_f tm_10 ?_)
      refine tm_yFind (by omega) HY (fun q hq e' => br_t (nI_pos' (by omega)) ?_) (fun hf hne => absurd hf (e ▸ tm_F_none HX.2.2.2 hp))
      obtain ⟨m, rfl⟩ : ∃ m, n = m + 1 := ⟨n - 1, by omega⟩
      have i0 : vp_in (nI j) 39 := vp_in_nI (by omega) (by omega)
      have i1 : vp_in (nI (j * 10 + m)) 390 := vp_in_nI (by omega) (by omega)
      have i2 : vp_in (nI (j * 10 + q)) 390 := vp_in_nI (by omega) (by omega)
      refine ⟨i0, nm_r (e' := nI (j * 10 + m)) (by rw [nI_clamp (by omega), HY.1, tm_r10, ← Nat.add_assoc, nI_pred]) ⟨i1, i2, nm_r (e' := upd k' (j * 10 + q) (k' (j * 10 + m))) (by rw [nI_clamp (by omega), nI_clamp (by omega)])
        ⟨i1, i2, nm_r (e' := upd w' (j * 10 + q) (w' (j * 10 + m))) (by rw [nI_clamp (by omega), nI_clamp (by omega)]) ⟨i0, i0, nm_r (e' := upd s' j (nI m)) (by rw [nI_clamp (by omega), HY.1, nI_pred]) ⟨rfl, ?_⟩⟩⟩⟩⟩
      have fr' : tm_fr j s' k' w' (upd s' j (nI m)) (upd k' (j * 10 + q) (k' (j * 10 + m))) (upd w' (j * 10 + q) (w' (j * 10 + m))) :=
        fun x hx => ⟨pk_un hx, fun i hi => ⟨pk_un (by omega), pk_un (by omega)⟩⟩
      have Z := tm_swp (K' := fun i => upd k' (j * 10 + q) (k' (j * 10 + m)) (j * 10 + i)) (V' := fun i => upd w' (j * 10 + q) (w' (j * 10 + m)) (j * 10 + i)) HY.2.2.1 HY.2.2.2 hq e'
        (fun i hi hne => ⟨pk_un (by omega), pk_un (by omega)⟩) ⟨pk_us, pk_us⟩
      exact tm_mk h1 (tm_PY_s hY fr' ⟨pk_us, by omega, Z.1, Z.2⟩) hQ
    · refine tm_yB1 4 hj (by omega) (br_f tm_10 ?_)
      have hno : G j v2 = none := by
        refine HX.2.2.2.2 v2 fun i hi e => ?_
        by_cases a : i < p
        · exact Int32.ne_of_lt (hl i a) e
        · exact Int32.ne_of_lt (hg i (by omega) hi) e.symm
      exact tm_yFind (by omega) HY (fun q hq e' => absurd hno (e' ▸ tm_F_none HY.2.2.2 hq)) (fun hf hne => br_f (by decide) ⟨rfl, tm_mk hX hY hQ⟩)
end
