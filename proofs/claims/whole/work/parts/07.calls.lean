section
theorem tm_r4 (t r : Nat) : nI t * 4 + nI r = nI (t * 4 + r) := by rw [show (4 : Int32) = nI 4 from rfl, pk_mul, nI_add]
theorem tm_r8 (t r : Nat) : nI t * 8 + nI r = nI (t * 8 + r) := by rw [show (8 : Int32) = nI 8 from rfl, pk_mul, nI_add]
theorem tm_r6 (t r : Nat) : nI t * 6 + nI r = nI (t * 6 + r) := by rw [show (6 : Int32) = nI 6 from rfl, pk_mul, nI_add]
theorem tm_a4 (r : Nat) : 4 + nI r = nI (4 + r) := nI_add 4 r
theorem tm_a8 (r : Nat) : 8 + nI r = nI (8 + r) := nI_add 8 r
theorem tm_a10 (r : Nat) : 10 + nI r = nI (10 + r) := nI_add 10 r
theorem tm_a22 (r : Nat) : 22 + nI r = nI (22 + r) := nI_add 22 r
theorem tm_b10 (t r : Nat) : 10 + nI t * 4 + nI r = nI (10 + (t * 4 + r)) := by rw [show (4 : Int32) = nI 4 from rfl, pk_mul, tm_a10, nI_add, Nat.add_assoc]
theorem tm_b22 (t r : Nat) : 22 + nI t * 4 + nI r = nI (22 + (t * 4 + r)) := by rw [show (4 : Int32) = nI 4 from rfl, pk_mul, tm_a22, nI_add, Nat.add_assoc]
def tm_sn (st : Nat → Int32) (i : Nat) : Nat := if st i = 0 then 10 + i else 22 + i
theorem tm_sn_lt {st : Nat → Int32} {i : Nat} (h : i < 12) : tm_sn st i < 34 := by unfold tm_sn; split <;> omega
theorem tm_P_sn {op st : Nat → Int32} {t r : Nat} (ht : t < 3) (hr : r < 4) (ho : op t ≠ 0) : tm_P op st (tm_sn st (t * 4 + r)) := by
  unfold tm_sn
  split
  · exact Or.inl (by omega)
  · rename_i z
    refine Or.inr ⟨by omega, by omega, ?_, ?_⟩
    · rw [show (22 + (t * 4 + r) - 22) / 4 = t by omega]; exact ho
    · rw [show 22 + (t * 4 + r) - 22 = t * 4 + r by omega]; exact z
theorem tm_P_own {op st : Nat → Int32} {t r : Nat} (ht : t < 3) (hr : r < 4) (ho : op t ≠ 0) (hs : st (t * 4 + r) ≠ 0) : tm_P op st (22 + (t * 4 + r)) := by
  refine Or.inr ⟨by omega, by omega, ?_, ?_⟩
  · rw [show (22 + (t * 4 + r) - 22) / 4 = t by omega]; exact ho
  · rw [show 22 + (t * 4 + r) - 22 = t * 4 + r by omega]; exact hs
theorem tm_P_34 {op st : Nat → Int32} : ¬ tm_P op st 34 := by
  intro h
  rcases h with h | h <;> omega
section
variable {op st en ch ac ar ak ad sc sa sk sd wc wk wd : Nat → Int32}
theorem tm_xSeen {post : Int32 → Prop} {s k w : Nat → Int32} {t r : Nat} (ht : t < 3) (hr : r < 4) (h : post (nI (tm_sn st (t * 4 + r)))) : wpX_seenMap post (s, k, w, op, st, en, ch, ac, ar, ak, ad, sc, sa, sk, sd, wc, wk, wd) (nI t) (nI r) := by
  refine nm_r (tm_r4 t r) ⟨vp_in_nI (by omega) (by omega), br_c (fun z => ?_) (fun z => ?_)⟩
  · rw [nI_clamp (by omega)] at z
    rw [tm_sn, if_pos z] at h
    rw [tm_a10]; exact h
  · rw [nI_clamp (by omega)] at z
    rw [tm_sn, if_neg z] at h
    rw [tm_a22]; exact h
theorem tm_ySeen {post : Int32 → Prop} {s k w : Nat → Int32} {t r : Nat} (ht : t < 3) (hr : r < 4) (h : post (nI (tm_sn st (t * 4 + r)))) : wpY_seen post (k, w, s, op, st, en, ch, ar, ak, ad, ac, sa, sk, sd, sc, wk, wd, wc) (nI t) (nI r) := by
  refine ⟨pk_in (t * 4 + r) 12 (by omega) (tm_r4 t r), br_c (fun z => ?_) (fun z => ?_)⟩
  · rw [tm_r4, nI_clamp (by omega)] at z
    rw [tm_sn, if_pos z] at h
    rw [tm_b10]; exact h
  · rw [tm_r4, nI_clamp (by omega)] at z
    rw [tm_sn, if_neg z] at h
    rw [tm_b22]; exact h
theorem tm_xJoin {post : SX → Prop} {s k w : Nat → Int32} {g c : Nat} {key d : Int32} (hg : g < 2) (hc : c < 8) (e : wc g = nI c)
    (h : post (s, k, w, op, st, en, ch, ac, ar, ak, ad, sc, sa, sk, sd, upd wc g (nI (c + 1)), upd wk (g * 8 + c) key, upd wd (g * 8 + c) d)) : wpX_joinQueue post (s, k, w, op, st, en, ch, ac, ar, ak, ad, sc, sa, sk, sd, wc, wk, wd) (nI g) key d := by
  have i0 : vp_in (nI g) 2 := vp_in_nI hg (by omega)
  have i1 : vp_in (nI (g * 8 + c)) 16 := vp_in_nI (by omega) (by omega)
  exact ⟨i0, nm_r (e' := nI (g * 8 + c)) (by rw [nI_clamp (by omega), e, tm_r8]) ⟨i1, nm_r (e' := upd wk (g * 8 + c) key) (by rw [nI_clamp (by omega)]) ⟨i1, nm_r (e' := upd wd (g * 8 + c) d) (by rw [nI_clamp (by omega)])
    ⟨i0, i0, nm_r (e' := upd wc g (nI (c + 1))) (by rw [nI_clamp (by omega), e, nI_1]) h⟩⟩⟩⟩
theorem tm_yEnq {post : Int32 → SY → Prop} {s k w : Nat → Int32} {g c : Nat} {key d : Int32} (hg : g < 2) (hc : c < 8) (e : wc g = nI c)
    (h : post (nI (c + 1)) (k, w, s, op, st, en, ch, ar, ak, ad, ac, sa, sk, sd, sc, upd wk (g * 8 + c) key, upd wd (g * 8 + c) d, upd wc g (nI (c + 1)))) : wpY_enqueue post (k, w, s, op, st, en, ch, ar, ak, ad, ac, sa, sk, sd, sc, wk, wd, wc) (nI g) key d := by
  have i0 : vp_in (nI g) 2 := vp_in_nI hg (by omega)
  have e1 : nI g * 8 + wc (nI g).toNatClampNeg = nI (g * 8 + c) := by rw [nI_clamp (by omega), e, tm_r8]
  have i1 : vp_in (nI g * 8 + wc (nI g).toNatClampNeg) 16 := pk_in (g * 8 + c) 16 (by omega) e1
  refine ⟨i0, i1, nm_r (e' := upd wk (g * 8 + c) key) (by rw [e1, nI_clamp (by omega)]) ⟨i0, i1, nm_r (e' := upd wd (g * 8 + c) d) (by rw [e1, nI_clamp (by omega)])
    ⟨i0, i0, nm_r (e' := upd wc g (nI (c + 1))) (by rw [nI_clamp (by omega), e, nI_1]) ⟨i0, ?_⟩⟩⟩⟩
  rw [nI_clamp (by omega), pk_us]
  exact h
end
theorem tm_wc {wc : Nat → Int32} {g c : Nat} (h : ∀ g, g < 2 → ∃ c, c ≤ 8 ∧ wc g = nI c) (hc : c ≤ 8) : ∀ q, q < 2 → ∃ d, d ≤ 8 ∧ upd wc g (nI c) q = nI d := by
  intro q hq
  by_cases z : q = g
  · subst z; exact ⟨c, hc, pk_us⟩
  · rw [pk_un z]; exact h q hq
theorem i_vc_waiting {k : Nat} {u : SX} {v : SY} (I : i_Rel k u v) (hk : k + 5 ≤ 2561) (v1 : Int32) : wpX_waiting (fun r => wpY_waiting (fun r' => r' = r ∧ i_Rel (k + 5) u v) v v1) u v1 := by
  obtain ⟨s, k, w, s', k', w', op, st, en, ch, ac, ar, ak, ad, sc, sa, sk, sd, wc, wk, wd, G, rfl, rfl, hX, hY, hQ⟩ := I
  unfold wpX_waiting wpY_waiting
  rcases tm_ix v1 (n := 2) (by omega) with h | ⟨j, hj, rfl⟩
  · exact tm_xG0 h (br_t rfl (tm_yB0 2 h (br_t rfl ⟨rfl, tm_mk hX hY hQ⟩)))
  · exact tm_xG1 hj (br_f tm_10 ⟨vp_in_nI (by omega) (by omega), tm_yB1 2 hj (by omega) (br_f tm_10 ⟨vp_in_nI (by omega) (by omega), rfl, tm_mk hX hY hQ⟩)⟩)
theorem i_vc_ensure {k : Nat} {u : SX} {v : SY} (I : i_Rel k u v) (hk : k + 5 ≤ 2561) (v1 : Int32) (v2 : Int32) : wpX_ensure (fun r u' => wpY_ensure (fun r' v' => r' = r ∧ i_Rel (k + 5) u' v') v v1 v2) u v1 v2 := by
  obtain ⟨s, k, w, s', k', w', op, st, en, ch, ac, ar, ak, ad, sc, sa, sk, sd, wc, wk, wd, G, rfl, rfl, hX, hY, hQ⟩ := I
  unfold wpX_ensure wpY_ensure
  rcases tm_cO op v1 with h | ⟨t, ht, rfl, ho⟩
  · exact tm_xO0 h (br_t rfl (tm_yO0 h (br_t rfl ⟨rfl, tm_mk hX hY hQ⟩)))
  · refine tm_xO1 ht ho (br_f tm_10 ?_)
    rcases tm_ix v2 (n := 4) (by omega) with h | ⟨r, hr, rfl⟩
    · exact tm_xR0 h (br_t rfl (tm_yO1 ht ho (br_f tm_10 (tm_yB0 4 h (br_t rfl ⟨rfl, tm_mk hX hY hQ⟩)))))
    · have i1 : vp_in (nI t * 4 + nI r) 12 := pk_in (t * 4 + r) 12 (by omega) (tm_r4 t r)
      refine tm_xR1 hr (br_f tm_10 ⟨i1, nm_e ?_⟩)
      exact tm_yO1 ht ho (br_f tm_10 (tm_yB1 4 hr (by omega) (br_f tm_10 ⟨i1, nm_e ⟨rfl, tm_mk hX hY hQ⟩⟩)))
theorem i_vc_load {k : Nat} {u : SX} {v : SY} (I : i_Rel k u v) (hk : k + 5 ≤ 2561) (v1 : Int32) (v2 : Int32) (v3 : Int32) : wpX_load (fun r u' => wpY_load (fun r' v' => r' = r ∧ i_Rel (k + 5) u' v') v v1 v2 v3) u v1 v2 v3 := by
  obtain ⟨s, k, w, s', k', w', op, st, en, ch, ac, ar, ak, ad, sc, sa, sk, sd, wc, wk, wd, G, rfl, rfl, hX, hY, hQ⟩ := I
  unfold wpX_load wpY_load
  rcases tm_ix v3 (n := 4) (by omega) with h | ⟨j, hj, rfl⟩
  · exact tm_xV0 h (br_t rfl (tm_yB0 4 h (br_t rfl ⟨rfl, tm_mk hX hY hQ⟩)))
  · refine tm_xV1 hj (br_f tm_10 ?_)
    have hPj : tm_P op st j := Or.inl (by omega)
    have i1 : vp_in (nI j) 35 := vp_in_nI (by omega) (by omega)
    have i2 : vp_in (nI j) 39 := vp_in_nI (by omega) (by omega)
    by_cases z : v1 = -1
    · refine br_t z ?_
      rcases tm_ix v2 (n := 6) (by omega) with h | ⟨r, hr, rfl⟩
      · refine tm_xB0 (b := 6) h (br_t rfl (tm_yB1 4 hj (by omega) (br_f tm_10 ?_)))
        refine br_c (fun y => br_t z (br_f ?_ ⟨rfl, tm_mk hX hY hQ⟩)) (fun y => ⟨rfl, tm_mk hX hY hQ⟩)
        have h6 := h.resolve_left (Int32.not_lt.mpr y)
        intro h5
        have := Int32.le_trans h6 h5
        exact absurd this (by decide)
      · refine tm_xB1 (b := 6) hr (by omega) (br_f tm_10 ?_)
        have hPr : tm_P op st (4 + r) := Or.inl (by omega)
        rw [tm_a4]
        refine tm_xCp (by omega) (by omega) hX hPr (fun s1 k1 w1 HX => ⟨i1, ?_⟩)
        refine tm_yB1 4 hj (by omega) (br_f tm_10 (br_t (nI_pos' (by omega)) (br_t z (br_t (nI_le (b := 5) (by omega) (by omega)) ?_))))
        refine tm_yCp (by omega) (by omega) hY hPr (fun s2 k2 w2 HY => ⟨i2, ?_, ?_⟩)
        · rw [nI_clamp (by omega)]; exact tm_sz HX HY (Or.inl hPj) (Or.inl hPj)
        · exact tm_mk (tm_PX_of HX fun q hq => ⟨Or.inl hq, rfl⟩) (tm_PY_of HY fun q hq => ⟨Or.inl hq, rfl⟩) hQ
    · refine br_f z ?_
      rcases tm_cO op v1 with h | ⟨t, ht, rfl, ho⟩
      · refine tm_xO0 h (br_t rfl (tm_yB1 4 hj (by omega) (br_f tm_10 ?_)))
        exact br_c (fun y => br_f z (tm_yO0 h (br_t rfl ⟨rfl, tm_mk hX hY hQ⟩))) (fun y => ⟨rfl, tm_mk hX hY hQ⟩)
      · refine tm_xO1 ht ho (br_f tm_10 ?_)
        rcases tm_ix v2 (n := 4) (by omega) with h | ⟨r, hr, rfl⟩
        · refine tm_xR0 h (br_t rfl (tm_yB1 4 hj (by omega) (br_f tm_10 ?_)))
          refine br_c (fun y => br_f z (tm_yO1 ht ho (br_f tm_10 (br_f ?_ ⟨rfl, tm_mk hX hY hQ⟩)))) (fun y => ⟨rfl, tm_mk hX hY hQ⟩)
          have h6 := h.resolve_left (Int32.not_lt.mpr y)
          intro h5
          have := Int32.le_trans h6 h5
          exact absurd this (by decide)
        · have hPr := tm_P_sn (st := st) ht hr ho
          have hlt := tm_sn_lt (st := st) (i := t * 4 + r) (by omega)
          refine tm_xR1 hr (br_f tm_10 (tm_xSeen ht hr ?_))
          refine tm_xCp (by omega) (by omega) hX hPr (fun s1 k1 w1 HX => ⟨i1, ?_⟩)
          refine tm_yB1 4 hj (by omega) (br_f tm_10 (br_t (nI_pos' (by omega)) (br_f z (tm_yO1 ht ho (br_f tm_10 (br_t (nI_le (b := 3) (by omega) (by omega)) (tm_ySeen ht hr ?_)))))))
          refine tm_yCp (by omega) (by omega) hY hPr (fun s2 k2 w2 HY => ⟨i2, ?_, ?_⟩)
          · rw [nI_clamp (by omega)]; exact tm_sz HX HY (Or.inl hPj) (Or.inl hPj)
          · exact tm_mk (tm_PX_of HX fun q hq => ⟨Or.inl hq, rfl⟩) (tm_PY_of HY fun q hq => ⟨Or.inl hq, rfl⟩) hQ
theorem tm_P_up {op st : Nat → Int32} {i q : Nat} {x : Int32} (h : tm_P op (upd st i x) q) : tm_P op st q ∨ q = 22 + i := by
  rcases h with h | ⟨h1, h2, h3, h4⟩
  · exact Or.inl (Or.inl h)
  · by_cases z : q = 22 + i
    · exact Or.inr z
    · rw [pk_un (by omega)] at h4
      exact Or.inl (Or.inr ⟨h1, h2, h3, h4⟩)
theorem i_vc_store {k : Nat} {u : SX} {v : SY} (I : i_Rel k u v) (hk : k + 5 ≤ 2561) (v1 : Int32) (v2 : Int32) (v3 : Int32) : wpX_store (fun r u' => wpY_store (fun r' v' => r' = r ∧ i_Rel (k + 5) u' v') v v1 v2 v3) u v1 v2 v3 := by
  obtain ⟨s, k, w, s', k', w', op, st, en, ch, ac, ar, ak, ad, sc, sa, sk, sd, wc, wk, wd, G, rfl, rfl, hX, hY, hQ⟩ := I
  unfold wpX_store wpY_store
  rcases tm_cO op v1 with h | ⟨t, ht, rfl, ho⟩
  · exact tm_xO0 h (br_t rfl (tm_yO0 h (br_t rfl ⟨rfl, tm_mk hX hY hQ⟩)))
  · refine tm_xO1 ht ho (br_f tm_10 ?_)
    rcases tm_ix v2 (n := 4) (by omega) with h | ⟨r, hr, rfl⟩
    · exact tm_xR0 h (br_t rfl (tm_yO1 ht ho (br_f tm_10 (tm_yB0 4 h (br_t rfl ⟨rfl, tm_mk hX hY hQ⟩)))))
    · refine tm_xR1 hr (br_f tm_10 ?_)
      rcases tm_ix v3 (n := 4) (by omega) with h | ⟨j, hj, rfl⟩
      · exact tm_xV0 h (br_t rfl (tm_yO1 ht ho (br_f tm_10 (tm_yB1 4 hr (by omega) (br_f tm_10 (tm_yB0 4 h (br_t rfl ⟨rfl, tm_mk hX hY hQ⟩)))))))
      · have hPj : tm_P op st j := Or.inl (by omega)
        have i1 : vp_in (nI j) 35 := vp_in_nI (by omega) (by omega)
        have i2 : vp_in (nI j) 39 := vp_in_nI (by omega) (by omega)
        have i3 : vp_in (nI (t * 4 + r)) 12 := vp_in_nI (by omega) (by omega)
        have i4 : vp_in (nI t * 4 + nI r) 12 := pk_in (t * 4 + r) 12 (by omega) (tm_r4 t r)
        have e4 : (nI t * 4 + nI r).toNatClampNeg = t * 4 + r := by rw [tm_r4, nI_clamp (by omega)]
        refine tm_xV1 hj (br_f tm_10 (nm_r (tm_r4 t r) ⟨i3, br_c (fun y => ?_) (fun y => ⟨i3, nm_r (e' := upd st (t * 4 + r) 1) (by rw [nI_clamp (by omega)]) ?_⟩)⟩))
        · rw [nI_clamp (by omega)] at y
          refine tm_yO1 ht ho (br_f tm_10 (tm_yB1 4 hr (by omega) (br_f tm_10 (tm_yB1 4 hj (by omega) (br_f tm_10 ⟨i4, br_t ?_ ⟨rfl, tm_mk hX hY hQ⟩⟩)))))
          rw [e4]; exact y
        · rw [nI_clamp (by omega)] at y
          rw [tm_a22]
          refine tm_xCp (by omega) (by omega) hX hPj (fun s1 k1 w1 HX => ⟨i1, ?_⟩)
          refine tm_yO1 ht ho (br_f tm_10 (tm_yB1 4 hr (by omega) (br_f tm_10 (tm_yB1 4 hj (by omega) (br_f tm_10 ⟨i4, br_f (by rw [e4]; exact y) ⟨i4, nm_r (e' := upd st (t * 4 + r) 1) (by rw [e4]) ?_⟩⟩)))))
          rw [tm_b22]
          refine tm_yCp (by omega) (by omega) hY hPj (fun s2 k2 w2 HY => ⟨i2, ?_, ?_⟩)
          · rw [nI_clamp (by omega)]; exact tm_sz HX HY (Or.inl hPj) (Or.inl hPj)
          · refine tm_mk (tm_PX_of HX fun q hq => ⟨tm_P_up hq, rfl⟩) (tm_PY_of HY fun q hq => ⟨tm_P_up hq, rfl⟩) ⟨?_, ?_, hQ.2.2⟩
            · intro i hi
              by_cases x : i = t * 4 + r
              · subst x; exact Or.inr (Or.inl pk_us)
              · rw [pk_un x]; exact hQ.1 i hi
            · intro t' ht'
              obtain ⟨c, hc, e, hh⟩ := hQ.2.1 t' ht'
              refine ⟨c, hc, e, fun x hx => ?_⟩
              obtain ⟨r', a, b, c2⟩ := hh x hx
              have hne : t' * 4 + r' ≠ t * 4 + r := fun x => y (by rw [← x]; exact c2)
              exact ⟨r', a, b, by rw [pk_un hne]; exact c2⟩
theorem i_vc_send {k : Nat} {u : SX} {v : SY} (I : i_Rel k u v) (hk : k + 5 ≤ 2561) (v1 : Int32) (v2 : Int32) (v3 : Int32) (v4 : Int32) : wpX_send (fun r u' => wpY_send (fun r' v' => r' = r ∧ i_Rel (k + 5) u' v') v v1 v2 v3 v4) u v1 v2 v3 v4 := by
  obtain ⟨s, k, w, s', k', w', op, st, en, ch, ac, ar, ak, ad, sc, sa, sk, sd, wc, wk, wd, G, rfl, rfl, hX, hY, hQ⟩ := I
  unfold wpX_send wpY_send
  rcases tm_ix v2 (n := 2) (by omega) with h | ⟨g, hg, rfl⟩
  · exact tm_xG0 h (br_t rfl (tm_yB0 2 h (br_t rfl ⟨rfl, tm_mk hX hY hQ⟩)))
  · refine tm_xG1 hg (br_f tm_10 ?_)
    by_cases z : v1 = -1
    · refine br_t z ?_
      obtain ⟨c, hc, e⟩ := hQ.2.2.2 g hg
      have i0 : vp_in (nI g) 2 := vp_in_nI hg (by omega)
      have ew : wc (nI g).toNatClampNeg = nI c := by rw [nI_clamp (by omega), e]
      by_cases y : c = 8
      · subst y
        refine ⟨i0, br_f (by rw [ew]; decide) ?_⟩
        exact tm_yB1 2 hg (by omega) (br_f tm_10 (br_t z (br_t z ⟨i0, br_t ew ⟨rfl, tm_mk hX hY hQ⟩⟩)))
      · refine ⟨i0, br_t (by rw [ew]; exact nI_lt (b := 8) (by omega) (by omega)) ?_⟩
        refine tm_xJoin hg (by omega) e ⟨i0, ?_⟩
        refine tm_yB1 2 hg (by omega) (br_f tm_10 (br_t z (br_t z ⟨i0, br_f ?_ ?_⟩)))
        · rw [ew]; exact fun q => y ((nI_eq (b := 8) (by omega) (by omega)).mp q)
        · refine tm_yEnq hg (by omega) e ⟨?_, tm_mk hX hY ⟨hQ.1, hQ.2.1, hQ.2.2.1, tm_wc hQ.2.2.2 (by omega)⟩⟩
          rw [nI_clamp (by omega), pk_us]
    · refine br_f z ?_
      rcases tm_cO op v1 with h | ⟨t, ht, rfl, ho⟩
      · exact tm_xO0 h (br_t rfl (tm_yB1 2 hg (by omega) (br_f tm_10 (br_f z (tm_yO0 h (br_t rfl ⟨rfl, tm_mk hX hY hQ⟩))))))
      · refine tm_xO1 ht ho (br_f tm_10 ?_)
        obtain ⟨c, hc, e, hh⟩ := hQ.2.2.1 t ht
        have i0 : vp_in (nI t) 3 := vp_in_nI ht (by omega)
        have ew : sc (nI t).toNatClampNeg = nI c := by rw [nI_clamp (by omega), e]
        by_cases y : c = 6
        · subst y
          refine ⟨i0, nm_r (e' := nI 6) ew (br_f (by decide) ?_)⟩
          exact tm_yB1 2 hg (by omega) (br_f tm_10 (br_f z (tm_yO1 ht ho (br_f tm_10 (br_f z ⟨i0, br_t ew ⟨rfl, tm_mk hX hY hQ⟩⟩)))))
        · have i1 : vp_in (nI (t * 6 + c)) 18 := vp_in_nI (by omega) (by omega)
          have ec : (nI (t * 6 + c)).toNatClampNeg = t * 6 + c := nI_clamp (by omega)
          refine ⟨i0, nm_r (e' := nI c) ew (br_t (nI_lt (b := 6) (by omega) (by omega)) (nm_r (e' := nI (t * 6 + c)) (tm_r6 t c) ⟨i1, nm_r (e' := upd sa (t * 6 + c) (nI g)) (by rw [ec]) ⟨i1, nm_r (e' := upd sk (t * 6 + c) v3) (by rw [ec])
            ⟨i1, nm_r (e' := upd sd (t * 6 + c) v4) (by rw [ec]) ⟨i0, i0, nm_r (e' := upd sc t (nI (c + 1))) (by rw [ew, nI_1, nI_clamp (by omega)]) ⟨i0, ?_⟩⟩⟩⟩⟩))⟩
          refine tm_yB1 2 hg (by omega) (br_f tm_10 (br_f z (tm_yO1 ht ho (br_f tm_10 (br_f z ⟨i0, br_f ?_ ⟨i0, ?_⟩⟩)))))
          · rw [ew]; exact fun q => y ((nI_eq (b := 6) (by omega) (by omega)).mp q)
          · refine nm_r (e' := nI (t * 6 + c)) (by rw [ew, tm_r6]) ⟨i1, nm_r (e' := upd sa (t * 6 + c) (nI g)) (by rw [ec]) ⟨i1, nm_r (e' := upd sk (t * 6 + c) v3) (by rw [ec])
              ⟨i1, nm_r (e' := upd sd (t * 6 + c) v4) (by rw [ec]) ⟨i0, i0, nm_r (e' := upd sc t (nI (c + 1))) (by rw [ew, nI_1, nI_clamp (by omega)]) ⟨i0, rfl, tm_mk hX hY ⟨hQ.1, hQ.2.1, ?_, hQ.2.2.2⟩⟩⟩⟩⟩⟩
            intro t' ht'
            by_cases x : t' = t
            · subst x
              refine ⟨c + 1, by omega, pk_us, fun j hj => ?_⟩
              by_cases x : j = c
              · subst x; exact ⟨g, hg, pk_us⟩
              · rw [pk_un (by omega)]; exact hh j (by omega)
            · obtain ⟨c', hc', e', hh'⟩ := hQ.2.2.1 t' ht'
              refine ⟨c', hc', by rw [pk_un x]; exact e', fun j hj => ?_⟩
              rw [pk_un (by omega)]; exact hh' j hj
end
