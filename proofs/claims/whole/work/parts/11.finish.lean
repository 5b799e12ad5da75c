section
theorem tm_a35 (r : Nat) : 35 + nI r = nI (35 + r) := nI_add 35 r
section
variable {op st en ch ac ar ak ad sc sa sk sd wc wk wd : Nat → Int32}
theorem tm_yCnt {post : Int32 → SY → Prop} {J : Int32 → Prop} {s k w : Nat → Int32} {t g c d : Nat} (ht : t < 3) (hc : c ≤ 6) (ea : sc t = nI c) (hd : d ≤ 8) (h1 : d + tm_cs sa t g c ≤ 8 → J (nI (g + 1))) (h0 : ¬ d + tm_cs sa t g c ≤ 8 → post (-2) (k, w, s, op, st, en, ch, ar, ak, ad, ac, sa, sk, sd, sc, wk, wd, wc)) :
    ∃ q, wY_verdict_151 post J (nI t) (nI g) k w s op st en ch ar ak ad ac sa sk sd sc wk wd wc q (nI d) (nI (t * 6)) := by
  have loop : ∀ q j, j ≤ c → c - j < q → wY_verdict_151 post J (nI t) (nI g) k w s op st en ch ar ak ad ac sa sk sd sc wk wd wc q (nI (d + tm_cs sa t g j)) (nI (t * 6 + j)) := by
    intro q
    induction q with
    | zero => intro j _ hm; omega
    | succ q ih =>
      intro j h2 hm
      have hcs : tm_cs sa t g j ≤ j := tm_cs_le j
      refine ⟨vp_in_nI ht (by omega), pk_le (t * 6 + c) (t * 6 + j) (fun hle => ?_) (fun hgt => ?_) (by rw [nI_clamp (by omega), ea, tm_r6])⟩
      · have : j = c := by omega
        subst this
        exact pk_le (d + tm_cs sa t g j) 8 (fun x => nm_r (nI_1 g) (h1 x)) (fun x => h0 (by omega))
      · have ec : (nI (t * 6 + j)).toNatClampNeg = t * 6 + j := nI_clamp (by omega)
        refine ⟨vp_in_nI (by omega) (by omega), ?_⟩
        rw [ec]
        have ihn := ih (j + 1) (by omega) (by omega)
        refine br_c (fun e => nm_r (nI_1 _) (nm_r (nI_1 (t * 6 + j)) ?_)) (fun e => nm_r (nI_1 (t * 6 + j)) ?_)
        · rw [show tm_cs sa t g (j + 1) = tm_cs sa t g j + 1 from if_pos e] at ihn
          exact ihn
        · rw [show tm_cs sa t g (j + 1) = tm_cs sa t g j from if_neg e] at ihn
          exact ihn
  exact ⟨c + 1, loop (c + 1) 0 (by omega) (by omega)⟩
theorem tm_yFit {post : Int32 → SY → Prop} {s k w : Nat → Int32} {t c : Nat} (ht : t < 3) (hc : c ≤ 6) (ea : sc t = nI c) (hw : ∀ g, g < 2 → ∃ c, c ≤ 8 ∧ wc g = nI c) (h1 : tm_S sa wc t c → post 1 (k, w, s, op, st, en, ch, ar, ak, ad, ac, sa, sk, sd, sc, wk, wd, wc)) (h0 : ¬ tm_S sa wc t c → post (-2) (k, w, s, op, st, en, ch, ar, ak, ad, ac, sa, sk, sd, sc, wk, wd, wc)) :
    ∃ q, wY_verdict_133 post (nI t) k w s op st en ch ar ak ad ac sa sk sd sc wk wd wc q 0 := by
  have loop : ∀ q g, g ≤ 2 → 2 - g < q → (∀ i, i < g → (wc i).toNatClampNeg + tm_cs sa t i c ≤ 8) → wY_verdict_133 post (nI t) k w s op st en ch ar ak ad ac sa sk sd sc wk wd wc q (nI g) := by
    intro q
    induction q with
    | zero => intro j _ hm; omega
    | succ q ih =>
      intro g h2 hm hh
      refine pk_le 2 g (fun hle => ?_) (fun hgt => ?_)
      · exact h1 fun i hi => hh i (by omega)
      · obtain ⟨d, hd, e⟩ := hw g hgt
        have ed : (wc g).toNatClampNeg = d := by rw [e, nI_clamp (by omega)]
        refine ⟨vp_in_nI hgt (by omega), nm_r (e' := nI d) (by rw [nI_clamp (by omega), e]) (nm_r (pk_mul t 6) ?_)⟩
        refine tm_yCnt ht hc ea hd (fun hle => ih (g + 1) (by omega) (by omega) fun i hi => ?_) (fun hgt2 => h0 fun z => ?_)
        · by_cases z : i = g
          · subst z; rw [ed]; exact hle
          · exact hh i (by omega)
        · have := z g hgt
          rw [ed] at this
          exact hgt2 this
  exact ⟨3, loop 3 0 (by omega) (by omega) fun i hi => absurd hi (Nat.not_lt_zero i)⟩
def tm_GY (G : Nat → Int32 → Option Int32) (M : Nat → Int32 → Option Int32) : Nat → Int32 → Option Int32 := fun q => if 35 ≤ q then M (q - 35) else G q
theorem tm_GY_s {G : Nat → Int32 → Option Int32} {M : Nat → Int32 → Option Int32} {r : Nat} : tm_GY G M (35 + r) = M r := by
  unfold tm_GY
  rw [if_pos (by omega), show 35 + r - 35 = r by omega]
theorem tm_GY_n {G : Nat → Int32 → Option Int32} {M : Nat → Int32 → Option Int32} {q : Nat} (h : q < 35) : tm_GY G M q = G q := if_neg (by omega)
theorem tm_yAnew2 {post : Int32 → SY → Prop} {P : Nat → Prop} {G : Nat → Int32 → Option Int32} {s k w : Nat → Int32} {t c c6 : Nat} (ht : t < 3) (hc : c ≤ 8) (ea : ac t = nI c) (hr : ∀ j, j < c → ∃ r, r < 4 ∧ ar (t * 8 + j) = nI r ∧ st (t * 4 + r) = 2)
    (hP35 : ∀ q, P q → q < 35) (hc6 : c6 ≤ 6) (es : sc t = nI c6) (hw : ∀ g, g < 2 → ∃ c, c ≤ 8 ∧ wc g = nI c)
    (H : tm_PY (fun q => P q ∨ (35 ≤ q ∧ q < 39)) (tm_GY G (tm_M G t ar ak ad 0)) s k w)
    (h1 : ¬ tm_Fl G t ar ak ad c → tm_S sa wc t c6 → ∀ s1 k1 w1, tm_PY (fun q => P q ∨ (35 ≤ q ∧ q < 39)) (tm_GY G (tm_M G t ar ak ad c)) s1 k1 w1 → post 1 (k1, w1, s1, op, st, en, ch, ar, ak, ad, ac, sa, sk, sd, sc, wk, wd, wc))
    (h0 : (tm_Fl G t ar ak ad c ∨ ¬ tm_S sa wc t c6) → ∀ s1 k1 w1, tm_PY P G s1 k1 w1 → post (-2) (k1, w1, s1, op, st, en, ch, ar, ak, ad, ac, sa, sk, sd, sc, wk, wd, wc)) : ∃ q, wY_verdict_79 post (nI t) q (nI (t * 8)) k w s op st en ch ar ak ad ac sa sk sd sc wk wd wc := by
  have back : ∀ j s1 k1 w1, tm_PY (fun q => P q ∨ (35 ≤ q ∧ q < 39)) (tm_GY G (tm_M G t ar ak ad j)) s1 k1 w1 → tm_PY P G s1 k1 w1 := fun j s1 k1 w1 h =>
    tm_PY_of h fun x hx => ⟨Or.inl hx, (tm_GY_n (hP35 x hx)).symm⟩
  have loop : ∀ q j s1 k1 w1, j ≤ c → c - j < q → ¬ tm_Fl G t ar ak ad j → tm_PY (fun q => P q ∨ (35 ≤ q ∧ q < 39)) (tm_GY G (tm_M G t ar ak ad j)) s1 k1 w1 → wY_verdict_79 post (nI t) q (nI (t * 8 + j)) k1 w1 s1 op st en ch ar ak ad ac sa sk sd sc wk wd wc := by
    intro q
    induction q with
    | zero => intro j s1 k1 w1 _ hm; omega
    | succ q ih =>
      intro j s1 k1 w1 h2 hm hF HY
      refine ⟨vp_in_nI ht (by omega), pk_le (t * 8 + c) (t * 8 + j) (fun hle => ?_) (fun hgt => ?_) (by rw [nI_clamp (by omega), ea, tm_r8])⟩
      · have : j = c := by omega
        subst this
        exact tm_yFit ht hc6 es hw (fun hS => h1 hF hS s1 k1 w1 HY) (fun hS => h0 (Or.inr hS) s1 k1 w1 (back _ _ _ _ HY))
      · have i1 : vp_in (nI (t * 8 + j)) 24 := vp_in_nI (by omega) (by omega)
        have ec : (nI (t * 8 + j)).toNatClampNeg = t * 8 + j := nI_clamp (by omega)
        obtain ⟨r, hr4, er, _⟩ := hr j (by omega)
        have hP : P (35 + r) ∨ (35 ≤ 35 + r ∧ 35 + r < 39) := Or.inr ⟨by omega, by omega⟩
        refine ⟨i1, i1, i1, ?_⟩
        rw [ec, er, tm_a35]
        refine tm_yAj (by omega) HY hP (fun s2 k2 w2 H2 => br_f tm_10 ?_) (fun hov => br_t rfl ?_)
        · rw [tm_GY_s, ← tm_M_s er] at H2
          refine nm_r (nI_1 _) (ih (j + 1) s2 k2 w2 (by omega) (by omega) (tm_Fl_1 hF hr4 er fun hov => tm_noY H2 hP tm_gu_s hov) (tm_PY_of H2 fun x hx => ⟨hx, ?_⟩))
          by_cases z : x = 35 + r
          · subst z; rw [tm_gu_s]; exact tm_GY_s
          · rw [tm_gu_n z]
            unfold tm_GY
            by_cases y : 35 ≤ x
            · rw [if_pos y, if_pos y]
              have hx39 : x < 39 := hx.elim (fun q => by have := hP35 x q; omega) (fun q => q.2)
              exact tm_M_n er hr4 (by omega) (by omega)
            · rw [if_neg y, if_neg y]
        · rw [tm_GY_s, ← tm_M_s er] at hov
          exact h0 (Or.inl ⟨j, by omega, r, hr4, er, hov⟩) s1 k1 w1 (back _ _ _ _ HY)
  exact ⟨c + 1, loop (c + 1) 0 s k w (by omega) (by omega) tm_Fl_0 H⟩
theorem tm_yAnew {post : Int32 → SY → Prop} {P : Nat → Prop} {G : Nat → Int32 → Option Int32} {s k w : Nat → Int32} {t c c6 : Nat} (ht : t < 3) (hc : c ≤ 8) (ea : ac t = nI c) (hr : ∀ j, j < c → ∃ r, r < 4 ∧ ar (t * 8 + j) = nI r ∧ st (t * 4 + r) = 2)
    (hPq : ∀ q, q < 22 → P q) (hP35 : ∀ q, P q → q < 35) (hc6 : c6 ≤ 6) (es : sc t = nI c6) (hw : ∀ g, g < 2 → ∃ c, c ≤ 8 ∧ wc g = nI c)
    (H : tm_PY P G s k w)
    (h1 : ¬ tm_Fl G t ar ak ad c → tm_S sa wc t c6 → ∀ s1 k1 w1, tm_PY (fun q => P q ∨ (35 ≤ q ∧ q < 39)) (tm_GY G (tm_M G t ar ak ad c)) s1 k1 w1 → post 1 (k1, w1, s1, op, st, en, ch, ar, ak, ad, ac, sa, sk, sd, sc, wk, wd, wc))
    (h0 : (tm_Fl G t ar ak ad c ∨ ¬ tm_S sa wc t c6) → ∀ s1 k1 w1, tm_PY P G s1 k1 w1 → post (-2) (k1, w1, s1, op, st, en, ch, ar, ak, ad, ac, sa, sk, sd, sc, wk, wd, wc)) : ∃ q, wY_verdict_52 post (nI t) q 0 k w s op st en ch ar ak ad ac sa sk sd sc wk wd wc := by
  have loop : ∀ q m s1 k1 w1, m ≤ 4 → 4 - m < q → tm_PY (fun q => P q ∨ (35 ≤ q ∧ q < 35 + m)) (tm_GY G (tm_M G t ar ak ad 0)) s1 k1 w1 → wY_verdict_52 post (nI t) q (nI m) k1 w1 s1 op st en ch ar ak ad ac sa sk sd sc wk wd wc := by
    intro q
    induction q with
    | zero => intro m s1 k1 w1 _ hm; omega
    | succ q ih =>
      intro m s1 k1 w1 h2 hm HY
      refine pk_le 4 m (fun hle => ?_) (fun hgt => ?_)
      · have : m = 4 := by omega
        subst this
        exact nm_r (pk_mul t 8) (tm_yAnew2 ht hc ea hr hP35 hc6 es hw HY h1 h0)
      · rw [tm_a4, tm_a35]
        refine tm_yCp (by omega) (by omega) HY (Or.inl (hPq _ (by omega))) (fun s2 k2 w2 H2 => nm_r (nI_1 m) (ih (m + 1) s2 k2 w2 (by omega) (by omega) (tm_PY_of H2 fun x hx => ⟨?_, ?_⟩)))
        · rcases hx with hx | hx
          · exact Or.inl (Or.inl hx)
          · by_cases z : x = 35 + m
            · exact Or.inr z
            · exact Or.inl (Or.inr ⟨hx.1, by omega⟩)
        · by_cases z : x = 35 + m
          · subst z
            rw [tm_gu_s, tm_GY_s, tm_GY_n (by omega)]
            rfl
          · rw [tm_gu_n z]
  refine ⟨5, loop 5 0 s k w (by omega) (by omega) (tm_PY_of H fun x hx => ?_)⟩
  have hx' : P x := hx.elim id fun q => by omega
  exact ⟨hx', tm_GY_n (hP35 x hx')⟩
theorem tm_yVerd {post : Int32 → SY → Prop} {P : Nat → Prop} {G : Nat → Int32 → Option Int32} {s k w : Nat → Int32} {t c c6 : Nat} (ht : t < 3) (hc : c ≤ 8) (ea : ac t = nI c) (hr : ∀ j, j < c → ∃ r, r < 4 ∧ ar (t * 8 + j) = nI r ∧ st (t * 4 + r) = 2)
    (hPq : ∀ q, q < 22 → P q) (hP35 : ∀ q, P q → q < 35) (hc6 : c6 ≤ 6) (es : sc t = nI c6) (hw : ∀ g, g < 2 → ∃ c, c ≤ 8 ∧ wc g = nI c)
    (H : tm_PY P G s k w) (hcf : tm_cf st en ch t → post (-3) (k, w, s, op, st, en, ch, ar, ak, ad, ac, sa, sk, sd, sc, wk, wd, wc))
    (h1 : ¬ tm_cf st en ch t → ¬ tm_Fl G t ar ak ad c → tm_S sa wc t c6 → ∀ s1 k1 w1, tm_PY (fun q => P q ∨ (35 ≤ q ∧ q < 39)) (tm_GY G (tm_M G t ar ak ad c)) s1 k1 w1 → post 1 (k1, w1, s1, op, st, en, ch, ar, ak, ad, ac, sa, sk, sd, sc, wk, wd, wc))
    (h0 : ¬ tm_cf st en ch t → (tm_Fl G t ar ak ad c ∨ ¬ tm_S sa wc t c6) → ∀ s1 k1 w1, tm_PY P G s1 k1 w1 → post (-2) (k1, w1, s1, op, st, en, ch, ar, ak, ad, ac, sa, sk, sd, sc, wk, wd, wc)) : wpY_verdict post (k, w, s, op, st, en, ch, ar, ak, ad, ac, sa, sk, sd, sc, wk, wd, wc) (nI t) := by
  have loop : ∀ q m, m ≤ 4 → 4 - m < q → (∀ i, i < m → ¬ (ch (t * 4 + i) ≠ 0 ∧ (st (t * 4 + i) = 1 ∨ en (t * 4 + i) ≠ 0))) → wY_verdict_4 post (nI t) k w s op st en ch ar ak ad ac sa sk sd sc wk wd wc q (nI (t * 4 + m)) := by
    intro q
    induction q with
    | zero => intro m _ hm; omega
    | succ q ih =>
      intro m h2 hm hn
      refine pk_le (t * 4 + 4) (t * 4 + m) (fun hle => ?_) (fun hgt => ?_) (tm_r4 t 4)
      · have : m = 4 := by omega
        subst this
        have hno : ¬ tm_cf st en ch t := by
          intro z
          obtain ⟨i, hi, a⟩ := z
          exact hn i hi a
        exact tm_yAnew ht hc ea hr hPq hP35 hc6 es hw H (h1 hno) (h0 hno)
      · have i1 : vp_in (nI (t * 4 + m)) 12 := vp_in_nI (by omega) (by omega)
        have ec : (nI (t * 4 + m)).toNatClampNeg = t * 4 + m := nI_clamp (by omega)
        have next : ¬ (ch (t * 4 + m) ≠ 0 ∧ (st (t * 4 + m) = 1 ∨ en (t * 4 + m) ≠ 0)) → wY_verdict_4 post (nI t) k w s op st en ch ar ak ad ac sa sk sd sc wk wd wc q (nI (t * 4 + (m + 1))) := by
          intro hc
          refine ih (m + 1) (by omega) (by omega) fun i hi => ?_
          by_cases z : i = m
          · subst z; exact hc
          · exact hn i (by omega)
        refine ⟨i1, br_c (fun a => nm_r (nI_1 (t * 4 + m)) (next ?_)) (fun a => ⟨i1, br_c (fun b => hcf ?_) (fun b => ⟨i1, br_c (fun d => nm_r (nI_1 (t * 4 + m)) (next ?_)) (fun d => hcf ?_)⟩)⟩)⟩
        · rw [ec] at a; exact fun y => y.1 a
        · rw [ec] at a b; exact ⟨m, by omega, a, Or.inl b⟩
        · rw [ec] at b d; exact fun y => y.2.elim b (fun x => x d)
        · rw [ec] at a d; exact ⟨m, by omega, a, Or.inr d⟩
  exact nm_r (e' := nI (t * 4 + 0)) (pk_mul t 4) ⟨5, loop 5 0 (by omega) (by omega) fun i hi => absurd hi (Nat.not_lt_zero i)⟩
theorem tm_yMark {post : Int32 → SY → Prop} {J : Int32 → (Nat → Int32) → (Nat → Int32) → (Nat → Int32) → (Nat → Int32) → (Nat → Int32) → (Nat → Int32) → (Nat → Int32) → (Nat → Int32) → (Nat → Int32) → (Nat → Int32) → (Nat → Int32) → (Nat → Int32) → (Nat → Int32) → (Nat → Int32) → (Nat → Int32) → (Nat → Int32) → (Nat → Int32) → (Nat → Int32) → Prop} {s k w : Nat → Int32} {x1 : Int32} {r : Nat} (hr : r < 4) (h : J (nI (r + 1)) k w s op st en (tm_mr ch r 3) ar ak ad ac sa sk sd sc wk wd wc) : ∃ q, wY_finish_122 post J x1 (nI r) q 0 k w s op st en ch ar ak ad ac sa sk sd sc wk wd wc := by
  have loop : ∀ q m, m ≤ 3 → 3 - m < q → wY_finish_122 post J x1 (nI r) q (nI m) k w s op st en (tm_mr ch r m) ar ak ad ac sa sk sd sc wk wd wc := by
    intro q
    induction q with
    | zero => intro j _ hm; omega
    | succ q ih =>
      intro m h2 hm
      refine pk_le 3 m (fun hle => ?_) (fun hgt => ?_)
      · have : m = 3 := by omega
        subst this
        exact nm_r (nI_1 r) h
      · exact ⟨pk_in (m * 4 + r) 12 (by omega) (tm_r4 m r), nm_r (e' := tm_mr ch r (m + 1)) (by rw [tm_r4, nI_clamp (by omega)]; rfl) (nm_r (nI_1 m) (ih (m + 1) (by omega) (by omega)))⟩
  exact ⟨4, loop 4 0 (by omega) (by omega)⟩
theorem tm_yDel {post : Int32 → SY → Prop} {s k w : Nat → Int32} {t c : Nat} (ht : t < 3) (hc : c ≤ 6) (ea : sc t = nI c) (hs : ∀ j, j < c → ∃ g, g < 2 ∧ sa (t * 6 + j) = nI g) (hw : ∀ g, g < 2 → ∃ c, c ≤ 8 ∧ wc g = nI c) (hS : tm_S sa wc t c)
    (h : post 1 (k, w, s, op, st, en, ch, ar, ak, ad, ac, sa, sk, sd, sc, tm_dk sa wc sk wk t c, tm_dk sa wc sd wd t c, tm_dw sa wc t c)) : ∃ q, wY_finish_156 post (nI t) q 0 k w s op st en ch ar ak ad ac sa sk sd sc wk wd wc := by
  have loop : ∀ q j, j ≤ c → c - j < q → wY_finish_156 post (nI t) q (nI j) k w s op st en ch ar ak ad ac sa sk sd sc (tm_dk sa wc sk wk t j) (tm_dk sa wc sd wd t j) (tm_dw sa wc t j) := by
    intro q
    induction q with
    | zero => intro j _ hm; omega
    | succ q ih =>
      intro j h2 hm
      refine ⟨vp_in_nI ht (by omega), pk_le c j (fun hle => ?_) (fun hgt => ?_) (by rw [nI_clamp (by omega), ea])⟩
      · have : j = c := by omega
        subst this
        exact h
      · have i1 : vp_in (nI (t * 6 + j)) 18 := vp_in_nI (by omega) (by omega)
        have ec : (nI (t * 6 + j)).toNatClampNeg = t * 6 + j := nI_clamp (by omega)
        obtain ⟨g, d, hg, hd, e, ed, x1, x2⟩ := tm_dw_st hs hw hS hc (show j < c by omega)
        refine nm_r (tm_r6 t j) ⟨i1, i1, i1, ?_⟩
        rw [ec, e]
        have ihn := ih (j + 1) (by omega) (by omega)
        rw [x1, x2, x2] at ihn
        exact tm_yEnq hg hd ed (nm_r (nI_1 j) ihn)
  exact ⟨c + 1, loop (c + 1) 0 (by omega) (by omega)⟩
theorem tm_yPub {post : Int32 → SY → Prop} {P : Nat → Prop} {G : Nat → Int32 → Option Int32} {s k w : Nat → Int32} {t : Nat} {N : Nat → Int32 → Option Int32} (ht : t < 3) (hst : ∀ r, r < 4 → st (t * 4 + r) = 0 ∨ st (t * 4 + r) = 1 ∨ st (t * 4 + r) = 2)
    (hPo : ∀ r, r < 4 → st (t * 4 + r) = 1 → P (22 + (t * 4 + r)) ∧ G (22 + (t * 4 + r)) = N r) (hPa : ∀ r, r < 4 → st (t * 4 + r) = 2 → P (35 + r) ∧ G (35 + r) = N r)
    (H : tm_PY P G s k w) (h : ∀ s1 k1 w1, tm_PY P (tm_GP G st t N 4) s1 k1 w1 → ∃ q, wY_finish_156 post (nI t) q 0 k1 w1 s1 op st en (tm_ch st ch t 4) ar ak ad ac sa sk sd sc wk wd wc) : ∃ q, wY_finish_39 post (nI t) q 0 k w s op st en ch ar ak ad ac sa sk sd sc wk wd wc := by
  have loop : ∀ q c s1 k1 w1, c ≤ 4 → 4 - c < q → tm_PY P (tm_GP G st t N c) s1 k1 w1 → wY_finish_39 post (nI t) q (nI c) k1 w1 s1 op st en (tm_ch st ch t c) ar ak ad ac sa sk sd sc wk wd wc := by
    intro q
    induction q with
    | zero => intro c s1 k1 w1 _ hm; omega
    | succ q ih =>
      intro c s1 k1 w1 h2 hm HY
      refine pk_le 4 c (fun hle => ?_) (fun hgt => ?_)
      · have : c = 4 := by omega
        subst this
        exact h s1 k1 w1 HY
      · have i1 : vp_in (nI t * 4 + nI c) 12 := pk_in (t * 4 + c) 12 (by omega) (tm_r4 t c)
        have ec : (nI t * 4 + nI c).toNatClampNeg = t * 4 + c := by rw [tm_r4, nI_clamp (by omega)]
        have ihn := ih (c + 1)
        have n1 : ∀ x : Int32, st (t * 4 + c) ≠ x → ¬ st (nI t * 4 + nI c).toNatClampNeg = x := fun x hx => by rw [ec]; exact hx
        have y1 : ∀ x : Int32, st (t * 4 + c) = x → st (nI t * 4 + nI c).toNatClampNeg = x := fun x hx => by rw [ec]; exact hx
        rcases hst c hgt with e | e | e
        · rw [show tm_ch st ch t (c + 1) = tm_ch st ch t c from if_pos e] at ihn
          refine ⟨i1, br_f (n1 1 (by rw [e]; decide)) ⟨i1, br_f (n1 2 (by rw [e]; decide)) ⟨i1, br_t (y1 0 e) (nm_r (nI_1 c) ?_)⟩⟩⟩
          exact ihn s1 k1 w1 (by omega) (by omega) (tm_PY_of HY fun x hx => ⟨hx, tm_GP_z e⟩)
        · have e0 : st (t * 4 + c) ≠ 0 := by rw [e]; decide
          rw [show tm_ch st ch t (c + 1) = tm_mr (tm_ch st ch t c) c 3 from if_neg e0] at ihn
          refine ⟨i1, br_t (y1 1 e) ?_⟩
          rw [tm_b22, tm_a4]
          refine tm_yCp (by omega) (by omega) HY (hPo c hgt e).1 (fun s2 k2 w2 H2 => ?_)
          refine ⟨i1, br_f (n1 2 (by rw [e]; decide)) ⟨i1, br_f (n1 0 e0) ?_⟩⟩
          refine tm_yMark hgt (ihn s2 k2 w2 (by omega) (by omega) (tm_PY_of H2 fun x hx => ⟨Or.inl hx, ?_⟩))
          rw [tm_GP_s e0, tm_GP_n (q := 22 + (t * 4 + c)) (Or.inr (by omega)), (hPo c hgt e).2]
        · have e0 : st (t * 4 + c) ≠ 0 := by rw [e]; decide
          rw [show tm_ch st ch t (c + 1) = tm_mr (tm_ch st ch t c) c 3 from if_neg e0] at ihn
          refine ⟨i1, br_f (n1 1 (by rw [e]; decide)) ⟨i1, br_t (y1 2 e) ?_⟩⟩
          rw [tm_a35, tm_a4]
          refine tm_yCp (by omega) (by omega) HY (hPa c hgt e).1 (fun s2 k2 w2 H2 => ?_)
          refine ⟨i1, br_f (n1 0 e0) ?_⟩
          refine tm_yMark hgt (ihn s2 k2 w2 (by omega) (by omega) (tm_PY_of H2 fun x hx => ⟨Or.inl hx, ?_⟩))
          rw [tm_GP_s e0, tm_GP_n (q := 35 + c) (Or.inr (by omega)), (hPa c hgt e).2]
  exact ⟨5, loop 5 0 s k w (by omega) (by omega) (tm_PY_of H fun x hx => ⟨hx, tm_GP_0⟩)⟩
end
/-! finish as a whole -/
theorem tm_n0 : vp_nar .boolean 0 = 0 := rfl
def tm_N (G : Nat → Int32 → Option Int32) (st : Nat → Int32) (t : Nat) (M : Nat → Int32 → Option Int32) : Nat → Int32 → Option Int32 := fun r => if st (t * 4 + r) = 2 then M r else G (22 + (t * 4 + r))
section
variable {op st en ch ac ar ak ad sc sa sk sd wc wk wd : Nat → Int32}
theorem tm_P_cl {t : Nat} (q : Nat) (h : tm_P (upd op t (vp_nar .boolean 0)) st q) : tm_P op st q ∧ (q < 22 + t * 4 ∨ 22 + (t * 4 + 4) ≤ q) := by
  rcases h with h | ⟨h1, h2, h3, h4⟩
  · exact ⟨Or.inl h, Or.inl (by omega)⟩
  · have hne : (q - 22) / 4 ≠ t := by
      intro z
      apply h3
      rw [z, pk_us]
      exact tm_n0
    rw [pk_un hne] at h3
    exact ⟨Or.inr ⟨h1, h2, h3, h4⟩, by omega⟩
theorem tm_xFin {post : Int32 → SX → Prop} {G : Nat → Int32 → Option Int32} {s k w : Nat → Int32} {t c c6 : Nat} {b : Int32} (ht : t < 3) (ho : op t ≠ 0) (hb : b ≠ 0) (hQ : tm_Q st ac ar sc sa wc) (hc : c ≤ 8) (ea : ac t = nI c) (hr : ∀ j, j < c → ∃ r, r < 4 ∧ ar (t * 8 + j) = nI r ∧ st (t * 4 + r) = 2)
    (hc6 : c6 ≤ 6) (es : sc t = nI c6) (hs : ∀ j, j < c6 → ∃ g, g < 2 ∧ sa (t * 6 + j) = nI g) (H : tm_PX (tm_P op st) G s k w)
    (hcf : tm_cf st en ch t → post (-3) (s, k, w, upd op t (vp_nar .boolean 0), st, en, ch, ac, ar, ak, ad, sc, sa, sk, sd, wc, wk, wd))
    (h0 : ¬ tm_cf st en ch t → (tm_Fl G t ar ak ad c ∨ ¬ tm_S sa wc t c6) → ∀ s1 k1 w1, tm_PX (tm_P (upd op t (vp_nar .boolean 0)) st) G s1 k1 w1 → post (-2) (s1, k1, w1, upd op t (vp_nar .boolean 0), st, en, ch, ac, ar, ak, ad, sc, sa, sk, sd, wc, wk, wd))
    (h1 : ¬ tm_cf st en ch t → ¬ tm_Fl G t ar ak ad c → tm_S sa wc t c6 → ∀ s1 k1 w1, tm_PX (tm_P (upd op t (vp_nar .boolean 0)) st) (tm_GP G st t (tm_N G st t (tm_M G t ar ak ad c)) 4) s1 k1 w1 →
      post 1 (s1, k1, w1, upd op t (vp_nar .boolean 0), st, en, tm_ch st ch t 4, ac, ar, ak, ad, sc, sa, sk, sd, tm_dw sa wc t c6, tm_dk sa wc sk wk t c6, tm_dk sa wc sd wd t c6)) : wpX_finish post (s, k, w, op, st, en, ch, ac, ar, ak, ad, sc, sa, sk, sd, wc, wk, wd) (nI t) b := by
  unfold wpX_finish
  have hPq : ∀ q, q < 22 → tm_P op st q := fun q hq => Or.inl hq
  have hPo : ∀ r, r < 4 → st (t * 4 + r) ≠ 0 → tm_P op st (22 + (t * 4 + r)) := fun r hr4 hs => tm_P_own ht hr4 ho hs
  refine tm_xO1 ht ho (br_f tm_10 ⟨vp_in_nI ht (by omega), nm_r (e' := upd op t (vp_nar .boolean 0)) (by rw [nI_clamp (by omega)]) (br_f hb ?_)⟩)
  refine tm_xConf ht (fun hC => br_f tm_10 (hcf hC)) (fun hC => br_t rfl ?_)
  refine tm_xAnew ht hc ea hr hPq hPo tm_P_cl H (fun hF s1 k1 w1 H1 => br_f tm_10 ?_) (fun hF s1 k1 w1 H1 => br_t rfl (h0 hC (Or.inl hF) s1 k1 w1 H1))
  refine tm_xFit ht hc6 es hQ.2.2.2 (fun hS => br_f tm_10 ?_) (fun hS => br_t rfl (h0 hC (Or.inr hS) s1 k1 w1 ?_))
  · refine tm_xPub (N := tm_N G st t (tm_M G t ar ak ad c)) ht hPq (fun r hr4 hs => ⟨hPo r hr4 hs, ?_⟩) H1 (fun s2 k2 w2 H2 => ?_)
    · unfold tm_N
      by_cases z : st (t * 4 + r) = 2
      · rw [if_pos z]; exact tm_GX_s hr4 z
      · rw [if_neg z]
        refine tm_GX_n (Or.inr (Or.inr ?_))
        rw [show 22 + (t * 4 + r) - 22 = t * 4 + r by omega]
        exact z
    · refine tm_xDel ht hc6 es hs hQ.2.2.2 hS (h1 hC hF hS s2 k2 w2 (tm_PX_of H2 fun q hq => ⟨(tm_P_cl q hq).1, ?_⟩))
      unfold tm_GP
      by_cases y : 4 ≤ q ∧ q < 4 + 4 ∧ st (t * 4 + (q - 4)) ≠ 0
      · rw [if_pos y, if_pos y]
      · rw [if_neg y, if_neg y]
        exact (tm_GX_n ((tm_P_cl q hq).2.elim Or.inl fun y => Or.inr (Or.inl y))).symm
  · refine tm_PX_of H1 fun q hq => ⟨(tm_P_cl q hq).1, ?_⟩
    exact (tm_GX_n ((tm_P_cl q hq).2.elim Or.inl fun y => Or.inr (Or.inl y))).symm
theorem tm_yFin {post : Int32 → SY → Prop} {G : Nat → Int32 → Option Int32} {s k w : Nat → Int32} {t c c6 : Nat} {b : Int32} (ht : t < 3) (ho : op t ≠ 0) (hb : b ≠ 0) (hQ : tm_Q st ac ar sc sa wc) (hc : c ≤ 8) (ea : ac t = nI c) (hr : ∀ j, j < c → ∃ r, r < 4 ∧ ar (t * 8 + j) = nI r ∧ st (t * 4 + r) = 2)
    (hc6 : c6 ≤ 6) (es : sc t = nI c6) (hs : ∀ j, j < c6 → ∃ g, g < 2 ∧ sa (t * 6 + j) = nI g) (H : tm_PY (tm_P op st) G s k w)
    (hcf : tm_cf st en ch t → post (-3) (k, w, s, upd op t (vp_nar .boolean 0), st, en, ch, ar, ak, ad, ac, sa, sk, sd, sc, wk, wd, wc))
    (h0 : ¬ tm_cf st en ch t → (tm_Fl G t ar ak ad c ∨ ¬ tm_S sa wc t c6) → ∀ s1 k1 w1, tm_PY (tm_P (upd op t (vp_nar .boolean 0)) st) G s1 k1 w1 → post (-2) (k1, w1, s1, upd op t (vp_nar .boolean 0), st, en, ch, ar, ak, ad, ac, sa, sk, sd, sc, wk, wd, wc))
    (h1 : ¬ tm_cf st en ch t → ¬ tm_Fl G t ar ak ad c → tm_S sa wc t c6 → ∀ s1 k1 w1, tm_PY (tm_P (upd op t (vp_nar .boolean 0)) st) (tm_GP G st t (tm_N G st t (tm_M G t ar ak ad c)) 4) s1 k1 w1 →
      post 1 (k1, w1, s1, upd op t (vp_nar .boolean 0), st, en, tm_ch st ch t 4, ar, ak, ad, ac, sa, sk, sd, sc, tm_dk sa wc sk wk t c6, tm_dk sa wc sd wd t c6, tm_dw sa wc t c6)) : wpY_finish post (k, w, s, op, st, en, ch, ar, ak, ad, ac, sa, sk, sd, sc, wk, wd, wc) (nI t) b := by
  unfold wpY_finish
  have hPq : ∀ q, q < 22 → tm_P op st q := fun q hq => Or.inl hq
  have hP35 : ∀ q, tm_P op st q → q < 35 := fun q hq => hq.elim (fun x => by omega) (fun x => by omega)
  have hPo : ∀ r, r < 4 → st (t * 4 + r) ≠ 0 → tm_P op st (22 + (t * 4 + r)) := fun r hr4 hs => tm_P_own ht hr4 ho hs
  refine tm_yO1 ht ho (br_f tm_10 ⟨vp_in_nI ht (by omega), nm_r (e' := upd op t (vp_nar .boolean 0)) (by rw [nI_clamp (by omega)]) (br_f hb ?_)⟩)
  refine tm_yVerd ht hc ea hr hPq hP35 hc6 es hQ.2.2.2 H (fun hC => br_f (by decide) (hcf hC)) (fun hC hF hS s1 k1 w1 H1 => br_t rfl ?_) (fun hC hF s1 k1 w1 H1 => br_f (by decide) (h0 hC hF s1 k1 w1 (tm_PY_of H1 fun q hq => ⟨(tm_P_cl q hq).1, rfl⟩)))
  refine tm_yPub (N := tm_N G st t (tm_M G t ar ak ad c)) ht (fun r hr4 => hQ.1 _ (by omega)) (fun r hr4 e => ⟨Or.inl (hPo r hr4 (by rw [e]; decide)), ?_⟩) (fun r hr4 e => ⟨Or.inr ⟨by omega, by omega⟩, ?_⟩) H1 (fun s2 k2 w2 H2 => ?_)
  · unfold tm_N
    rw [if_neg (by rw [e]; decide)]
    exact tm_GY_n (by omega)
  · unfold tm_N
    rw [if_pos e]
    exact tm_GY_s
  · refine tm_yDel ht hc6 es hs hQ.2.2.2 hS (h1 hC hF hS s2 k2 w2 (tm_PY_of H2 fun q hq => ⟨Or.inl (tm_P_cl q hq).1, ?_⟩))
    unfold tm_GP
    by_cases y : 4 ≤ q ∧ q < 4 + 4 ∧ st (t * 4 + (q - 4)) ≠ 0
    · rw [if_pos y, if_pos y]
    · rw [if_neg y, if_neg y]
      exact (tm_GY_n (hP35 q (tm_P_cl q hq).1)).symm
end
theorem i_vc_finish {k : Nat} {u : SX} {v : SY} (I : i_Rel k u v) (hk : k + 5 ≤ 2561) (v1 : Int32) (v2 : Int32) : wpX_finish (fun r u' => wpY_finish (fun r' v' => r' = r ∧ i_Rel (k + 5) u' v') v v1 (lw_bz v2)) u v1 (lw_bz v2) := by
  obtain ⟨s, k, w, s', k', w', op, st, en, ch, ac, ar, ak, ad, sc, sa, sk, sd, wc, wk, wd, G, rfl, rfl, hX, hY, hQ⟩ := I
  rcases tm_cO op v1 with h | ⟨t, ht, rfl, ho⟩
  · unfold wpX_finish wpY_finish
    exact tm_xO0 h (br_t rfl (tm_yO0 h (br_t rfl ⟨rfl, tm_mk hX hY hQ⟩)))
  · obtain ⟨c, hc, ea, hr⟩ := hQ.2.1 t ht
    obtain ⟨c6, hc6, es, hs⟩ := hQ.2.2.1 t ht
    by_cases hb : lw_bz v2 = 0
    · unfold wpX_finish wpY_finish
      have i0 : vp_in (nI t) 3 := vp_in_nI ht (by omega)
      refine tm_xO1 ht ho (br_f tm_10 ⟨i0, nm_r (e' := upd op t (vp_nar .boolean 0)) (by rw [nI_clamp (by omega)]) (br_t hb ?_)⟩)
      refine tm_yO1 ht ho (br_f tm_10 ⟨i0, nm_r (e' := upd op t (vp_nar .boolean 0)) (by rw [nI_clamp (by omega)]) (br_t hb ⟨rfl, ?_⟩)⟩)
      exact tm_mk (tm_PX_of hX fun q hq => ⟨(tm_P_cl q hq).1, rfl⟩) (tm_PY_of hY fun q hq => ⟨(tm_P_cl q hq).1, rfl⟩) hQ
    · refine tm_xFin ht ho hb hQ hc ea hr hc6 es hs hX (fun hC => ?_) (fun hC hF s1 k1 w1 HX => ?_) (fun hC hF hS s1 k1 w1 HX => ?_)
      · refine tm_yFin ht ho hb hQ hc ea hr hc6 es hs hY (fun _ => ⟨rfl, ?_⟩) (fun z => absurd hC z) (fun z => absurd hC z)
        exact tm_mk (tm_PX_of hX fun q hq => ⟨(tm_P_cl q hq).1, rfl⟩) (tm_PY_of hY fun q hq => ⟨(tm_P_cl q hq).1, rfl⟩) hQ
      · refine tm_yFin ht ho hb hQ hc ea hr hc6 es hs hY (fun z => absurd z hC) (fun _ _ s2 k2 w2 HY => ⟨rfl, tm_mk HX HY hQ⟩) (fun _ z y => ?_)
        exact absurd y (hF.resolve_left z)
      · refine tm_yFin ht ho hb hQ hc ea hr hc6 es hs hY (fun z => absurd z hC) (fun _ z => (z.elim (fun y => hF y) (fun y => y hS)).elim) (fun _ _ _ s2 k2 w2 HY => ⟨rfl, tm_mk HX HY ⟨hQ.1, hQ.2.1, hQ.2.2.1, ?_⟩⟩)
        intro g hg
        have := hS g hg
        exact ⟨_, this, tm_dw_v hs hQ.2.2.2 hS hc6 c6 (Nat.le_refl _) g hg⟩
end
