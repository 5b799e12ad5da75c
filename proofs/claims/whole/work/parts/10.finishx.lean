section
/-! finish: what is asked of a transaction -/
def tm_cf (st en ch : Nat → Int32) (t : Nat) : Prop := ∃ i, i < 4 ∧ ch (t * 4 + i) ≠ 0 ∧ (st (t * 4 + i) = 1 ∨ en (t * 4 + i) ≠ 0)
/-- the refs' maps after the first j recorded adjustments -/
def tm_M (G : Nat → Int32 → Option Int32) (t : Nat) (ar ak ad : Nat → Int32) : Nat → Nat → Int32 → Option Int32
  | 0 => fun r => G (4 + r)
  | j + 1 => fun r => if ar (t * 8 + j) = nI r then tm_ad (tm_M G t ar ak ad j r) (ak (t * 8 + j)) (ad (t * 8 + j)) else tm_M G t ar ak ad j r
theorem tm_M_s {G : Nat → Int32 → Option Int32} {t j r : Nat} {ar ak ad : Nat → Int32} (h : ar (t * 8 + j) = nI r) : tm_M G t ar ak ad (j + 1) r = tm_ad (tm_M G t ar ak ad j r) (ak (t * 8 + j)) (ad (t * 8 + j)) := if_pos h
theorem tm_M_n {G : Nat → Int32 → Option Int32} {t j r q : Nat} {ar ak ad : Nat → Int32} (h : ar (t * 8 + j) = nI r) (hr : r < 4) (hq : q < 4) (hne : q ≠ r) : tm_M G t ar ak ad (j + 1) q = tm_M G t ar ak ad j q :=
  if_neg (fun z => hne ((nI_eq (by omega) (by omega)).mp (z.symm.trans h)))
def tm_Fl (G : Nat → Int32 → Option Int32) (t : Nat) (ar ak ad : Nat → Int32) (c : Nat) : Prop := ∃ j, j < c ∧ ∃ r, r < 4 ∧ ar (t * 8 + j) = nI r ∧ tm_Ov (tm_M G t ar ak ad (j + 1) r)
theorem tm_Fl_0 {G : Nat → Int32 → Option Int32} {t : Nat} {ar ak ad : Nat → Int32} : ¬ tm_Fl G t ar ak ad 0 := fun h => by
  obtain ⟨j, hj, _⟩ := h
  omega
theorem tm_Fl_1 {G : Nat → Int32 → Option Int32} {t j r : Nat} {ar ak ad : Nat → Int32} (h : ¬ tm_Fl G t ar ak ad j) (hr : r < 4) (e : ar (t * 8 + j) = nI r) (ho : ¬ tm_Ov (tm_M G t ar ak ad (j + 1) r)) : ¬ tm_Fl G t ar ak ad (j + 1) := by
  intro z
  obtain ⟨i, hi, q, hq, e2, hov⟩ := z
  by_cases y : i = j
  · subst y
    have : r = q := (nI_eq (by omega) (by omega)).mp (e.symm.trans e2)
    subst this
    exact ho hov
  · exact h ⟨i, by omega, q, hq, e2, hov⟩
def tm_cs (sa : Nat → Int32) (t g : Nat) : Nat → Nat
  | 0 => 0
  | j + 1 => if sa (t * 6 + j) = nI g then tm_cs sa t g j + 1 else tm_cs sa t g j
theorem tm_cs_le {sa : Nat → Int32} {t g : Nat} : ∀ j, tm_cs sa t g j ≤ j := by
  intro j
  induction j with
  | zero => exact Nat.le_refl _
  | succ j ih => unfold tm_cs; split <;> omega
theorem tm_cs_mono {sa : Nat → Int32} {t g : Nat} : ∀ {i j : Nat}, i ≤ j → tm_cs sa t g i ≤ tm_cs sa t g j := by
  intro i j
  induction j with
  | zero => intro h; have : i = 0 := by omega
            subst this; exact Nat.le_refl _
  | succ j ih =>
    intro h
    by_cases z : i = j + 1
    · subst z; exact Nat.le_refl _
    · have := ih (by omega)
      have h2 : tm_cs sa t g j ≤ tm_cs sa t g (j + 1) := by
        show _ ≤ (if sa (t * 6 + j) = nI g then tm_cs sa t g j + 1 else tm_cs sa t g j)
        split <;> omega
      omega
def tm_S (sa wc : Nat → Int32) (t c : Nat) : Prop := ∀ g, g < 2 → (wc g).toNatClampNeg + tm_cs sa t g c ≤ 8
section
variable {op st en ch ac ar ak ad sc sa sk sd wc wk wd : Nat → Int32}
theorem tm_xConf {post : Int32 → Prop} {s k w : Nat → Int32} {t : Nat} (ht : t < 3) (h1 : tm_cf st en ch t → post 1) (h0 : ¬ tm_cf st en ch t → post 0) : wpX_isInConflict post (s, k, w, op, st, en, ch, ac, ar, ak, ad, sc, sa, sk, sd, wc, wk, wd) (nI t) := by
  have loop : ∀ q c, c ≤ 4 → 4 - c < q → (∀ i, i < c → ¬ (ch (t * 4 + i) ≠ 0 ∧ (st (t * 4 + i) = 1 ∨ en (t * 4 + i) ≠ 0))) → wX_isInConflict_2 post (nI t) s k w op st en ch ac ar ak ad sc sa sk sd wc wk wd q (nI c) := by
    intro q
    induction q with
    | zero => intro c _ hm; omega
    | succ q ih =>
      intro c h2 hm hn
      refine pk_le 4 c (fun hle => ?_) (fun hgt => ?_)
      · have : c = 4 := by omega
        subst this
        refine h0 fun z => ?_
        obtain ⟨i, hi, a⟩ := z
        exact hn i hi a
      · have i1 : vp_in (nI (t * 4 + c)) 12 := vp_in_nI (by omega) (by omega)
        have ec : (nI (t * 4 + c)).toNatClampNeg = t * 4 + c := nI_clamp (by omega)
        have next : ¬ (ch (t * 4 + c) ≠ 0 ∧ (st (t * 4 + c) = 1 ∨ en (t * 4 + c) ≠ 0)) → wX_isInConflict_2 post (nI t) s k w op st en ch ac ar ak ad sc sa sk sd wc wk wd q (nI (c + 1)) := by
          intro hc
          refine ih (c + 1) (by omega) (by omega) fun i hi => ?_
          by_cases z : i = c
          · subst z; exact hc
          · exact hn i (by omega)
        refine nm_r (tm_r4 t c) ⟨i1, br_c (fun a => nm_r (nI_1 c) (next ?_)) (fun a => ⟨i1, br_c (fun b => h1 ?_) (fun b => ⟨i1, br_c (fun d => nm_r (nI_1 c) (next ?_)) (fun d => h1 ?_)⟩)⟩)⟩
        · rw [ec] at a; exact fun y => y.1 a
        · rw [ec] at a b; exact ⟨c, by omega, a, Or.inl b⟩
        · rw [ec] at b d; exact fun y => y.2.elim b (fun x => x d)
        · rw [ec] at a d; exact ⟨c, by omega, a, Or.inr d⟩
  exact ⟨5, loop 5 0 (by omega) (by omega) fun i hi => absurd hi (Nat.not_lt_zero i)⟩
def tm_GX (G : Nat → Int32 → Option Int32) (st : Nat → Int32) (t : Nat) (M : Nat → Int32 → Option Int32) (c : Nat) : Nat → Int32 → Option Int32 :=
  fun q => if 22 + t * 4 ≤ q ∧ q < 22 + (t * 4 + c) ∧ st (q - 22) = 2 then M (q - 22 - t * 4) else G q
theorem tm_GX_s {G : Nat → Int32 → Option Int32} {t c r : Nat} {M : Nat → Int32 → Option Int32} (hr : r < c) (h : st (t * 4 + r) = 2) : tm_GX G st t M c (22 + (t * 4 + r)) = M r := by
  unfold tm_GX
  rw [if_pos ⟨by omega, by omega, by rw [show 22 + (t * 4 + r) - 22 = t * 4 + r by omega]; exact h⟩, show 22 + (t * 4 + r) - 22 - t * 4 = r by omega]
theorem tm_GX_n {G : Nat → Int32 → Option Int32} {t c q : Nat} {M : Nat → Int32 → Option Int32} (h : q < 22 + t * 4 ∨ 22 + (t * 4 + c) ≤ q ∨ st (q - 22) ≠ 2) : tm_GX G st t M c q = G q := by
  refine if_neg fun z => ?_
  rcases h with h | h | h
  · omega
  · omega
  · exact h z.2.2
theorem tm_xAnew2 {post : Int32 → SX → Prop} {P P' : Nat → Prop} {G : Nat → Int32 → Option Int32} {s k w : Nat → Int32} {t c : Nat} (ht : t < 3) (hc : c ≤ 8) (hr : ∀ j, j < c → ∃ r, r < 4 ∧ ar (t * 8 + j) = nI r ∧ st (t * 4 + r) = 2)
    (hPo : ∀ r, r < 4 → st (t * 4 + r) ≠ 0 → P (22 + (t * 4 + r))) (hP' : ∀ q, P' q → P q ∧ (q < 22 + t * 4 ∨ 22 + (t * 4 + 4) ≤ q))
    (H : tm_PX P (tm_GX G st t (tm_M G t ar ak ad 0) 4) s k w)
    (h1 : ¬ tm_Fl G t ar ak ad c → ∀ s1 k1 w1, tm_PX P (tm_GX G st t (tm_M G t ar ak ad c) 4) s1 k1 w1 → post 1 (s1, k1, w1, op, st, en, ch, ac, ar, ak, ad, sc, sa, sk, sd, wc, wk, wd))
    (h0 : tm_Fl G t ar ak ad c → ∀ s1 k1 w1, tm_PX P' G s1 k1 w1 → post 0 (s1, k1, w1, op, st, en, ch, ac, ar, ak, ad, sc, sa, sk, sd, wc, wk, wd)) : ∃ q, wX_adjustAnew_55 post (nI t) (nI (t * 8)) (nI c) q (nI (t * 8)) s k w op st en ch ac ar ak ad sc sa sk sd wc wk wd := by
  have loop : ∀ q j s1 k1 w1, j ≤ c → c - j < q → ¬ tm_Fl G t ar ak ad j → tm_PX P (tm_GX G st t (tm_M G t ar ak ad j) 4) s1 k1 w1 → wX_adjustAnew_55 post (nI t) (nI (t * 8)) (nI c) q (nI (t * 8 + j)) s1 k1 w1 op st en ch ac ar ak ad sc sa sk sd wc wk wd := by
    intro q
    induction q with
    | zero => intro j s1 k1 w1 _ hm; omega
    | succ q ih =>
      intro j s1 k1 w1 h2 hm hF HX
      refine pk_le (t * 8 + c) (t * 8 + j) (fun hle => ?_) (fun hgt => ?_) (nI_add _ _)
      · have : j = c := by omega
        subst this
        exact h1 hF s1 k1 w1 HX
      · have i1 : vp_in (nI (t * 8 + j)) 24 := vp_in_nI (by omega) (by omega)
        have ec : (nI (t * 8 + j)).toNatClampNeg = t * 8 + j := nI_clamp (by omega)
        obtain ⟨r, hr4, er, es⟩ := hr j (by omega)
        have hP : P (22 + (t * 4 + r)) := hPo r hr4 (by rw [es]; decide)
        refine ⟨i1, nm_r (e' := nI (22 + (t * 4 + r))) (by rw [ec, er, tm_b22]) ⟨i1, i1, ?_⟩⟩
        rw [ec]
        refine tm_xAj (by omega) HX hP (fun s2 k2 w2 H2 => br_f tm_10 ?_) (fun hov => br_t rfl ?_)
        · rw [tm_GX_s hr4 es, ← tm_M_s er] at H2
          refine nm_r (nI_1 _) (ih (j + 1) s2 k2 w2 (by omega) (by omega) (tm_Fl_1 hF hr4 er fun hov => tm_noX H2 hP tm_gu_s hov) (tm_PX_of H2 fun x hx => ⟨hx, ?_⟩))
          by_cases z : x = 22 + (t * 4 + r)
          · subst z; rw [tm_gu_s]; exact tm_GX_s hr4 es
          · rw [tm_gu_n z]
            by_cases y : 22 + t * 4 ≤ x ∧ x < 22 + (t * 4 + 4) ∧ st (x - 22) = 2
            · have ex : x = 22 + (t * 4 + (x - 22 - t * 4)) := by omega
              have e2 : st (t * 4 + (x - 22 - t * 4)) = 2 := by rw [show t * 4 + (x - 22 - t * 4) = x - 22 by omega]; exact y.2.2
              rw [ex, tm_GX_s (by omega) e2, tm_GX_s (by omega) e2]
              exact tm_M_n er hr4 (by omega) (by omega)
            · exact (if_neg y).trans (if_neg y).symm
        · rw [tm_GX_s hr4 es, ← tm_M_s er] at hov
          refine h0 ⟨j, by omega, r, hr4, er, hov⟩ s1 k1 w1 (tm_PX_of HX fun x hx => ⟨(hP' x hx).1, ?_⟩)
          exact (tm_GX_n ((hP' x hx).2.elim Or.inl fun y => Or.inr (Or.inl y))).symm
  exact ⟨c + 1, loop (c + 1) 0 s k w (by omega) (by omega) tm_Fl_0 H⟩
theorem tm_xAnew {post : Int32 → SX → Prop} {P P' : Nat → Prop} {G : Nat → Int32 → Option Int32} {s k w : Nat → Int32} {t c : Nat} (ht : t < 3) (hc : c ≤ 8) (ea : ac t = nI c) (hr : ∀ j, j < c → ∃ r, r < 4 ∧ ar (t * 8 + j) = nI r ∧ st (t * 4 + r) = 2)
    (hPq : ∀ q, q < 22 → P q) (hPo : ∀ r, r < 4 → st (t * 4 + r) ≠ 0 → P (22 + (t * 4 + r))) (hP' : ∀ q, P' q → P q ∧ (q < 22 + t * 4 ∨ 22 + (t * 4 + 4) ≤ q))
    (H : tm_PX P G s k w)
    (h1 : ¬ tm_Fl G t ar ak ad c → ∀ s1 k1 w1, tm_PX P (tm_GX G st t (tm_M G t ar ak ad c) 4) s1 k1 w1 → post 1 (s1, k1, w1, op, st, en, ch, ac, ar, ak, ad, sc, sa, sk, sd, wc, wk, wd))
    (h0 : tm_Fl G t ar ak ad c → ∀ s1 k1 w1, tm_PX P' G s1 k1 w1 → post 0 (s1, k1, w1, op, st, en, ch, ac, ar, ak, ad, sc, sa, sk, sd, wc, wk, wd)) : wpX_adjustAnew post (s, k, w, op, st, en, ch, ac, ar, ak, ad, sc, sa, sk, sd, wc, wk, wd) (nI t) := by
  have loop : ∀ q m s1 k1 w1, m ≤ 4 → 4 - m < q → tm_PX P (tm_GX G st t (tm_M G t ar ak ad 0) m) s1 k1 w1 → wX_adjustAnew_2 post (nI t) q (nI m) s1 k1 w1 op st en ch ac ar ak ad sc sa sk sd wc wk wd := by
    intro q
    induction q with
    | zero => intro m s1 k1 w1 _ hm; omega
    | succ q ih =>
      intro m s1 k1 w1 h2 hm HX
      refine pk_le 4 m (fun hle => ?_) (fun hgt => ?_)
      · have : m = 4 := by omega
        subst this
        refine nm_r (pk_mul t 8) ⟨vp_in_nI ht (by omega), nm_r (e' := nI c) (by rw [nI_clamp (by omega), ea]) ?_⟩
        exact tm_xAnew2 ht hc hr hPo hP' HX h1 h0
      · have i1 : vp_in (nI (t * 4 + m)) 12 := vp_in_nI (by omega) (by omega)
        have ec : (nI (t * 4 + m)).toNatClampNeg = t * 4 + m := nI_clamp (by omega)
        refine nm_r (tm_r4 t m) ⟨i1, ?_⟩
        rw [ec]
        refine br_c (fun e2 => ?_) (fun e2 => nm_r (nI_1 m) (ih (m + 1) s1 k1 w1 (by omega) (by omega) (tm_PX_of HX fun x hx => ⟨hx, ?_⟩)))
        · rw [tm_a4, tm_a22]
          refine tm_xCp (by omega) (by omega) HX (hPq _ (by omega)) (fun s2 k2 w2 H2 => nm_r (nI_1 m) (ih (m + 1) s2 k2 w2 (by omega) (by omega) (tm_PX_of H2 fun x hx => ⟨Or.inl hx, ?_⟩)))
          by_cases z : x = 22 + (t * 4 + m)
          · subst z
            rw [tm_gu_s, tm_GX_n (q := 4 + m) (Or.inl (by omega)), tm_GX_s (by omega) e2]
            rfl
          · rw [tm_gu_n z]
            unfold tm_GX
            by_cases y : 22 + t * 4 ≤ x ∧ x < 22 + (t * 4 + m) ∧ st (x - 22) = 2
            · rw [if_pos y, if_pos ⟨y.1, by omega, y.2.2⟩]
            · rw [if_neg y, if_neg fun q => y ⟨q.1, by omega, q.2.2⟩]
        · unfold tm_GX
          by_cases y : 22 + t * 4 ≤ x ∧ x < 22 + (t * 4 + m) ∧ st (x - 22) = 2
          · rw [if_pos y, if_pos ⟨y.1, by omega, y.2.2⟩]
          · rw [if_neg y, if_neg]
            intro q
            have : x ≠ 22 + (t * 4 + m) := by
              intro z
              apply e2
              have := q.2.2
              rw [z, show 22 + (t * 4 + m) - 22 = t * 4 + m by omega] at this
              exact this
            exact y ⟨q.1, by omega, q.2.2⟩
  refine ⟨5, loop 5 0 s k w (by omega) (by omega) (tm_PX_of H fun x hx => ⟨hx, tm_GX_n (by omega)⟩)⟩
theorem tm_xCnt {post : Int32 → Prop} {s k w : Nat → Int32} {t g c : Nat} (ht : t < 3) (hc : c ≤ 6) (ea : sc t = nI c) (h : post (nI (tm_cs sa t g c))) : wpX_countSendsTo post (s, k, w, op, st, en, ch, ac, ar, ak, ad, sc, sa, sk, sd, wc, wk, wd) (nI t) (nI g) := by
  have loop : ∀ q j, j ≤ c → c - j < q → wX_countSendsTo_19 post (nI g) (nI (t * 6)) (nI c) s k w op st en ch ac ar ak ad sc sa sk sd wc wk wd q (nI (tm_cs sa t g j)) (nI (t * 6 + j)) := by
    intro q
    induction q with
    | zero => intro j _ hm; omega
    | succ q ih =>
      intro j h2 hm
      refine pk_le (t * 6 + c) (t * 6 + j) (fun hle => ?_) (fun hgt => ?_) (nI_add _ _)
      · have : j = c := by omega
        subst this
        exact h
      · have ec : (nI (t * 6 + j)).toNatClampNeg = t * 6 + j := nI_clamp (by omega)
        refine ⟨vp_in_nI (by omega) (by omega), ?_⟩
        rw [ec]
        have ihn := ih (j + 1) (by omega) (by omega)
        refine br_c (fun e => nm_r (nI_1 _) (nm_r (nI_1 (t * 6 + j)) ?_)) (fun e => nm_r (nI_1 (t * 6 + j)) ?_)
        · rw [show tm_cs sa t g (j + 1) = tm_cs sa t g j + 1 from if_pos e] at ihn
          exact ihn
        · rw [show tm_cs sa t g (j + 1) = tm_cs sa t g j from if_neg e] at ihn
          exact ihn
  exact nm_r (pk_mul t 6) ⟨vp_in_nI ht (by omega), nm_r (e' := nI c) (by rw [nI_clamp (by omega), ea]) ⟨c + 1, loop (c + 1) 0 (by omega) (by omega)⟩⟩
theorem tm_xFit {post : Int32 → Prop} {s k w : Nat → Int32} {t c : Nat} (ht : t < 3) (hc : c ≤ 6) (ea : sc t = nI c) (hw : ∀ g, g < 2 → ∃ c, c ≤ 8 ∧ wc g = nI c) (h1 : tm_S sa wc t c → post 1) (h0 : ¬ tm_S sa wc t c → post 0) : wpX_sendsFit post (s, k, w, op, st, en, ch, ac, ar, ak, ad, sc, sa, sk, sd, wc, wk, wd) (nI t) := by
  have loop : ∀ q g, g ≤ 2 → 2 - g < q → (∀ i, i < g → (wc i).toNatClampNeg + tm_cs sa t i c ≤ 8) → wX_sendsFit_2 post (nI t) s k w op st en ch ac ar ak ad sc sa sk sd wc wk wd q (nI g) := by
    intro q
    induction q with
    | zero => intro j _ hm; omega
    | succ q ih =>
      intro g h2 hm hh
      refine pk_le 2 g (fun hle => ?_) (fun hgt => ?_)
      · exact h1 fun i hi => hh i (by omega)
      · refine tm_xCnt ht hc ea ⟨vp_in_nI hgt (by omega), ?_⟩
        obtain ⟨d, hd, e⟩ := hw g hgt
        have ed : (wc g).toNatClampNeg = d := by rw [e, nI_clamp (by omega)]
        have hcs : tm_cs sa t g c ≤ c := tm_cs_le c
        rw [nI_clamp (show g < 2 ^ 31 by omega), e, nI_add]
        refine pk_le (d + tm_cs sa t g c) 8 (fun hle => nm_r (nI_1 g) (ih (g + 1) (by omega) (by omega) fun i hi => ?_)) (fun hgt2 => h0 fun z => ?_)
        · by_cases z : i = g
          · subst z; rw [ed]; exact hle
          · exact hh i (by omega)
        · have := z g hgt
          rw [ed] at this
          omega
  exact ⟨3, loop 3 0 (by omega) (by omega) fun i hi => absurd hi (Nat.not_lt_zero i)⟩
/-! what finish leaves -/
def tm_mr (a : Nat → Int32) (r : Nat) : Nat → Nat → Int32
  | 0 => a
  | m + 1 => upd (tm_mr a r m) (m * 4 + r) (vp_nar .boolean 1)
def tm_ch (st ch : Nat → Int32) (t : Nat) : Nat → Nat → Int32
  | 0 => ch
  | c + 1 => if st (t * 4 + c) = 0 then tm_ch st ch t c else tm_mr (tm_ch st ch t c) c 3
theorem tm_xMark {post : SX → Prop} {s k w : Nat → Int32} {r : Nat} (hr : r < 4) (h : post (s, k, w, op, st, en, tm_mr ch r 3, ac, ar, ak, ad, sc, sa, sk, sd, wc, wk, wd)) : wpX_markChanged post (s, k, w, op, st, en, ch, ac, ar, ak, ad, sc, sa, sk, sd, wc, wk, wd) (nI r) := by
  have loop : ∀ q m, m ≤ 3 → 3 - m < q → wX_markChanged_2 post (nI r) q (nI m) s k w op st en (tm_mr ch r m) ac ar ak ad sc sa sk sd wc wk wd := by
    intro q
    induction q with
    | zero => intro j _ hm; omega
    | succ q ih =>
      intro m h2 hm
      refine pk_le 3 m (fun hle => ?_) (fun hgt => ?_)
      · have : m = 3 := by omega
        subst this
        exact h
      · exact ⟨pk_in (m * 4 + r) 12 (by omega) (tm_r4 m r), nm_r (e' := tm_mr ch r (m + 1)) (by rw [tm_r4, nI_clamp (by omega)]; rfl) (nm_r (nI_1 m) (ih (m + 1) (by omega) (by omega)))⟩
  exact ⟨4, loop 4 0 (by omega) (by omega)⟩
def tm_GP (G : Nat → Int32 → Option Int32) (st : Nat → Int32) (t : Nat) (N : Nat → Int32 → Option Int32) (c : Nat) : Nat → Int32 → Option Int32 :=
  fun q => if 4 ≤ q ∧ q < 4 + c ∧ st (t * 4 + (q - 4)) ≠ 0 then N (q - 4) else G q
theorem tm_GP_0 {G : Nat → Int32 → Option Int32} {t q : Nat} {N : Nat → Int32 → Option Int32} : tm_GP G st t N 0 q = G q := if_neg (by omega)
theorem tm_GP_z {G : Nat → Int32 → Option Int32} {t c q : Nat} {N : Nat → Int32 → Option Int32} (h : st (t * 4 + c) = 0) : tm_GP G st t N (c + 1) q = tm_GP G st t N c q := by
  unfold tm_GP
  by_cases y : 4 ≤ q ∧ q < 4 + c ∧ st (t * 4 + (q - 4)) ≠ 0
  · rw [if_pos y, if_pos ⟨y.1, by omega, y.2.2⟩]
  · rw [if_neg y, if_neg]
    intro z
    have : q ≠ 4 + c := by
      intro x
      apply z.2.2
      rw [x, show 4 + c - 4 = c by omega]
      exact h
    exact y ⟨z.1, by omega, z.2.2⟩
theorem tm_GP_s {G : Nat → Int32 → Option Int32} {t c q : Nat} {N : Nat → Int32 → Option Int32} (h : st (t * 4 + c) ≠ 0) : tm_GP G st t N (c + 1) q = tm_gu (tm_GP G st t N c) (4 + c) (N c) q := by
  by_cases z : q = 4 + c
  · subst z
    rw [tm_gu_s]
    unfold tm_GP
    rw [if_pos ⟨by omega, by omega, by rw [show 4 + c - 4 = c by omega]; exact h⟩, show 4 + c - 4 = c by omega]
  · rw [tm_gu_n z]
    unfold tm_GP
    by_cases y : 4 ≤ q ∧ q < 4 + c ∧ st (t * 4 + (q - 4)) ≠ 0
    · rw [if_pos y, if_pos ⟨y.1, by omega, y.2.2⟩]
    · rw [if_neg y, if_neg fun x => y ⟨x.1, by omega, x.2.2⟩]
theorem tm_GP_n {G : Nat → Int32 → Option Int32} {t c q : Nat} {N : Nat → Int32 → Option Int32} (h : q < 4 ∨ 4 + c ≤ q) : tm_GP G st t N c q = G q := if_neg (by omega)
theorem tm_xPub {post : SX → Prop} {P : Nat → Prop} {G : Nat → Int32 → Option Int32} {s k w : Nat → Int32} {t : Nat} {N : Nat → Int32 → Option Int32} (ht : t < 3)
    (hPq : ∀ q, q < 22 → P q) (hPo : ∀ r, r < 4 → st (t * 4 + r) ≠ 0 → P (22 + (t * 4 + r)) ∧ G (22 + (t * 4 + r)) = N r)
    (H : tm_PX P G s k w) (h : ∀ s1 k1 w1, tm_PX P (tm_GP G st t N 4) s1 k1 w1 → post (s1, k1, w1, op, st, en, tm_ch st ch t 4, ac, ar, ak, ad, sc, sa, sk, sd, wc, wk, wd)) : wpX_publishRefs post (s, k, w, op, st, en, ch, ac, ar, ak, ad, sc, sa, sk, sd, wc, wk, wd) (nI t) := by
  have loop : ∀ q c s1 k1 w1, c ≤ 4 → 4 - c < q → tm_PX P (tm_GP G st t N c) s1 k1 w1 → wX_publishRefs_2 post (nI t) q (nI c) s1 k1 w1 op st en (tm_ch st ch t c) ac ar ak ad sc sa sk sd wc wk wd := by
    intro q
    induction q with
    | zero => intro c s1 k1 w1 _ hm; omega
    | succ q ih =>
      intro c s1 k1 w1 h2 hm HX
      refine pk_le 4 c (fun hle => ?_) (fun hgt => ?_)
      · have : c = 4 := by omega
        subst this
        exact h s1 k1 w1 HX
      · have i1 : vp_in (nI (t * 4 + c)) 12 := vp_in_nI (by omega) (by omega)
        have ec : (nI (t * 4 + c)).toNatClampNeg = t * 4 + c := nI_clamp (by omega)
        refine nm_r (tm_r4 t c) ⟨i1, ?_⟩
        rw [ec]
        have ihn := ih (c + 1)
        refine br_c (fun e => nm_r (nI_1 c) ?_) (fun e => ?_)
        · rw [show tm_ch st ch t (c + 1) = tm_ch st ch t c from if_pos e] at ihn
          exact ihn s1 k1 w1 (by omega) (by omega) (tm_PX_of HX fun x hx => ⟨hx, tm_GP_z e⟩)
        · rw [show tm_ch st ch t (c + 1) = tm_mr (tm_ch st ch t c) c 3 from if_neg e] at ihn
          rw [tm_a22, tm_a4]
          refine tm_xCp (by omega) (by omega) HX (hPo c hgt e).1 (fun s2 k2 w2 H2 => ?_)
          refine tm_xMark hgt (nm_r (nI_1 c) (ihn s2 k2 w2 (by omega) (by omega) (tm_PX_of H2 fun x hx => ⟨Or.inl hx, ?_⟩)))
          rw [tm_GP_s e, tm_GP_n (q := 22 + (t * 4 + c)) (Or.inr (by omega)), (hPo c hgt e).2]
  exact ⟨5, loop 5 0 s k w (by omega) (by omega) (tm_PX_of H fun x hx => ⟨hx, tm_GP_0⟩)⟩
/-! the sends delivered -/
def tm_dw (sa wc : Nat → Int32) (t : Nat) : Nat → Nat → Int32
  | 0 => wc
  | j + 1 => upd (tm_dw sa wc t j) (sa (t * 6 + j)).toNatClampNeg (nI ((tm_dw sa wc t j (sa (t * 6 + j)).toNatClampNeg).toNatClampNeg + 1))
def tm_dk (sa wc sk wk : Nat → Int32) (t : Nat) : Nat → Nat → Int32
  | 0 => wk
  | j + 1 => upd (tm_dk sa wc sk wk t j) ((sa (t * 6 + j)).toNatClampNeg * 8 + (tm_dw sa wc t j (sa (t * 6 + j)).toNatClampNeg).toNatClampNeg) (sk (t * 6 + j))
theorem tm_dw_v {t c : Nat} (hs : ∀ j, j < c → ∃ g, g < 2 ∧ sa (t * 6 + j) = nI g) (hw : ∀ g, g < 2 → ∃ c, c ≤ 8 ∧ wc g = nI c) (hS : tm_S sa wc t c) (hc : c ≤ 6) : ∀ j, j ≤ c → ∀ g, g < 2 → tm_dw sa wc t j g = nI ((wc g).toNatClampNeg + tm_cs sa t g j) := by
  intro j
  induction j with
  | zero =>
    intro _ g hg
    obtain ⟨d, hd, e⟩ := hw g hg
    show wc g = _
    rw [e, nI_clamp (by omega)]
    rfl
  | succ j ih =>
    intro hj g hg
    obtain ⟨g', hg', e'⟩ := hs j (by omega)
    have e1 : (sa (t * 6 + j)).toNatClampNeg = g' := by rw [e', nI_clamp (by omega)]
    have b := hS g' hg'
    have m1 := tm_cs_mono (sa := sa) (t := t) (g := g') (show j ≤ c by omega)
    show upd (tm_dw sa wc t j) (sa (t * 6 + j)).toNatClampNeg (nI ((tm_dw sa wc t j (sa (t * 6 + j)).toNatClampNeg).toNatClampNeg + 1)) g = nI ((wc g).toNatClampNeg + (if sa (t * 6 + j) = nI g then tm_cs sa t g j + 1 else tm_cs sa t g j))
    rw [e1]
    by_cases z : g = g'
    · subst z
      rw [pk_us, if_pos e', ih (by omega) g hg, nI_clamp (by omega), Nat.add_assoc]
    · rw [pk_un z, if_neg (fun y => z ((nI_eq (by omega) (by omega)).mp (y.symm.trans e'))), ih (by omega) g hg]
theorem tm_dw_st {t c j : Nat} (hs : ∀ j, j < c → ∃ g, g < 2 ∧ sa (t * 6 + j) = nI g) (hw : ∀ g, g < 2 → ∃ c, c ≤ 8 ∧ wc g = nI c) (hS : tm_S sa wc t c) (hc : c ≤ 6) (hj : j < c) :
    ∃ g d, g < 2 ∧ d < 8 ∧ sa (t * 6 + j) = nI g ∧ tm_dw sa wc t j g = nI d ∧ tm_dw sa wc t (j + 1) = upd (tm_dw sa wc t j) g (nI (d + 1)) ∧ ∀ sk wk : Nat → Int32, tm_dk sa wc sk wk t (j + 1) = upd (tm_dk sa wc sk wk t j) (g * 8 + d) (sk (t * 6 + j)) := by
  obtain ⟨g, hg, e⟩ := hs j hj
  have e1 : (sa (t * 6 + j)).toNatClampNeg = g := by rw [e, nI_clamp (by omega)]
  have b := hS g hg
  have m1 := tm_cs_mono (sa := sa) (t := t) (g := g) (show j + 1 ≤ c by omega)
  rw [show tm_cs sa t g (j + 1) = tm_cs sa t g j + 1 from if_pos e] at m1
  have v := tm_dw_v hs hw hS hc j (by omega) g hg
  refine ⟨g, (wc g).toNatClampNeg + tm_cs sa t g j, hg, by omega, e, v, ?_, fun sk wk => ?_⟩
  · show upd (tm_dw sa wc t j) (sa (t * 6 + j)).toNatClampNeg (nI ((tm_dw sa wc t j (sa (t * 6 + j)).toNatClampNeg).toNatClampNeg + 1)) = _
    rw [e1, v, nI_clamp (by omega)]
  · show upd (tm_dk sa wc sk wk t j) ((sa (t * 6 + j)).toNatClampNeg * 8 + (tm_dw sa wc t j (sa (t * 6 + j)).toNatClampNeg).toNatClampNeg) (sk (t * 6 + j)) = _
    rw [e1, v, nI_clamp (by omega)]
theorem tm_xDel {post : SX → Prop} {s k w : Nat → Int32} {t c : Nat} (ht : t < 3) (hc : c ≤ 6) (ea : sc t = nI c) (hs : ∀ j, j < c → ∃ g, g < 2 ∧ sa (t * 6 + j) = nI g) (hw : ∀ g, g < 2 → ∃ c, c ≤ 8 ∧ wc g = nI c) (hS : tm_S sa wc t c)
    (h : post (s, k, w, op, st, en, ch, ac, ar, ak, ad, sc, sa, sk, sd, tm_dw sa wc t c, tm_dk sa wc sk wk t c, tm_dk sa wc sd wd t c)) : wpX_deliverSends post (s, k, w, op, st, en, ch, ac, ar, ak, ad, sc, sa, sk, sd, wc, wk, wd) (nI t) := by
  have loop : ∀ q j, j ≤ c → c - j < q → wX_deliverSends_15 post (nI (t * 6)) (nI c) q (nI (t * 6 + j)) s k w op st en ch ac ar ak ad sc sa sk sd (tm_dw sa wc t j) (tm_dk sa wc sk wk t j) (tm_dk sa wc sd wd t j) := by
    intro q
    induction q with
    | zero => intro j _ hm; omega
    | succ q ih =>
      intro j h2 hm
      refine pk_le (t * 6 + c) (t * 6 + j) (fun hle => ?_) (fun hgt => ?_) (nI_add _ _)
      · have : j = c := by omega
        subst this
        exact h
      · have i1 : vp_in (nI (t * 6 + j)) 18 := vp_in_nI (by omega) (by omega)
        have ec : (nI (t * 6 + j)).toNatClampNeg = t * 6 + j := nI_clamp (by omega)
        obtain ⟨g, d, hg, hd, e, ed, x1, x2⟩ := tm_dw_st hs hw hS hc (show j < c by omega)
        refine ⟨i1, i1, i1, ?_⟩
        rw [ec, e]
        have ihn := ih (j + 1) (by omega) (by omega)
        rw [x1, x2, x2] at ihn
        exact tm_xJoin hg hd ed (nm_r (nI_1 (t * 6 + j)) ihn)
  exact nm_r (pk_mul t 6) ⟨vp_in_nI ht (by omega), nm_r (e' := nI c) (by rw [nI_clamp (by omega), ea]) ⟨c + 1, loop (c + 1) 0 (by omega) (by omega)⟩⟩
end
end
