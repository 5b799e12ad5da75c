section
variable {op st en ch ac ar ak ad sc sa sk sd wc wk wd : Nat → Int32}
/-! Y's helpers over its rows -/
theorem tm_r10 (r p : Nat) : nI r * 10 + nI p = nI (r * 10 + p) := by rw [show (10 : Int32) = nI 10 from rfl, pk_mul, nI_add]
theorem tm_yFind {post : Int32 → Prop} {s k v : Nat → Int32} {r n : Nat} {f : Int32 → Option Int32} {key : Int32} (hr : r < 39) (H : tm_Y s k v r n f)
    (h1 : ∀ p, p < n → k (r * 10 + p) = key → post (nI (r * 10 + p))) (h0 : f key = none → (∀ i, i < n → k (r * 10 + i) ≠ key) → post (-1)) : wpY_find post (k, v, s, op, st, en, ch, ar, ak, ad, ac, sa, sk, sd, sc, wk, wd, wc) (nI r) key := by
  obtain ⟨e, hn, hI, hF⟩ := H
  have loop : ∀ m p, p ≤ n → n - p < m → (∀ i, i < p → k (r * 10 + i) ≠ key) → wY_find_2 post (nI r) key k v s op st en ch ar ak ad ac sa sk sd sc wk wd wc m (nI p) := by
    intro m
    induction m with
    | zero => intro p _ hm _; omega
    | succ m ih =>
      intro p hp hm hne
      refine ⟨vp_in_nI hr (by omega), pk_le n p (fun hle => ?_) (fun hgt => ?_) (by rw [nI_clamp (by omega), e])⟩
      · have : p = n := by omega
        subst this
        exact h0 (hF.2 key hne) hne
      · refine ⟨pk_in (r * 10 + p) 390 (by omega) (tm_r10 r p), br_c (fun hc => ?_) (fun hc => ?_)⟩
        · rw [tm_r10, nI_clamp (by omega)] at hc
          rw [tm_r10]
          exact h1 p hgt hc
        · rw [tm_r10, nI_clamp (by omega)] at hc
          refine nm_r (nI_1 p) (ih (p + 1) (by omega) (by omega) fun i hi => ?_)
          by_cases z : i = p
          · rw [z]; exact hc
          · exact hne i (by omega)
  exact ⟨n + 1, loop (n + 1) 0 (by omega) (by omega) fun i hi => absurd hi (Nat.not_lt_zero i)⟩
theorem tm_ySet {post : Int32 → SY → Prop} {s k v : Nat → Int32} {r n : Nat} {f : Int32 → Option Int32} {key w : Int32} (hr : r < 39) (H : tm_Y s k v r n f)
    (h1 : ∀ s1 k1 v1 n1, tm_fr r s k v s1 k1 v1 → tm_Y s1 k1 v1 r n1 (tm_set f key w) → post 1 (k1, v1, s1, op, st, en, ch, ar, ak, ad, ac, sa, sk, sd, sc, wk, wd, wc))
    (h0 : tm_Ov (tm_set f key w) → post 0 (k, v, s, op, st, en, ch, ar, ak, ad, ac, sa, sk, sd, sc, wk, wd, wc)) : wpY_set post (k, v, s, op, st, en, ch, ar, ak, ad, ac, sa, sk, sd, sc, wk, wd, wc) (nI r) key w := by
  have hn := H.2.1
  have hin : vp_in (nI r) 39 := vp_in_nI hr (by omega)
  unfold wpY_set
  refine tm_yFind hr H (fun p hp e => br_t (nI_pos' (by omega)) ?_) (fun hf hne => br_f (by decide) ⟨hin, pk_eq n 10 (fun heq => ?_) (fun hneq => ?_) (by rw [nI_clamp (by omega), H.1])⟩)
  · have i1 : vp_in (nI (r * 10 + p)) 390 := vp_in_nI (by omega) (by omega)
    refine ⟨i1, nm_r (e' := upd k (r * 10 + p) key) (by rw [nI_clamp (by omega)]) ⟨i1, nm_r (e' := upd v (r * 10 + p) w) (by rw [nI_clamp (by omega)]) (h1 _ _ _ n ?_ ?_)⟩⟩
    · intro q hq
      exact ⟨rfl, fun i hi => ⟨pk_un (by omega), pk_un (by omega)⟩⟩
    · have ek : ∀ i, i < n → upd k (r * 10 + p) key (r * 10 + i) = k (r * 10 + i) := by
        intro i hi
        by_cases z : i = p
        · subst z; rw [pk_us]; exact e.symm
        · exact pk_un (by omega)
      exact ⟨H.1, hn, tm_I_congr H.2.2.1 ek, tm_rep H.2.2.1 H.2.2.2 hp e ek pk_us fun i hi z => pk_un (by omega)⟩
  · subst heq
    exact h0 (tm_Ov_of H.2.2.2 H.2.2.1 hf fun x hx => tm_set_ne hx)
  · have i1 : vp_in (nI (r * 10 + n)) 390 := vp_in_nI (by omega) (by omega)
    refine ⟨hin, nm_r (e' := nI (r * 10 + n)) (by rw [nI_clamp (by omega), H.1, tm_r10]) ⟨hin, hin, nm_r (e' := upd s r (nI (n + 1))) (by rw [nI_clamp (by omega), H.1, nI_1]) ?_⟩⟩
    refine ⟨i1, nm_r (e' := upd k (r * 10 + n) key) (by rw [nI_clamp (by omega)]) ⟨i1, nm_r (e' := upd v (r * 10 + n) w) (by rw [nI_clamp (by omega)]) (h1 _ _ _ (n + 1) ?_ ?_)⟩⟩
    · intro q hq
      exact ⟨pk_un hq, fun i hi => ⟨pk_un (by omega), pk_un (by omega)⟩⟩
    · have X := tm_app (K' := fun i => upd k (r * 10 + n) key (r * 10 + i)) (V' := fun i => upd v (r * 10 + n) w (r * 10 + i)) H.2.2.1 H.2.2.2 hne
        (fun i hi => ⟨pk_un (by omega), pk_un (by omega)⟩) ⟨pk_us, pk_us⟩
      exact ⟨pk_us, by omega, X.1, X.2⟩
theorem tm_yAdj {post : Int32 → SY → Prop} {s k v : Nat → Int32} {r n : Nat} {f : Int32 → Option Int32} {key d : Int32} (hr : r < 39) (H : tm_Y s k v r n f)
    (h1 : ∀ s1 k1 v1 n1, tm_fr r s k v s1 k1 v1 → tm_Y s1 k1 v1 r n1 (tm_set f key ((f key).getD 0 + d)) → post 1 (k1, v1, s1, op, st, en, ch, ar, ak, ad, ac, sa, sk, sd, sc, wk, wd, wc))
    (h0 : tm_Ov (tm_set f key ((f key).getD 0 + d)) → post 0 (k, v, s, op, st, en, ch, ar, ak, ad, ac, sa, sk, sd, sc, wk, wd, wc)) : wpY_adjusted post (k, v, s, op, st, en, ch, ar, ak, ad, ac, sa, sk, sd, sc, wk, wd, wc) (nI r) key d := by
  have hn := H.2.1
  unfold wpY_adjusted
  refine tm_yFind hr H (fun p hp e => br_t (nI_pos' (by omega)) ⟨vp_in_nI (by omega) (by omega), ?_⟩) (fun hf hne => br_f (by decide) ?_)
  · have ev := H.2.2.2.1 p hp
    dsimp only at ev
    rw [e] at ev
    rw [ev] at h1 h0
    rw [nI_clamp (by omega)]
    unfold wY_adjusted_24
    refine tm_ySet hr H (fun s1 k1 v1 n1 a b => ?_) (fun a => ?_)
    · exact ⟨by decide, h1 s1 k1 v1 n1 a b⟩
    · exact ⟨by decide, h0 a⟩
  · rw [hf] at h1 h0
    unfold wY_adjusted_24
    refine tm_ySet hr H (fun s1 k1 v1 n1 a b => ?_) (fun a => ?_)
    · exact ⟨by decide, h1 s1 k1 v1 n1 a b⟩
    · exact ⟨by decide, h0 a⟩
theorem tm_yCopy {post : SY → Prop} {s k v : Nat → Int32} {a b n : Nat} {f : Int32 → Option Int32} (ha : a < 39) (hb : b < 39) (H : tm_Y s k v a n f)
    (h : ∀ s1 k1 v1, tm_fr b s k v s1 k1 v1 → tm_Y s1 k1 v1 b n f → post (k1, v1, s1, op, st, en, ch, ar, ak, ad, ac, sa, sk, sd, sc, wk, wd, wc)) : wpY_copy post (k, v, s, op, st, en, ch, ar, ak, ad, ac, sa, sk, sd, sc, wk, wd, wc) (nI a) (nI b) := by
  have hn := H.2.1
  have hpost : post ((tm_cp k (a * 10) (b * 10) 10), (tm_cp v (a * 10) (b * 10) 10), (upd s b (nI n)), op, st, en, ch, ar, ak, ad, ac, sa, sk, sd, sc, wk, wd, wc) := by
    refine h _ _ _ ?_ ?_
    · intro q hq
      exact ⟨pk_un hq, fun i hi => ⟨if_neg (by omega), if_neg (by omega)⟩⟩
    · refine tm_Y_congr H (pk_us.trans H.1.symm) fun i hi => ⟨?_, ?_⟩
      · exact (if_pos (by omega)).trans (congrArg k (by omega))
      · exact (if_pos (by omega)).trans (congrArg v (by omega))
  have loop : ∀ q c, c ≤ 10 → 10 - c < q → wY_copy_2 post (nI a) (nI b) q (nI c) (tm_cp k (a * 10) (b * 10) c) (tm_cp v (a * 10) (b * 10) c) s op st en ch ar ak ad ac sa sk sd sc wk wd wc := by
    intro q
    induction q with
    | zero => intro c _ hm; omega
    | succ q ih =>
      intro c h2 hm
      refine pk_le 10 c (fun hle => ?_) (fun hgt => ?_)
      · have : c = 10 := by omega
        subst this
        exact ⟨vp_in_nI ha (by omega), vp_in_nI hb (by omega), nm_r (by rw [nI_clamp (by omega), nI_clamp (by omega), H.1]) hpost⟩
      · have i1 : vp_in (nI a * 10 + nI c) 390 := pk_in (a * 10 + c) 390 (by omega) (tm_r10 _ _)
        have i2 : vp_in (nI b * 10 + nI c) 390 := pk_in (b * 10 + c) 390 (by omega) (tm_r10 _ _)
        refine ⟨i1, i2, nm_r (e' := tm_cp k (a * 10) (b * 10) (c + 1)) ?_ ⟨i1, i2, nm_r (e' := tm_cp v (a * 10) (b * 10) (c + 1)) ?_ (nm_r (nI_1 c) (ih (c + 1) (by omega) (by omega)))⟩⟩
        · rw [tm_r10, tm_r10, nI_clamp (by omega), nI_clamp (by omega)]; exact tm_cp_1 k (by omega)
        · rw [tm_r10, tm_r10, nI_clamp (by omega), nI_clamp (by omega)]; exact tm_cp_1 v (by omega)
  refine ⟨11, ?_⟩
  have := loop 11 0 (by omega) (by omega)
  rw [tm_cp_0, tm_cp_0] at this
  exact this
theorem tm_ySame {post : Int32 → Prop} {s k v : Nat → Int32} {a b n : Nat} {f g : Int32 → Option Int32} (ha : a < 39) (hb : b < 39) (H : tm_Y s k v a n f) (G : tm_Y s k v b n g)
    (h1 : f = g → post 1) (h0 : f ≠ g → post 0) : ∃ q, wY_same_40 post (nI a) (nI b) k v s op st en ch ar ak ad ac sa sk sd sc wk wd wc q (nI a * 10) := by
  have hn := H.2.1
  have loop : ∀ q c, c ≤ n → n - c < q → (∀ i, i < c → g (k (a * 10 + i)) = some (v (a * 10 + i))) → wY_same_40 post (nI a) (nI b) k v s op st en ch ar ak ad ac sa sk sd sc wk wd wc q (nI (a * 10 + c)) := by
    intro q
    induction q with
    | zero => intro c _ hm; omega
    | succ q ih =>
      intro c h2 hm hq
      refine ⟨vp_in_nI ha (by omega), pk_le (a * 10 + n) (a * 10 + c) (fun hle => ?_) (fun hgt => ?_) (by rw [nI_clamp (by omega), H.1, tm_r10])⟩
      · have : c = n := by omega
        subst this
        refine h1 ?_
        funext x
        by_cases z : ∃ i, i < c ∧ k (a * 10 + i) = x
        · obtain ⟨i, hi, rfl⟩ := z
          rw [hq i hi]; exact H.2.2.2.1 i hi
        · have hf : f x = none := H.2.2.2.2 x fun i hi e => z ⟨i, hi, e⟩
          rw [hf]
          refine Classical.byContradiction fun hg => ?_
          have hI : tm_I (c + 1) (fun i => if i < c then k (a * 10 + i) else x) := by
            intro i j hi hj e
            dsimp only at e
            split at e <;> split at e
            · rename_i y w; exact H.2.2.1 i j y w e
            · rename_i y w; exact absurd ⟨i, y, e⟩ z
            · rename_i y w; exact absurd ⟨j, w, e.symm⟩ z
            · omega
          have := tm_card c (c + 1) _ (fun i => k (b * 10 + i)) hI fun i hi => by
            by_cases y : i < c
            · rw [if_pos y]
              exact tm_F_in G.2.2.2 (by rw [hq i y]; exact fun z => nomatch z)
            · rw [if_neg y]
              exact tm_F_in G.2.2.2 fun z => hg z.symm
          omega
      · have i1 : vp_in (nI (a * 10 + c)) 390 := vp_in_nI (by omega) (by omega)
        have x1 := H.2.2.2.1 c (by omega)
        dsimp only at x1
        refine ⟨i1, tm_yFind hb G (fun p hp e => br_f (nI_pos (by omega)) ⟨vp_in_nI (by omega) (by omega), i1, br_c (fun e2 => ?_) (fun e2 => ?_)⟩) (fun hf hne => br_t (by decide) ?_)⟩
        · rw [nI_clamp (by omega), nI_clamp (by omega)] at e2
          rw [nI_clamp (by omega)] at e
          refine nm_r (nI_1 (a * 10 + c)) (ih (c + 1) (by omega) (by omega) fun i hi => ?_)
          by_cases z : i = c
          · subst z
            rw [← e, ← e2]; exact G.2.2.2.1 p hp
          · exact hq i (by omega)
        · rw [nI_clamp (by omega), nI_clamp (by omega)] at e2
          rw [nI_clamp (by omega)] at e
          refine h0 fun z => e2 ?_
          subst z
          have x2 := G.2.2.2.1 p hp
          dsimp only at x2
          rw [e, x1] at x2
          exact (Option.some.inj x2).symm
        · rw [nI_clamp (by omega)] at hf
          refine h0 fun z => ?_
          subst z
          rw [hf] at x1
          exact nomatch x1
  exact ⟨n + 1, by rw [show nI a * 10 = nI (a * 10 + 0) from pk_mul a 10]; exact loop (n + 1) 0 (by omega) (by omega) fun i hi => absurd hi (Nat.not_lt_zero i)⟩
theorem tm_yKeyIn {post : Int32 → Prop} {J : Int32 → Prop} {s k v : Nat → Int32} {r n c : Nat} {f : Int32 → Option Int32} {pl : Int32} (hr : r < 39) (H : tm_Y s k v r n f) (hc : c < n)
    (h1 : nI (tm_bel (fun i => k (r * 10 + i)) (k (r * 10 + c)) n) = pl → post (k (r * 10 + c)))
    (h0 : nI (tm_bel (fun i => k (r * 10 + i)) (k (r * 10 + c)) n) ≠ pl → J (nI (r * 10 + (c + 1)))) : ∃ q, wY_keyAt_40 post J (nI r) pl (nI (r * 10 + c)) k v s op st en ch ar ak ad ac sa sk sd sc wk wd wc q 0 (nI r * 10) := by
  have hn := H.2.1
  have loop : ∀ q d, d ≤ n → n - d < q → wY_keyAt_40 post J (nI r) pl (nI (r * 10 + c)) k v s op st en ch ar ak ad ac sa sk sd sc wk wd wc q (nI (tm_bel (fun i => k (r * 10 + i)) (k (r * 10 + c)) d)) (nI (r * 10 + d)) := by
    intro q
    induction q with
    | zero => intro d _ hm; omega
    | succ q ih =>
      intro d h2 hm
      have i2 : vp_in (nI (r * 10 + c)) 390 := vp_in_nI (by omega) (by omega)
      refine ⟨vp_in_nI hr (by omega), pk_le (r * 10 + n) (r * 10 + d) (fun hle => ?_) (fun hgt => ?_) (by rw [nI_clamp (by omega), H.1, tm_r10])⟩
      · have : d = n := by omega
        subst this
        refine br_c (fun e => ⟨i2, ?_⟩) (fun e => nm_r (nI_1 _) (h0 e))
        rw [nI_clamp (by omega)]
        exact h1 e
      · refine ⟨vp_in_nI (by omega) (by omega), i2, br_c (fun e => ?_) (fun e => ?_)⟩
        · rw [nI_clamp (by omega), nI_clamp (by omega)] at e
          refine nm_r (nI_1 (r * 10 + d)) ?_
          have := ih (d + 1) (by omega) (by omega)
          rw [show tm_bel (fun i => k (r * 10 + i)) (k (r * 10 + c)) (d + 1) = tm_bel (fun i => k (r * 10 + i)) (k (r * 10 + c)) d from if_neg (Int32.not_lt.mpr e)] at this
          exact this
        · rw [nI_clamp (by omega), nI_clamp (by omega)] at e
          refine nm_r (nI_1 _) (nm_r (nI_1 (r * 10 + d)) ?_)
          have := ih (d + 1) (by omega) (by omega)
          rw [show tm_bel (fun i => k (r * 10 + i)) (k (r * 10 + c)) (d + 1) = tm_bel (fun i => k (r * 10 + i)) (k (r * 10 + c)) d + 1 from if_pos (Int32.not_le.mp e)] at this
          exact this
  exact ⟨n + 1, by rw [show nI r * 10 = nI (r * 10 + 0) from pk_mul r 10]; exact loop (n + 1) 0 (by omega) (by omega)⟩
theorem tm_yKey {post : Int32 → Prop} {s k v : Nat → Int32} {r n : Nat} {f : Int32 → Option Int32} {pl : Int32} {K V : Nat → Int32} (hr : r < 39) (H : tm_Y s k v r n f) (hO : tm_O n K) (hF : tm_F n K V f)
    (h1 : ∀ p, p < n → pl = nI p → post (K p)) (h0 : (∀ p, p < n → pl ≠ nI p) → post 0) : ∃ q, wY_keyAt_16 post (nI r) pl k v s op st en ch ar ak ad ac sa sk sd sc wk wd wc q (nI r * 10) := by
  have hn := H.2.1
  have rank : ∀ c, c < n → ∃ p, p < n ∧ K p = k (r * 10 + c) ∧ tm_bel (fun i => k (r * 10 + i)) (k (r * 10 + c)) n = p := by
    intro c hc
    obtain ⟨p, hp, e⟩ := tm_F_in hF (tm_F_none H.2.2.2 hc)
    exact ⟨p, hp, e, by have := tm_bel_eq hO hF H.2.2.1 H.2.2.2 hp; rw [e] at this; exact this⟩
  have loop : ∀ q c, c ≤ n → n - c < q → (∀ i, i < c → nI (tm_bel (fun i => k (r * 10 + i)) (k (r * 10 + i)) n) ≠ pl) → wY_keyAt_16 post (nI r) pl k v s op st en ch ar ak ad ac sa sk sd sc wk wd wc q (nI (r * 10 + c)) := by
    intro q
    induction q with
    | zero => intro c _ hm; omega
    | succ q ih =>
      intro c h2 hm hq
      refine ⟨vp_in_nI hr (by omega), pk_le (r * 10 + n) (r * 10 + c) (fun hle => ?_) (fun hgt => ?_) (by rw [nI_clamp (by omega), H.1, tm_r10])⟩
      · have : c = n := by omega
        subst this
        refine h0 fun p hp e => ?_
        obtain ⟨j, hj, ej⟩ := tm_F_in H.2.2.2 (tm_F_none hF hp)
        have := tm_bel_eq hO hF H.2.2.1 H.2.2.2 hp
        refine hq j hj ?_
        rw [ej, this]
        exact e.symm
      · refine nm_e (tm_yKeyIn hr H (show c < n by omega) (fun e => ?_) (fun e => ?_))
        · obtain ⟨p, hp, e1, e2⟩ := rank c (by omega)
          rw [e2] at e
          rw [← e1]
          exact h1 p hp e.symm
        · refine ih (c + 1) (by omega) (by omega) fun i hi => ?_
          by_cases z : i = c
          · subst z; exact e
          · exact hq i (by omega)
  exact ⟨n + 1, by rw [show nI r * 10 = nI (r * 10 + 0) from pk_mul r 10]; exact loop (n + 1) 0 (by omega) (by omega) fun i hi => absurd hi (Nat.not_lt_zero i)⟩
end
