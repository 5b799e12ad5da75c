section
variable {op st en ch ac ar ak ad sc sa sk sd wc wk wd : Nat → Int32}
/-! X's helpers over its rows -/
theorem tm_xPlace {post : Int32 → Prop} {s k v : Nat → Int32} {r n : Nat} {f : Int32 → Option Int32} {key : Int32} (hr : r < 35) (H : tm_X s k v r n f)
    (h : ∀ p, p ≤ n → (∀ i, i < p → k (r * 10 + i) < key) → (∀ i, p ≤ i → i < n → key ≤ k (r * 10 + i)) → post (nI p)) : wpX_placeOf post (s, k, v, op, st, en, ch, ac, ar, ak, ad, sc, sa, sk, sd, wc, wk, wd) (nI r) key := by
  obtain ⟨e, hn, hO, hF⟩ := H
  have loop : ∀ m p, p ≤ n → n - p < m → (∀ i, i < p → k (r * 10 + i) < key) → wX_placeOf_16 post key (nI (r * 10)) (nI n) s k v op st en ch ac ar ak ad sc sa sk sd wc wk wd m (nI p) := by
    intro m
    induction m with
    | zero => intro p _ hm _; omega
    | succ m ih =>
      intro p hp hm hlt
      refine pk_le n p (fun hle => ?_) (fun hgt => ?_)
      · exact h p hp hlt fun i h1 h2 => by omega
      · refine ⟨pk_in (r * 10 + p) 350 (by omega) (nI_add _ _), br_c (fun hc => ?_) (fun hc => ?_)⟩
        · rw [nI_add, nI_clamp (by omega)] at hc
          refine h p hp hlt fun i h1 h2 => ?_
          by_cases z : i = p
          · rw [z]; exact hc
          · exact Int32.le_of_lt (Int32.lt_of_le_of_lt hc (hO p i (by omega) h2))
        · rw [nI_add, nI_clamp (by omega)] at hc
          refine nm_r (nI_1 p) (ih (p + 1) (by omega) (by omega) fun i hi => ?_)
          by_cases z : i = p
          · rw [z]; exact Int32.not_le.mp hc
          · exact hlt i (by omega)
  refine nm_r (pk_mul r 10) ⟨vp_in_nI hr (by omega), nm_r ?_ ⟨n + 1, loop (n + 1) 0 (by omega) (by omega) fun i hi => absurd hi (Nat.not_lt_zero i)⟩⟩
  rw [nI_clamp (by omega), e]
theorem tm_xLook {Q : Int32 → Int32 → Prop} {s k v : Nat → Int32} {r n : Nat} {f : Int32 → Option Int32} {key : Int32} (hr : r < 35) (H : tm_X s k v r n f)
    (h1 : ∀ p, p < n → k (r * 10 + p) = key → Q (nI p) 1)
    (h0 : ∀ p, p ≤ n → (∀ i, i < p → k (r * 10 + i) < key) → (∀ i, p ≤ i → i < n → key < k (r * 10 + i)) → Q (nI p) 0) :
    wpX_placeOf (fun p => wpX_keyStandsAt (Q p) (s, k, v, op, st, en, ch, ac, ar, ak, ad, sc, sa, sk, sd, wc, wk, wd) (nI r) p key) (s, k, v, op, st, en, ch, ac, ar, ak, ad, sc, sa, sk, sd, wc, wk, wd) (nI r) key := by
  refine tm_xPlace hr H fun p hp hl hg => ?_
  have hn := H.2.1
  have hO := H.2.2.1
  refine ⟨vp_in_nI hr (by omega), pk_le n p (fun hle => ?_) (fun hgt => ?_) (by rw [nI_clamp (by omega), H.1])⟩
  · exact h0 p hp hl fun i a b => by omega
  · have e : (nI r * 10 + nI p).toNatClampNeg = r * 10 + p := pk_cl (r * 10 + p) (by rw [show (10 : Int32) = nI 10 from rfl, pk_mul, nI_add])
    refine ⟨pk_in (r * 10 + p) 350 (by omega) (by rw [show (10 : Int32) = nI 10 from rfl, pk_mul, nI_add]), br_c (fun hc => ?_) (fun hc => ?_)⟩
    · rw [e] at hc; exact h1 p hgt hc
    · rw [e] at hc
      refine h0 p hp hl fun i a b => ?_
      have hle := hg p (Nat.le_refl _) hgt
      have hlt := Int32.lt_of_le_of_ne hle (fun z => hc z.symm)
      by_cases z : i = p
      · rw [z]; exact hlt
      · exact Int32.lt_trans hlt (hO p i (by omega) b)
theorem tm_xHas {post : Int32 → Prop} {s k v : Nat → Int32} {r n : Nat} {f : Int32 → Option Int32} {key : Int32} (hr : r < 35) (H : tm_X s k v r n f)
    (h1 : f key ≠ none → post 1) (h0 : f key = none → post 0) : wpX_hasKey post (s, k, v, op, st, en, ch, ac, ar, ak, ad, sc, sa, sk, sd, wc, wk, wd) (nI r) key := by
  refine tm_xLook hr H (fun p hp e => ⟨by decide, h1 ?_⟩) (fun p hp hl hg => ⟨by decide, h0 ?_⟩)
  · have := tm_F_none H.2.2.2 hp
    rw [← e]; exact this
  · refine H.2.2.2.2 key fun i hi e => ?_
    by_cases a : i < p
    · exact Int32.ne_of_lt (hl i a) e
    · exact Int32.ne_of_lt (hg i (by omega) hi) e.symm
theorem tm_xVal {post : Int32 → Prop} {s k v : Nat → Int32} {r n : Nat} {f : Int32 → Option Int32} {key d : Int32} (hr : r < 35) (H : tm_X s k v r n f)
    (h : post ((f key).getD d)) : wpX_valueUnder post (s, k, v, op, st, en, ch, ac, ar, ak, ad, sc, sa, sk, sd, wc, wk, wd) (nI r) key d := by
  have hn := H.2.1
  refine tm_xLook hr H (fun p hp e => br_f (by decide) ?_) (fun p hp hl hg => br_t rfl ?_)
  · have e1 : (nI r * 10 + nI p) = nI (r * 10 + p) := by rw [show (10 : Int32) = nI 10 from rfl, pk_mul, nI_add]
    refine ⟨pk_in (r * 10 + p) 350 (by omega) e1, ?_⟩
    have := H.2.2.2.1 p hp
    dsimp only at this
    rw [e] at this
    rw [this] at h
    rw [e1, nI_clamp (by omega)]
    exact h
  · have : f key = none := by
      refine H.2.2.2.2 key fun i hi e => ?_
      by_cases a : i < p
      · exact Int32.ne_of_lt (hl i a) e
      · exact Int32.ne_of_lt (hg i (by omega) hi) e.symm
    rw [this] at h
    exact h
theorem tm_xRoom {post : SX → Prop} {s k v : Nat → Int32} {r n p : Nat} (hr : r < 35) (hs : s r = nI n) (hn : n < 10) (hp : p ≤ n)
    (h : post ((upd s r (nI (n + 1))), (tm_up k (r * 10 + p) (r * 10 + n)), (tm_up v (r * 10 + p) (r * 10 + n)), op, st, en, ch, ac, ar, ak, ad, sc, sa, sk, sd, wc, wk, wd)) : wpX_makeRoom post (s, k, v, op, st, en, ch, ac, ar, ak, ad, sc, sa, sk, sd, wc, wk, wd) (nI r) (nI p) := by
  have hin : vp_in (nI r) 35 := vp_in_nI hr (by omega)
  have loop : ∀ m c, r * 10 + p ≤ c → c ≤ r * 10 + n → c - (r * 10 + p) < m → wX_makeRoom_15 post (nI r) (nI p) (nI (r * 10)) m (nI c) s (tm_up k c (r * 10 + n)) (tm_up v c (r * 10 + n)) op st en ch ac ar ak ad sc sa sk sd wc wk wd := by
    intro m
    induction m with
    | zero => intro c _ _ hm; omega
    | succ m ih =>
      intro c h1 h2 hm
      refine pk_le c (r * 10 + p) (fun hle => ?_) (fun hgt => ?_) rfl (nI_add _ _)
      · have : c = r * 10 + p := by omega
        subst this
        exact ⟨hin, hin, nm_r (by rw [nI_clamp (by omega), hs, nI_1]) h⟩
      · obtain ⟨d, rfl⟩ : ∃ d, c = d + 1 := ⟨c - 1, by omega⟩
        have i1 : vp_in (nI (d + 1) - 1) 350 := pk_in d 350 (by omega) (nI_pred d)
        have i2 : vp_in (nI (d + 1)) 350 := vp_in_nI (by omega) (by omega)
        refine ⟨i1, i2, nm_r (e' := tm_up k d (r * 10 + n)) ?_ ⟨i1, i2, nm_r (e' := tm_up v d (r * 10 + n)) ?_ (nm_r (pk_m1 d) (ih d (by omega) (by omega) (by omega)))⟩⟩
        · rw [nI_pred, nI_clamp (by omega), nI_clamp (by omega)]; exact tm_up_1 k h2
        · rw [nI_pred, nI_clamp (by omega), nI_clamp (by omega)]; exact tm_up_1 v h2
  refine nm_r (pk_mul r 10) ⟨hin, nm_r (e' := nI (r * 10 + n)) (by rw [nI_clamp (by omega), hs, nI_add]) ⟨n + 1, ?_⟩⟩
  have := loop (n + 1) (r * 10 + n) (by omega) (by omega) (by omega)
  rw [tm_up_0, tm_up_0] at this
  exact this
theorem tm_xSet {post : Int32 → SX → Prop} {s k v : Nat → Int32} {r n : Nat} {f : Int32 → Option Int32} {key w : Int32} (hr : r < 35) (H : tm_X s k v r n f)
    (h1 : ∀ s1 k1 v1 n1, tm_fr r s k v s1 k1 v1 → tm_X s1 k1 v1 r n1 (tm_set f key w) → post 1 (s1, k1, v1, op, st, en, ch, ac, ar, ak, ad, sc, sa, sk, sd, wc, wk, wd))
    (h0 : tm_Ov (tm_set f key w) → post 0 (s, k, v, op, st, en, ch, ac, ar, ak, ad, sc, sa, sk, sd, wc, wk, wd)) : wpX_setEntry post (s, k, v, op, st, en, ch, ac, ar, ak, ad, sc, sa, sk, sd, wc, wk, wd) (nI r) key w := by
  have hn := H.2.1
  have hin : vp_in (nI r) 35 := vp_in_nI hr (by omega)
  have e1 : ∀ p, (nI r * 10 + nI p) = nI (r * 10 + p) := fun p => by rw [show (10 : Int32) = nI 10 from rfl, pk_mul, nI_add]
  refine tm_xLook hr H (fun p hp e => br_f (by decide) ?_) (fun p hp hl hg => br_t rfl ⟨hin, pk_lt n 10 (fun hlt => ?_) (fun hge => ?_) (by rw [nI_clamp (by omega), H.1])⟩)
  · have i1 : vp_in (nI (r * 10 + p)) 350 := vp_in_nI (by omega) (by omega)
    refine nm_r (e1 p) ⟨i1, nm_r (e' := upd k (r * 10 + p) key) (by rw [nI_clamp (by omega)]) ⟨i1, nm_r (e' := upd v (r * 10 + p) w) (by rw [nI_clamp (by omega)]) (h1 _ _ _ n ?_ ?_)⟩⟩
    · intro q hq
      exact ⟨rfl, fun i hi => ⟨pk_un (by omega), pk_un (by omega)⟩⟩
    · have ek : ∀ i, i < n → upd k (r * 10 + p) key (r * 10 + i) = k (r * 10 + i) := by
        intro i hi
        by_cases z : i = p
        · subst z; rw [pk_us]; exact e.symm
        · exact pk_un (by omega)
      exact ⟨H.1, hn, tm_O_congr H.2.2.1 ek, tm_rep (tm_OI H.2.2.1) H.2.2.2 hp e ek pk_us fun i hi z => pk_un (by omega)⟩
  · refine tm_xRoom hr H.1 hlt hp ?_
    have i1 : vp_in (nI (r * 10 + p)) 350 := vp_in_nI (by omega) (by omega)
    refine nm_r (e1 p) ⟨i1, nm_r (e' := upd (tm_up k (r * 10 + p) (r * 10 + n)) (r * 10 + p) key) (by rw [nI_clamp (by omega)]) ⟨i1, nm_r (e' := upd (tm_up v (r * 10 + p) (r * 10 + n)) (r * 10 + p) w) (by rw [nI_clamp (by omega)]) (h1 _ _ _ (n + 1) ?_ ?_)⟩⟩
    · intro q hq
      refine ⟨pk_un hq, fun i hi => ⟨?_, ?_⟩⟩
      · rw [pk_un (by omega)]; exact if_neg (by omega)
      · rw [pk_un (by omega)]; exact if_neg (by omega)
    · have X := tm_ins (K' := fun i => upd (tm_up k (r * 10 + p) (r * 10 + n)) (r * 10 + p) key (r * 10 + i)) (V' := fun i => upd (tm_up v (r * 10 + p) (r * 10 + n)) (r * 10 + p) w (r * 10 + i)) H.2.2.1 H.2.2.2 hp hl hg
        (fun i hi => ⟨(pk_un (by omega)).trans (if_neg (by omega)), (pk_un (by omega)).trans (if_neg (by omega))⟩) ⟨pk_us, pk_us⟩
        (fun i h1 h2 => ⟨(pk_un (by omega)).trans (if_pos (by omega)), (pk_un (by omega)).trans (if_pos (by omega))⟩)
      exact ⟨pk_us, hlt, X.1, X.2⟩
  · have : n = 10 := by omega
    subst this
    refine h0 (tm_Ov_of H.2.2.2 (tm_OI H.2.2.1) (k := key) ?_ fun x hx => tm_set_ne hx)
    refine H.2.2.2.2 key fun i hi e => ?_
    by_cases a : i < p
    · exact Int32.ne_of_lt (hl i a) e
    · exact Int32.ne_of_lt (hg i (by omega) hi) e.symm
theorem tm_xAdj {post : Int32 → SX → Prop} {s k v : Nat → Int32} {r n : Nat} {f : Int32 → Option Int32} {key d : Int32} (hr : r < 35) (H : tm_X s k v r n f)
    (h1 : ∀ s1 k1 v1 n1, tm_fr r s k v s1 k1 v1 → tm_X s1 k1 v1 r n1 (tm_set f key ((f key).getD 0 + d)) → post 1 (s1, k1, v1, op, st, en, ch, ac, ar, ak, ad, sc, sa, sk, sd, wc, wk, wd))
    (h0 : tm_Ov (tm_set f key ((f key).getD 0 + d)) → post 0 (s, k, v, op, st, en, ch, ac, ar, ak, ad, sc, sa, sk, sd, wc, wk, wd)) : wpX_adjustMap post (s, k, v, op, st, en, ch, ac, ar, ak, ad, sc, sa, sk, sd, wc, wk, wd) (nI r) key d := by
  unfold wpX_adjustMap
  refine tm_xVal hr H ?_
  refine nm_e ?_
  refine tm_xSet hr H (fun s1 k1 v1 n1 a b => ?_) (fun a => ?_)
  · exact ⟨by decide, h1 s1 k1 v1 n1 a b⟩
  · exact ⟨by decide, h0 a⟩
theorem tm_xDrop {post : SX → Prop} {s k v : Nat → Int32} {r n p : Nat} {f : Int32 → Option Int32} {key : Int32} (hr : r < 35) (H : tm_X s k v r n f) (hp : p < n) (hk : k (r * 10 + p) = key)
    (h : ∀ s1 k1 v1 n1, tm_fr r s k v s1 k1 v1 → tm_X s1 k1 v1 r n1 (tm_del f key) → post (s1, k1, v1, op, st, en, ch, ac, ar, ak, ad, sc, sa, sk, sd, wc, wk, wd)) : wpX_dropEntry post (s, k, v, op, st, en, ch, ac, ar, ak, ad, sc, sa, sk, sd, wc, wk, wd) (nI r) (nI p) := by
  have hn := H.2.1
  have hin : vp_in (nI r) 35 := vp_in_nI hr (by omega)
  obtain ⟨m, rfl⟩ : ∃ m, n = m + 1 := ⟨n - 1, by omega⟩
  have hpost : post ((upd s r (nI m)), (tm_dn k (r * 10 + p) (r * 10 + m)), (tm_dn v (r * 10 + p) (r * 10 + m)), op, st, en, ch, ac, ar, ak, ad, sc, sa, sk, sd, wc, wk, wd) := by
    refine h _ _ _ m ?_ ?_
    · intro q hq
      exact ⟨pk_un hq, fun i hi => ⟨if_neg (by omega), if_neg (by omega)⟩⟩
    · have X := tm_out (K' := fun i => tm_dn k (r * 10 + p) (r * 10 + m) (r * 10 + i)) (V' := fun i => tm_dn v (r * 10 + p) (r * 10 + m) (r * 10 + i)) H.2.2.1 H.2.2.2 hp hk
        (fun i hi => ⟨if_neg (by omega), if_neg (by omega)⟩) (fun i h1 h2 => ⟨if_pos (by omega), if_pos (by omega)⟩)
      exact ⟨pk_us, by omega, X.1, X.2⟩
  have loop : ∀ q c, r * 10 + p ≤ c → c ≤ r * 10 + m → r * 10 + m - c < q → wX_dropEntry_22 post (nI r) (nI (r * 10 + m)) q (nI c) s (tm_dn k (r * 10 + p) c) (tm_dn v (r * 10 + p) c) op st en ch ac ar ak ad sc sa sk sd wc wk wd := by
    intro q
    induction q with
    | zero => intro c _ _ hm; omega
    | succ q ih =>
      intro c h1 h2 hm
      refine pk_le (r * 10 + m) c (fun hle => ?_) (fun hgt => ?_)
      · have : c = r * 10 + m := by omega
        subst this
        exact ⟨hin, hin, nm_r (by rw [nI_clamp (by omega), H.1, nI_pred]) hpost⟩
      · have i1 : vp_in (nI c + 1) 350 := pk_in (c + 1) 350 (by omega) (nI_1 c)
        have i2 : vp_in (nI c) 350 := vp_in_nI (by omega) (by omega)
        refine ⟨i1, i2, nm_r (e' := tm_dn k (r * 10 + p) (c + 1)) ?_ ⟨i1, i2, nm_r (e' := tm_dn v (r * 10 + p) (c + 1)) ?_ (nm_r (nI_1 c) (ih (c + 1) (by omega) (by omega) (by omega)))⟩⟩
        · rw [nI_1, nI_clamp (by omega), nI_clamp (by omega)]; exact tm_dn_1 k h1
        · rw [nI_1, nI_clamp (by omega), nI_clamp (by omega)]; exact tm_dn_1 v h1
  refine nm_r (pk_mul r 10) ⟨hin, nm_r (e' := nI (r * 10 + m)) ?_ (nm_r (nI_add (r * 10) p) ⟨m + 1, ?_⟩)⟩
  · rw [nI_clamp (by omega), H.1, nI_add, ← Nat.add_assoc, nI_pred]
  · have := loop (m + 1) (r * 10 + p) (by omega) (by omega) (by omega)
    rw [tm_dn_0, tm_dn_0] at this
    exact this
theorem tm_xCopy {post : SX → Prop} {s k v : Nat → Int32} {a b n : Nat} {f : Int32 → Option Int32} (ha : a < 35) (hb : b < 35) (H : tm_X s k v a n f)
    (h : ∀ s1 k1 v1, tm_fr b s k v s1 k1 v1 → tm_X s1 k1 v1 b n f → post (s1, k1, v1, op, st, en, ch, ac, ar, ak, ad, sc, sa, sk, sd, wc, wk, wd)) : wpX_copyMap post (s, k, v, op, st, en, ch, ac, ar, ak, ad, sc, sa, sk, sd, wc, wk, wd) (nI a) (nI b) := by
  have hn := H.2.1
  have hpost : post ((upd s b (nI n)), (tm_cp k (a * 10) (b * 10) n), (tm_cp v (a * 10) (b * 10) n), op, st, en, ch, ac, ar, ak, ad, sc, sa, sk, sd, wc, wk, wd) := by
    refine h _ _ _ ?_ ?_
    · intro q hq
      exact ⟨pk_un hq, fun i hi => ⟨if_neg (by omega), if_neg (by omega)⟩⟩
    · refine tm_X_congr H (pk_us.trans H.1.symm) fun i hi => ⟨?_, ?_⟩
      · exact (if_pos (by omega)).trans (congrArg k (by omega))
      · exact (if_pos (by omega)).trans (congrArg v (by omega))
  have loop : ∀ q c, c ≤ n → n - c < q → wX_copyMap_22 post (nI b) (nI (a * 10)) (nI (b * 10)) (nI n) q (nI c) s (tm_cp k (a * 10) (b * 10) c) (tm_cp v (a * 10) (b * 10) c) op st en ch ac ar ak ad sc sa sk sd wc wk wd := by
    intro q
    induction q with
    | zero => intro c _ hm; omega
    | succ q ih =>
      intro c h2 hm
      refine pk_le n c (fun hle => ?_) (fun hgt => ?_)
      · have : c = n := by omega
        subst this
        exact ⟨vp_in_nI hb (by omega), nm_r (by rw [nI_clamp (by omega)]) hpost⟩
      · have i1 : vp_in (nI (a * 10) + nI c) 350 := pk_in (a * 10 + c) 350 (by omega) (nI_add _ _)
        have i2 : vp_in (nI (b * 10) + nI c) 350 := pk_in (b * 10 + c) 350 (by omega) (nI_add _ _)
        refine ⟨i1, i2, nm_r (e' := tm_cp k (a * 10) (b * 10) (c + 1)) ?_ ⟨i1, i2, nm_r (e' := tm_cp v (a * 10) (b * 10) (c + 1)) ?_ (nm_r (nI_1 c) (ih (c + 1) (by omega) (by omega)))⟩⟩
        · rw [nI_add, nI_add, nI_clamp (by omega), nI_clamp (by omega)]; exact tm_cp_1 k (by omega)
        · rw [nI_add, nI_add, nI_clamp (by omega), nI_clamp (by omega)]; exact tm_cp_1 v (by omega)
  refine nm_r (pk_mul a 10) (nm_r (pk_mul b 10) ⟨vp_in_nI ha (by omega), nm_r (e' := nI n) (by rw [nI_clamp (by omega), H.1]) ⟨n + 1, ?_⟩⟩)
  have := loop (n + 1) 0 (by omega) (by omega)
  rw [tm_cp_0, tm_cp_0] at this
  exact this
theorem tm_xEq {post : Int32 → Prop} {s k v : Nat → Int32} {a b n m : Nat} {f g : Int32 → Option Int32} (ha : a < 35) (hb : b < 35) (H : tm_X s k v a n f) (G : tm_X s k v b m g)
    (h1 : f = g → post 1) (h0 : f ≠ g → post 0) : wpX_mapsAreEqual post (s, k, v, op, st, en, ch, ac, ar, ak, ad, sc, sa, sk, sd, wc, wk, wd) (nI a) (nI b) := by
  have hn := H.2.1
  have hm := G.2.1
  refine ⟨vp_in_nI ha (by omega), nm_r (e' := nI n) (by rw [nI_clamp (by omega), H.1]) ⟨vp_in_nI hb (by omega), pk_eq n m (fun e => ?_) (fun e => ?_) rfl (by rw [nI_clamp (by omega), G.1])⟩⟩
  · subst e
    have loop : ∀ q c, c ≤ n → n - c < q → (∀ i, i < c → k (a * 10 + i) = k (b * 10 + i) ∧ v (a * 10 + i) = v (b * 10 + i)) → wX_mapsAreEqual_34 post (nI n) (nI (a * 10)) (nI (b * 10)) s k v op st en ch ac ar ak ad sc sa sk sd wc wk wd q (nI c) := by
      intro q
      induction q with
      | zero => intro c _ hm; omega
      | succ q ih =>
        intro c h2 hm hq
        have ea : (nI (a * 10) + nI c).toNatClampNeg = a * 10 + c := by rw [nI_add, nI_clamp (by omega)]
        refine pk_le n c (fun hle => ?_) (fun hgt => ?_)
        · have : c = n := by omega
          subst this
          exact h1 (tm_F_eq H.2.2.2 (tm_F_congr G.2.2.2 hq))
        · have eb : (nI (b * 10) + nI c).toNatClampNeg = b * 10 + c := by rw [nI_add, nI_clamp (by omega)]
          have i1 : vp_in (nI (a * 10) + nI c) 350 := pk_in (a * 10 + c) 350 (by omega) (nI_add _ _)
          have i2 : vp_in (nI (b * 10) + nI c) 350 := pk_in (b * 10 + c) 350 (by omega) (nI_add _ _)
          refine ⟨i1, i2, br_c (fun e1 => ⟨i1, i2, br_c (fun e2 => ?_) (fun e2 => ?_)⟩) (fun e1 => ?_)⟩
          · rw [ea, eb] at e1 e2
            refine nm_r (nI_1 c) (ih (c + 1) (by omega) (by omega) fun i hi => ?_)
            by_cases z : i = c
            · subst z; exact ⟨e1, e2⟩
            · exact hq i (by omega)
          · rw [ea, eb] at e1 e2
            refine h0 fun z => e2 ?_
            subst z
            have x1 := H.2.2.2.1 c (by omega)
            have x2 := G.2.2.2.1 c (by omega)
            dsimp only at x1 x2
            rw [e1, x2] at x1
            exact (Option.some.inj x1).symm
          · rw [ea, eb] at e1
            refine h0 fun z => e1 ?_
            subst z
            exact tm_uni H.2.2.1 H.2.2.2 G.2.2.1 G.2.2.2 (i := c) (by omega) fun j hj => (hq j hj).1
    exact nm_r (pk_mul a 10) (nm_r (pk_mul b 10) ⟨n + 1, loop (n + 1) 0 (by omega) (by omega) fun i hi => absurd hi (Nat.not_lt_zero i)⟩)
  · refine h0 fun z => e ?_
    subst z
    exact tm_nn (tm_XY H) (tm_XY G)
end
