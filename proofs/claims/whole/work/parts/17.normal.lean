/-! normal forms -/
def sc_mo (f : Nat) : Int32 := if f < 2 then 1 else 2
noncomputable def sc_nf (cl dt df ds ex : Nat → Int32) (f : Nat) (l : List Int32) : List Int32 :=
  if f % 2 = 1 then sc_cm cl dt df ds ex [] (sc_od cl (sc_dc dt df ds (sc_mo f) (sc_ms l + 1) [] l)) else sc_od cl (sc_dc dt df ds (sc_mo f) (sc_ms l + 1) [] l)
theorem sc_dcG {dt df ds : Nat → Int32} (hd : sc_Dec dt df ds) (mo : Int32) {l : List Int32} (hA : sc_All l) (hL : l.length ≤ 16) : sc_All (sc_dc dt df ds mo (sc_ms l + 1) [] l) ∧ (sc_dc dt df ds mo (sc_ms l + 1) [] l).length ≤ 64 := by
  obtain ⟨L, hp⟩ := hd.2.2
  have h1 := sc_ls_le hp l
  have h2 := sc_dcP hd hp mo (sc_ms l + 1) [] l hA (by show sc_ls L l ≤ 64; omega)
  have h3 := sc_ls_len hp (sc_dc dt df ds mo (sc_ms l + 1) [] l)
  exact ⟨h2.1, by omega⟩
theorem sc_nfG {cl dt df ds : Nat → Int32} (ex : Nat → Int32) (hd : sc_Dec dt df ds) (f : Nat) {l : List Int32} (hA : sc_All l) (hL : l.length ≤ 16) : sc_All (sc_nf cl dt df ds ex f l) ∧ (sc_nf cl dt df ds ex f l).length ≤ 64 := by
  obtain ⟨h1, h2⟩ := sc_dcG hd (sc_mo f) hA hL
  have h3 := sc_odL cl (sc_dc dt df ds (sc_mo f) (sc_ms l + 1) [] l)
  unfold sc_nf
  by_cases e : f % 2 = 1
  · rw [if_pos e]
    have := sc_cmL (cl := cl) (dt := dt) (df := df) (ds := ds) (ex := ex) (sc_od cl (sc_dc dt df ds (sc_mo f) (sc_ms l + 1) [] l)) []
    exact ⟨sc_cmA _ _ sc_All_nil (sc_odA cl h1), by simp at this; omega⟩
  · rw [if_neg e]
    exact ⟨sc_odA cl h1, by omega⟩
theorem sc_atC {l : List Int32} (h : sc_All l) : sc_Chr (sc_at l) := by
  intro i
  rcases Nat.lt_or_ge i l.length with z | z
  · exact h _ (sc_at_mem l i z)
  · have e : ∀ (l : List Int32) i, l.length ≤ i → sc_at l i = 0 := by
      intro l
      induction l with
      | nil => exact fun i _ => rfl
      | cons x l ih =>
        intro i hi
        cases i with
        | zero => exact absurd hi (by simp)
        | succ i => exact ih i (Nat.le_of_succ_le_succ hi)
    rw [e l i z]; exact sc_in0 48 (by decide)
theorem sc_cpE (f f' : Nat → Int32) (o : Nat) : ∀ d i a, (∀ j, i ≤ j → j < i + d → f j = f' j) → sc_cp f o d i a = sc_cp f' o d i a := by
  intro d
  induction d with
  | zero => exact fun i a h => rfl
  | succ d ih =>
    intro i a h
    show sc_cp f o d (i + 1) (upd a (o + i) (f i)) = sc_cp f' o d (i + 1) (upd a (o + i) (f' i))
    rw [h i (by omega) (by omega)]
    exact ih (i + 1) _ (fun j a b => h j (by omega) (by omega))
section
variable {cc rl wl : Int32} {cl dt df ds ex lo uf us fi ki ef es di we cf cs cm tx le rr wk sh fo fl el ec ke kl em oe be pl po : Nat → Int32}
theorem x_form52 {post : SX → Prop} {f : Nat} {l : List Int32} (hf : f < 4) (hd : sc_Dec dt df ds) (hA : sc_All l) (hL : l.length ≤ 16) (hr : sc_Rp wk l)
    (h : ∀ wk, sc_Rp wk (sc_nf cl dt df ds ex f l) → post (cc, rl, nI (sc_nf cl dt df ds ex f l).length, cl, dt, df, ds, ex, lo, uf, us, fi, ki, ef, es, di, we, cf, cs, cm, tx, le, rr, wk, sh, fo, fl, el, ec, ke, kl, em, oe, be, pl, po)) : wX_makeForm_52 post (nI f) (sc_mo f) cc rl (nI l.length) cl dt df ds ex lo uf us fi ki ef es di we cf cs cm tx le rr wk sh fo fl el ec ke kl em oe be pl po := by
  obtain ⟨L, hp⟩ := hd.2.2
  obtain ⟨h1, h2⟩ := sc_dcG hd (sc_mo f) hA hL
  have h3 := sc_odL cl (sc_dc dt df ds (sc_mo f) (sc_ms l + 1) [] l)
  unfold wX_makeForm_52
  refine x_decomp hd hp hA hL hr (fun wk1 hr1 => x_order h2 h1 hr1 (fun wk2 hr2 => ?_))
  unfold sc_nf at h
  refine pk_eq f 1 (fun e => ?_) (fun e => pk_eq f 3 (fun e' => ?_) (fun e' => ?_))
  · rw [if_pos (by omega)] at h
    unfold wX_makeForm_71
    exact x_compose (by omega) (sc_odA cl h1) hr2 h
  · rw [if_pos (by omega)] at h
    unfold wX_makeForm_71
    exact x_compose (by omega) (sc_odA cl h1) hr2 h
  · rw [if_neg (by omega)] at h
    exact h wk2 hr2
theorem x_form {post : SX → Prop} {t b e f : Nat} (ht : t < 2) (he : e ≤ 16) (hb : b ≤ e) (hf : f < 4) (htx : sc_Chr tx) (hd : sc_Dec dt df ds)
    (h : ∀ wk, sc_Rp wk (sc_nf cl dt df ds ex f (sc_ld tx t (e - b) b)) → post (cc, rl, nI (sc_nf cl dt df ds ex f (sc_ld tx t (e - b) b)).length, cl, dt, df, ds, ex, lo, uf, us, fi, ki, ef, es, di, we, cf, cs, cm, tx, le, rr, wk, sh, fo, fl, el, ec, ke, kl, em, oe, be, pl, po)) : wpX_makeForm post (cc, rl, wl, cl, dt, df, ds, ex, lo, uf, us, fi, ki, ef, es, di, we, cf, cs, cm, tx, le, rr, wk, sh, fo, fl, el, ec, ke, kl, em, oe, be, pl, po) (nI t) (nI b) (nI e) (nI f) := by
  refine x_load ht he hb (fun wk1 hr1 => ?_)
  have g := x_form52 (post := post) hf hd (sc_ldA htx t _ _) (by rw [sc_ldL]; omega) hr1 h
  have em : (if nI f < 2 then (1 : Int32) else 2) = sc_mo f := by
    unfold sc_mo
    by_cases z : f < 2
    · rw [if_pos z]; exact if_pos (nI_lt (b := 2) z (by decide))
    · rw [if_neg z]; exact if_neg (nI_nlt (a := f) (b := 2) (by omega) (by omega))
  rw [em]
  exact g
theorem x_wbr_l {post : Int32 → SX → Prop} {n : Nat} (hn : n ≤ 64) : ∀ (d i : Nat) (rr : Nat → Int32), i + d = n →
    post (nI n) (cc, nI n, nI n, cl, dt, df, ds, ex, lo, uf, us, fi, ki, ef, es, di, we, cf, cs, cm, tx, le, sc_cp wk 0 d i rr, wk, sh, fo, fl, el, ec, ke, kl, em, oe, be, pl, po) → wX_workBecomesResult_2 post cc rl (nI n) (d + 1) (nI i) cl dt df ds ex lo uf us fi ki ef es di we cf cs cm tx le rr wk sh fo fl el ec ke kl em oe be pl po := by
  intro d
  induction d with
  | zero => exact fun i rr hi h => br_t (nI_le (by omega) (by omega)) h
  | succ d ih => exact fun i rr hi h => br_f (nI_ge (by omega) (by omega)) ⟨vp_in_nI (by omega) (by decide), vp_in_nI (by omega) (by decide),
      nm_r (e' := upd rr (0 + i) (wk i)) (by rw [nI_clamp (by omega), Nat.zero_add]) (nm_r (nI_1 i) (ih (i + 1) _ (by omega) h))⟩
theorem x_wbr {post : Int32 → SX → Prop} {l : List Int32} (hn : l.length ≤ 64) (hr : sc_Rp wk l) (h : post (nI l.length) (cc, nI l.length, nI l.length, cl, dt, df, ds, ex, lo, uf, us, fi, ki, ef, es, di, we, cf, cs, cm, tx, le, sc_cp (sc_at l) 0 l.length 0 rr, wk, sh, fo, fl, el, ec, ke, kl, em, oe, be, pl, po)) : wpX_workBecomesResult post (cc, rl, nI l.length, cl, dt, df, ds, ex, lo, uf, us, fi, ki, ef, es, di, we, cf, cs, cm, tx, le, rr, wk, sh, fo, fl, el, ec, ke, kl, em, oe, be, pl, po) := by
  refine ⟨l.length + 1, x_wbr_l hn l.length 0 rr (by omega) ?_⟩
  rw [sc_cpE wk (sc_at l) 0 l.length 0 rr (fun j _ hj => hr j (by omega))]
  exact h
theorem xs_form {post : Int32 → Prop} {a : Int32} (h1 : sc_W a 0 3 → post 1) (h0 : ¬ sc_W a 0 3 → post 0) : wpX_isForm post (cc, rl, wl, cl, dt, df, ds, ex, lo, uf, us, fi, ki, ef, es, di, we, cf, cs, cm, tx, le, rr, wk, sh, fo, fl, el, ec, ke, kl, em, oe, be, pl, po) a :=
  br_c (fun z => h0 (fun w => w.1 z)) (fun z => br_c (fun y => h0 (fun w => w.2 y)) (fun y => h1 ⟨z, y⟩))
theorem x_isn_l {post : Int32 → SX → Prop} {t n : Nat} {l : List Int32} (ht : t < 2) (hl : le t = nI n) (hn : n ≤ 16) (hr : sc_Rp wk l) (hln : l.length = n)
    (h1 : (∀ i, i < n → sc_at l i = tx (16 * t + i)) → post 1 (cc, rl, wl, cl, dt, df, ds, ex, lo, uf, us, fi, ki, ef, es, di, we, cf, cs, cm, tx, le, rr, wk, sh, fo, fl, el, ec, ke, kl, em, oe, be, pl, po)) (h0 : ¬ (∀ i, i < n → sc_at l i = tx (16 * t + i)) → post 0 (cc, rl, wl, cl, dt, df, ds, ex, lo, uf, us, fi, ki, ef, es, di, we, cf, cs, cm, tx, le, rr, wk, sh, fo, fl, el, ec, ke, kl, em, oe, be, pl, po)) :
    ∀ d i, i + d = n → (∀ j, j < i → sc_at l j = tx (16 * t + j)) → wX_isNormal_54 post (nI t) (nI (16 * t)) cc rl wl cl dt df ds ex lo uf us fi ki ef es di we cf cs cm tx le rr wk sh fo fl el ec ke kl em oe be pl po (d + 1) (nI i) := by
  have hL : le (nI t).toNatClampNeg = nI n := by rw [nI_clamp (by omega), hl]
  intro d
  induction d with
  | zero => exact fun i hi hj => ⟨vp_in_nI ht (by decide), br_t (by rw [hL]; exact nI_le (by omega) (by omega)) (h1 (fun j a => hj j (by omega)))⟩
  | succ d ih =>
    intro i hi hj
    have e1 : nI (16 * t) + nI i = nI (16 * t + i) := nI_add _ _
    have e2 : (nI (16 * t) + nI i).toNatClampNeg = 16 * t + i := by rw [e1, nI_clamp (by omega)]
    have e3 : wk (nI i).toNatClampNeg = sc_at l i := by rw [nI_clamp (by omega)]; exact hr i (by omega)
    refine ⟨vp_in_nI ht (by decide), br_f (by rw [hL]; exact nI_ge (by omega) (by omega)) ⟨vp_in_nI (by omega) (by decide), pk_in (16 * t + i) 32 (by omega) e1, ?_⟩⟩
    rw [e2, e3]
    refine br_c (fun a => nm_r (nI_1 i) (ih (i + 1) (by omega) (fun j b => ?_))) (fun a => h0 (fun z => a (z i (by omega))))
    by_cases e : j = i
    · rw [e]; exact a
    · exact hj j (by omega)
end
section
variable {cc rl yn : Int32} {cl dt df pb lo uf us fi ki wt ef eb di ex cf cs cm lg tx le rr ro fm fL ee en ye lv se pg ou : Nat → Int32}
theorem y_norm {post : SY → Prop} {ds : Nat → Int32} {f : Nat} {l : List Int32} (hf : f < 4) (hc : ∀ i, vp_in (cl i) 10) (hd : sc_Dec dt df ds) (hpb : ∀ i, i < 48 → ¬ dt i = 0 → pb i = ds i) (hA : sc_All l) (hL : l.length ≤ 16) (hr : sc_Rp ro l)
    (h : ∀ ro, sc_Rp ro (sc_nf cl dt df ds ex f l) → post (cc, rl, nI (sc_nf cl dt df ds ex f l).length, cl, dt, df, pb, lo, uf, us, fi, ki, wt, ef, eb, di, ex, cf, cs, cm, lg, tx, le, rr, ro, fm, fL, ee, en, ye, lv, se, pg, ou)) : wpY_normalize post (cc, rl, nI l.length, cl, dt, df, pb, lo, uf, us, fi, ki, wt, ef, eb, di, ex, cf, cs, cm, lg, tx, le, rr, ro, fm, fL, ee, en, ye, lv, se, pg, ou) (nI f) := by
  obtain ⟨L, hp⟩ := hd.2.2
  obtain ⟨h1, h2⟩ := sc_dcG hd (sc_mo f) hA hL
  have h3 := sc_odL cl (sc_dc dt df ds (sc_mo f) (sc_ms l + 1) [] l)
  have key : wY_normalize_11 post (nI f) (sc_mo f) cc rl (nI l.length) cl dt df pb lo uf us fi ki wt ef eb di ex cf cs cm lg tx le rr ro fm fL ee en ye lv se pg ou := by
    unfold wY_normalize_11
    refine y_decomp hd hp hpb hA hL hr (fun ro1 hr1 => y_order hc h2 h1 hr1 (fun ro2 hr2 => ⟨by decide, ?_⟩))
    unfold sc_nf at h
    refine pk_eq (f % 2) 1 (fun e => ?_) (fun e => ?_) (pk_rem (by omega) (by decide) (by decide)) rfl
    · rw [if_pos e] at h
      exact y_compose hpb (by omega) (sc_odA cl h1) hr2 h
    · rw [if_neg e] at h
      exact h ro2 hr2
  unfold sc_mo at key
  unfold wpY_normalize
  refine pk_le 2 f (fun e => ?_) (fun e => ?_)
  · rw [if_neg (by omega)] at key; exact key
  · rw [if_pos e] at key; exact key
theorem y_give_l {post : Int32 → SY → Prop} {n : Nat} (hn : n ≤ 64) : ∀ (d i : Nat) (rr : Nat → Int32), i + d = n →
    post (nI n) (cc, nI n, nI n, cl, dt, df, pb, lo, uf, us, fi, ki, wt, ef, eb, di, ex, cf, cs, cm, lg, tx, le, sc_cp ro 0 d i rr, ro, fm, fL, ee, en, ye, lv, se, pg, ou) → wY_give_10 post cc (nI n) (nI n) (d + 1) (nI i) cl dt df pb lo uf us fi ki wt ef eb di ex cf cs cm lg tx le rr ro fm fL ee en ye lv se pg ou := by
  intro d
  induction d with
  | zero => exact fun i rr hi h => br_t (nI_le (by omega) (by omega)) h
  | succ d ih => exact fun i rr hi h => br_f (nI_ge (by omega) (by omega)) ⟨vp_in_nI (by omega) (by decide), vp_in_nI (by omega) (by decide),
      nm_r (e' := upd rr (0 + i) (ro i)) (by rw [nI_clamp (by omega), Nat.zero_add]) (nm_r (nI_1 i) (ih (i + 1) _ (by omega) h))⟩
theorem y_give {post : Int32 → SY → Prop} {l : List Int32} (hn : l.length ≤ 64) (hr : sc_Rp ro l) (h : post (nI l.length) (cc, nI l.length, nI l.length, cl, dt, df, pb, lo, uf, us, fi, ki, wt, ef, eb, di, ex, cf, cs, cm, lg, tx, le, sc_cp (sc_at l) 0 l.length 0 rr, ro, fm, fL, ee, en, ye, lv, se, pg, ou)) : wpY_give post (cc, rl, nI l.length, cl, dt, df, pb, lo, uf, us, fi, ki, wt, ef, eb, di, ex, cf, cs, cm, lg, tx, le, rr, ro, fm, fL, ee, en, ye, lv, se, pg, ou) := by
  refine ⟨l.length + 1, y_give_l hn l.length 0 rr (by omega) ?_⟩
  rw [sc_cpE ro (sc_at l) 0 l.length 0 rr (fun j _ hj => hr j (by omega))]
  exact h
theorem y_isn_l {post : Int32 → SY → Prop} {t n : Nat} {l : List Int32} (ht : t < 2) (hn : n ≤ 16) (hr : sc_Rp ro l) (hln : l.length = n)
    (h1 : (∀ i, i < n → sc_at l i = tx (16 * t + i)) → post 1 (cc, rl, nI n, cl, dt, df, pb, lo, uf, us, fi, ki, wt, ef, eb, di, ex, cf, cs, cm, lg, tx, le, rr, ro, fm, fL, ee, en, ye, lv, se, pg, ou)) (h0 : ¬ (∀ i, i < n → sc_at l i = tx (16 * t + i)) → post 0 (cc, rl, nI n, cl, dt, df, pb, lo, uf, us, fi, ki, wt, ef, eb, di, ex, cf, cs, cm, lg, tx, le, rr, ro, fm, fL, ee, en, ye, lv, se, pg, ou)) :
    ∀ d i, i + d = n → (∀ j, j < i → sc_at l j = tx (16 * t + j)) → wY_isNormal_57 post (nI t) cc rl (nI n) cl dt df pb lo uf us fi ki wt ef eb di ex cf cs cm lg tx le rr ro fm fL ee en ye lv se pg ou (d + 1) 1 (nI i) := by
  intro d
  induction d with
  | zero => exact fun i hi hj => br_t (nI_le (by omega) (by omega)) ⟨rfl, h1 (fun j a => hj j (by omega))⟩
  | succ d ih =>
    intro i hi hj
    have e1 : 16 * nI t + nI i = nI (16 * t + i) := sn_16 _ _
    have e2 : (16 * nI t + nI i).toNatClampNeg = 16 * t + i := by rw [e1, nI_clamp (by omega)]
    have e3 : ro (nI i).toNatClampNeg = sc_at l i := by rw [nI_clamp (by omega)]; exact hr i (by omega)
    refine br_f (nI_ge (by omega) (by omega)) (br_f (by decide) ⟨vp_in_nI (by omega) (by decide), pk_in (16 * t + i) 32 (by omega) e1, ?_⟩)
    rw [e2, e3]
    refine br_c (fun a => nm_r (nI_1 i) (ih (i + 1) (by omega) (fun j b => ?_))) (fun a => nm_r (nI_1 i) (br_c (fun _ => ⟨rfl, h0 (fun z => a (z i (by omega)))⟩) (fun _ => br_t rfl ⟨rfl, h0 (fun z => a (z i (by omega)))⟩)))
    by_cases e : j = i
    · rw [e]; exact a
    · exact hj j (by omega)
end
theorem i_vc_normal {k : Nat} {u : SX} {v : SY} (I : i_Rel k u v) (hk : k + 5 ≤ 2560) (v1 : Int32) (v2 : Int32) : wpX_normal (fun r u' => wpY_normal (fun r' v' => r' = r ∧ i_Rel (k + 5) u' v') v v1 v2) u v1 v2 := by
  obtain ⟨cc, rl, wl, yn, cl, dt, df, ds, ex, lo, uf, us, fi, ki, ef, es, di, we, cf, cs, cm, tx, le, rr, wk, sh, fo, fl, el, ec, ke, kl, em, oe, be, pl, po, pb, wt, eb, lg, ro, fm, fL, ee, en, rfl, rfl, I⟩ := I
  have I0 := I
  obtain ⟨i1, i2, i3, i4, i5, i6, i7, i8, i9, i10, i11, i12, i13, i14, i15, i16, i17⟩ := I
  unfold wpX_normal
  rcases sn_text v1 with ⟨t, ht, rfl⟩ | ⟨h0, h1, h2⟩
  · obtain ⟨n, hn, hl⟩ := i3 t ht
    have hL : le (nI t).toNatClampNeg = nI n := by rw [nI_clamp (by omega), hl]
    refine xs_text1 ht (br_f (by decide) (xs_form (fun z => br_f (by decide) ⟨vp_in_nI ht (by decide), ?_⟩) (fun z => br_t rfl ?_)))
    · obtain ⟨f, hf, rfl⟩ := sc_Wn (n := 3) (by omega) (by decide) z
      obtain ⟨n1, n2⟩ := sc_nfG (cl := cl) ex i16 f (sc_ldA i4 t (n - 0) 0) (by rw [sc_ldL]; omega)
      rw [hL]
      refine x_form (b := 0) ht hn (by omega) (by omega) i4 i16 (fun wk1 hr1 => x_wbr n2 hr1 ?_)
      unfold wpY_normal
      refine ys_text1 ht (br_f (by decide) (ys_in (fun z' => br_f (by decide) ⟨vp_in_nI ht (by decide), ?_⟩) (fun z' => absurd z z')))
      rw [hL]
      refine y_load (b := 0) ht hn (by omega) (fun ro1 hq1 => y_norm (by omega) i10 i16 i15 (sc_ldA i4 t _ _) (by rw [sc_ldL]; omega) hq1 (fun ro2 hq2 => y_give n2 hq2 ⟨rfl, ?_⟩))
      exact sc_mk ⟨i1, ⟨_, n2, rfl⟩, i3, i4, sc_cpC (sc_atC n1) _ _ _ _ i5, i6, i7, i8, i9, i10, i11, i12, i13, i14, i15, i16, i17⟩
    · unfold wpY_normal
      exact ys_text1 ht (br_f (by decide) (ys_in (fun z' => absurd z' z) (fun z' => br_t rfl ⟨rfl, sc_mk I0⟩)))
  · refine xs_text0 h2 (br_t rfl ?_)
    unfold wpY_normal
    exact ys_text0 h0 h1 (br_t rfl ⟨rfl, sc_mk I0⟩)
theorem i_vc_isNormal {k : Nat} {u : SX} {v : SY} (I : i_Rel k u v) (hk : k + 5 ≤ 2560) (v1 : Int32) (v2 : Int32) : wpX_isNormal (fun r u' => wpY_isNormal (fun r' v' => r' = r ∧ i_Rel (k + 5) u' v') v v1 v2) u v1 v2 := by
  obtain ⟨cc, rl, wl, yn, cl, dt, df, ds, ex, lo, uf, us, fi, ki, ef, es, di, we, cf, cs, cm, tx, le, rr, wk, sh, fo, fl, el, ec, ke, kl, em, oe, be, pl, po, pb, wt, eb, lg, ro, fm, fL, ee, en, rfl, rfl, I⟩ := I
  have I0 := I
  obtain ⟨i1, i2, i3, i4, i5, i6, i7, i8, i9, i10, i11, i12, i13, i14, i15, i16, i17⟩ := I
  unfold wpX_isNormal
  rcases sn_text v1 with ⟨t, ht, rfl⟩ | ⟨h0, h1, h2⟩
  · obtain ⟨n, hn, hl⟩ := i3 t ht
    have hL : le (nI t).toNatClampNeg = nI n := by rw [nI_clamp (by omega), hl]
    refine xs_text1 ht (br_f (by decide) (xs_form (fun z => br_f (by decide) ⟨vp_in_nI ht (by decide), ?_⟩) (fun z => br_t rfl ?_)))
    · obtain ⟨f, hf, rfl⟩ := sc_Wn (n := 3) (by omega) (by decide) z
      obtain ⟨n1, n2⟩ := sc_nfG (cl := cl) ex i16 f (sc_ldA i4 t (n - 0) 0) (by rw [sc_ldL]; omega)
      rw [hL]
      refine x_form (b := 0) ht hn (by omega) (by omega) i4 i16 (fun wk1 hr1 => ⟨vp_in_nI ht (by decide), ?_⟩)
      rw [hL]
      by_cases e : (sc_nf cl dt df ds ex f (sc_ld tx t (n - 0) 0)).length = n
      · refine br_t (by rw [e]) (nm_r (sn_t16 t) ⟨n + 1, x_isn_l ht hl hn hr1 e (fun g => ?_) (fun g => ?_) n 0 (by omega) (fun j hj => absurd hj (by omega))⟩)
        · unfold wpY_isNormal
          refine ys_text1 ht (br_f (by decide) (ys_in (fun z' => br_f (by decide) ⟨vp_in_nI ht (by decide), ?_⟩) (fun z' => absurd z z')))
          rw [hL]
          refine y_load (b := 0) ht hn (by omega) (fun ro1 hq1 => y_norm (by omega) i10 i16 i15 (sc_ldA i4 t _ _) (by rw [sc_ldL]; omega) hq1 (fun ro2 hq2 => ⟨vp_in_nI ht (by decide), ?_⟩))
          rw [hL, e]
          exact br_t rfl ⟨n + 1, y_isn_l ht hn hq2 e (fun _ => ⟨rfl, sc_mk I0⟩) (fun y => absurd g y) n 0 (by omega) (fun j hj => absurd hj (by omega))⟩
        · unfold wpY_isNormal
          refine ys_text1 ht (br_f (by decide) (ys_in (fun z' => br_f (by decide) ⟨vp_in_nI ht (by decide), ?_⟩) (fun z' => absurd z z')))
          rw [hL]
          refine y_load (b := 0) ht hn (by omega) (fun ro1 hq1 => y_norm (by omega) i10 i16 i15 (sc_ldA i4 t _ _) (by rw [sc_ldL]; omega) hq1 (fun ro2 hq2 => ⟨vp_in_nI ht (by decide), ?_⟩))
          rw [hL, e]
          exact br_t rfl ⟨n + 1, y_isn_l ht hn hq2 e (fun y => absurd y g) (fun _ => ⟨rfl, sc_mk I0⟩) n 0 (by omega) (fun j hj => absurd hj (by omega))⟩
      · have ne : ¬ nI (sc_nf cl dt df ds ex f (sc_ld tx t (n - 0) 0)).length = nI n := fun y => e ((nI_eq (by omega) (by omega)).mp y)
        refine br_f ne ?_
        unfold wpY_isNormal
        refine ys_text1 ht (br_f (by decide) (ys_in (fun z' => br_f (by decide) ⟨vp_in_nI ht (by decide), ?_⟩) (fun z' => absurd z z')))
        rw [hL]
        refine y_load (b := 0) ht hn (by omega) (fun ro1 hq1 => y_norm (by omega) i10 i16 i15 (sc_ldA i4 t _ _) (by rw [sc_ldL]; omega) hq1 (fun ro2 hq2 => ⟨vp_in_nI ht (by decide), ?_⟩))
        rw [hL]
        exact br_f ne ⟨1, br_c (fun _ => ⟨rfl, rfl, sc_mk I0⟩) (fun _ => br_t rfl ⟨rfl, rfl, sc_mk I0⟩)⟩
    · unfold wpY_isNormal
      exact ys_text1 ht (br_f (by decide) (ys_in (fun z' => absurd z' z) (fun z' => br_t rfl ⟨rfl, sc_mk I0⟩)))
  · refine xs_text0 h2 (br_t rfl ?_)
    unfold wpY_isNormal
    exact ys_text0 h0 h1 (br_t rfl ⟨rfl, sc_mk I0⟩)
