/-! case: the loops -/
noncomputable def sc_ML (ki lo fi tx : Nat → Int32) (t n : Nat) : Nat → Nat → List Int32
  | 0, _ => []
  | d + 1, i => sc_lw ki lo fi tx t n i :: sc_ML ki lo fi tx t n d (i + 1)
def sc_MU (uf us tx : Nat → Int32) (t : Nat) : Nat → Nat → List Int32
  | 0, _ => []
  | d + 1, i => sc_uL uf us (tx (16 * t + i)) ++ sc_MU uf us tx t d (i + 1)
noncomputable def sc_MT (ki lo fi uf us tx : Nat → Int32) (t n : Nat) : Nat → Nat → Int32 → List Int32
  | 0, _, _ => []
  | d + 1, i, w =>
    if (if sc_q (sc_kd ki tx t) n 1 i = 0 then w else 1) = 0 ∨ ¬ sc_kd ki tx t i = 4
    then sc_lw ki lo fi tx t n i :: sc_MT ki lo fi uf us tx t n d (i + 1) (if sc_q (sc_kd ki tx t) n 1 i = 0 then w else 1)
    else sc_uL uf us (tx (16 * t + i)) ++ sc_MT ki lo fi uf us tx t n d (i + 1) 0
theorem sc_MLp {ki lo fi tx : Nat → Int32} (h1 : sc_Chr lo) (h2 : sc_Opt fi) (t n : Nat) : ∀ d i, sc_All (sc_ML ki lo fi tx t n d i) ∧ (sc_ML ki lo fi tx t n d i).length ≤ 2 * d := by
  intro d
  induction d with
  | zero => exact fun i => ⟨sc_All_nil, Nat.le_refl _⟩
  | succ d ih =>
    intro i
    obtain ⟨a, b⟩ := ih (i + 1)
    refine ⟨sc_All_cons.mpr ⟨sc_lwC h1 h2 t n i, a⟩, ?_⟩
    show (sc_ML ki lo fi tx t n d (i + 1)).length + 1 ≤ 2 * (d + 1)
    omega
theorem sc_MUp {uf us : Nat → Int32} (h1 : sc_Chr uf) (h2 : sc_Opt us) (tx : Nat → Int32) (t : Nat) : ∀ d i, sc_All (sc_MU uf us tx t d i) ∧ (sc_MU uf us tx t d i).length ≤ 2 * d := by
  intro d
  induction d with
  | zero => exact fun i => ⟨sc_All_nil, Nat.le_refl _⟩
  | succ d ih =>
    intro i
    obtain ⟨a, b⟩ := ih (i + 1)
    have := sc_uLl uf us (tx (16 * t + i))
    refine ⟨sc_All_app.mpr ⟨sc_uLA h1 h2 _, a⟩, ?_⟩
    show (sc_uL uf us (tx (16 * t + i)) ++ sc_MU uf us tx t d (i + 1)).length ≤ 2 * (d + 1)
    rw [List.length_append]; omega
theorem sc_MTp {ki lo fi uf us tx : Nat → Int32} (h1 : sc_Chr lo) (h2 : sc_Opt fi) (h3 : sc_Chr uf) (h4 : sc_Opt us) (t n : Nat) : ∀ d i w, sc_All (sc_MT ki lo fi uf us tx t n d i w) ∧ (sc_MT ki lo fi uf us tx t n d i w).length ≤ 2 * d := by
  intro d
  induction d with
  | zero => exact fun i w => ⟨sc_All_nil, Nat.le_refl _⟩
  | succ d ih =>
    intro i w
    unfold sc_MT
    generalize (if sc_q (sc_kd ki tx t) n 1 i = 0 then w else 1) = w'
    split
    · obtain ⟨a, b⟩ := ih (i + 1) w'
      refine ⟨sc_All_cons.mpr ⟨sc_lwC h1 h2 t n i, a⟩, ?_⟩
      rw [List.length_cons]; omega
    · obtain ⟨a, b⟩ := ih (i + 1) 0
      have := sc_uLl uf us (tx (16 * t + i))
      refine ⟨sc_All_app.mpr ⟨sc_uLA h3 h4 _, a⟩, ?_⟩
      rw [List.length_append]; omega
theorem sc_MT01 (ki lo fi uf us tx : Nat → Int32) (t n : Nat) : sc_MT ki lo fi uf us tx t n n 0 1 = sc_MT ki lo fi uf us tx t n n 0 0 := by
  cases n with
  | zero => rfl
  | succ n =>
    have q : ¬ sc_q (sc_kd ki tx t) (n + 1) 1 0 = 0 := by
      unfold sc_q
      rw [if_pos (Or.inl rfl), if_neg (by omega)]
      decide
    unfold sc_MT
    rw [if_neg q, if_neg q]
theorem sc_mapA {lo : Nat → Int32} (h : sc_Chr lo) (l : List Int32) : sc_All (l.map (fun x => lo x.toNatClampNeg)) := by
  intro x hx
  obtain ⟨y, -, rfl⟩ := List.mem_map.mp hx
  exact h _
section
variable {cc rl wl : Int32} {cl dt df ds ex lo uf us fi ki ef es di we cf cs cm tx le rr wk sh fo fl el ec ke kl em oe be pl po : Nat → Int32}
theorem x_ML {post : SX → Prop} {t n : Nat} (ht : t < 2) (htx : sc_Chr tx) (hn : n ≤ 16) (hl : le t = nI n) :
    ∀ (d i : Nat) (acc : List Int32) (wk : Nat → Int32), i + d = n → acc.length + 2 * d ≤ 64 → sc_Rp wk acc →
    (∀ wk, sc_Rp wk (acc ++ sc_ML ki lo fi tx t n d i) → post (cc, rl, nI (acc ++ sc_ML ki lo fi tx t n d i).length, cl, dt, df, ds, ex, lo, uf, us, fi, ki, ef, es, di, we, cf, cs, cm, tx, le, rr, wk, sh, fo, fl, el, ec, ke, kl, em, oe, be, pl, po)) → wX_makeLower_2 post (nI t) (d + 1) (nI i) cc rl (nI acc.length) cl dt df ds ex lo uf us fi ki ef es di we cf cs cm tx le rr wk sh fo fl el ec ke kl em oe be pl po := by
  have hL : le (nI t).toNatClampNeg = nI n := by rw [nI_clamp (by omega), hl]
  intro d
  induction d with
  | zero =>
    intro i acc wk hi ha hr h
    unfold sc_ML at h
    rw [List.append_nil] at h
    exact ⟨vp_in_nI ht (by decide), br_t (by rw [hL]; exact nI_le (by omega) (by omega)) (h wk hr)⟩
  | succ d ih =>
    intro i acc wk hi ha hr h
    refine ⟨vp_in_nI ht (by decide), br_f (by rw [hL]; exact nI_ge (by omega) (by omega)) (x_appLower ht htx hn hl (by omega) (by omega) hr (fun wk1 hr1 => nm_r (nI_1 i) ?_))⟩
    have g := ih (i + 1) (acc ++ [sc_lw ki lo fi tx t n i]) wk1 (by omega) (by rw [List.length_append]; show acc.length + 1 + 2 * d ≤ 64; omega) hr1
    rw [List.append_assoc, List.length_append (as := acc) (bs := [sc_lw ki lo fi tx t n i])] at g
    exact g h
theorem x_MU {post : SX → Prop} {t n : Nat} (ht : t < 2) (htx : sc_Chr tx) (hn : n ≤ 16) (hl : le t = nI n) :
    ∀ (d i : Nat) (acc : List Int32) (wk : Nat → Int32), i + d = n → acc.length + 2 * d ≤ 64 → sc_Rp wk acc →
    (∀ wk, sc_Rp wk (acc ++ sc_MU uf us tx t d i) → post (cc, rl, nI (acc ++ sc_MU uf us tx t d i).length, cl, dt, df, ds, ex, lo, uf, us, fi, ki, ef, es, di, we, cf, cs, cm, tx, le, rr, wk, sh, fo, fl, el, ec, ke, kl, em, oe, be, pl, po)) → wX_makeUpper_2 post (nI t) (d + 1) (nI i) cc rl (nI acc.length) cl dt df ds ex lo uf us fi ki ef es di we cf cs cm tx le rr wk sh fo fl el ec ke kl em oe be pl po := by
  have hL : le (nI t).toNatClampNeg = nI n := by rw [nI_clamp (by omega), hl]
  intro d
  induction d with
  | zero =>
    intro i acc wk hi ha hr h
    unfold sc_MU at h
    rw [List.append_nil] at h
    exact ⟨vp_in_nI ht (by decide), br_t (by rw [hL]; exact nI_le (by omega) (by omega)) (h wk hr)⟩
  | succ d ih =>
    intro i acc wk hi ha hr h
    refine ⟨vp_in_nI ht (by decide), br_f (by rw [hL]; exact nI_ge (by omega) (by omega)) (x_appUpper ht htx (by omega) (by omega) hr (fun wk1 hr1 => nm_r (nI_1 i) ?_))⟩
    have := sc_uLl uf us (tx (16 * t + i))
    have g := ih (i + 1) (acc ++ sc_uL uf us (tx (16 * t + i))) wk1 (by omega) (by rw [List.length_append]; omega) hr1
    rw [List.append_assoc] at g
    exact g h
theorem x_MT {post : SX → Prop} {t n : Nat} (ht : t < 2) (htx : sc_Chr tx) (hn : n ≤ 16) (hl : le t = nI n) :
    ∀ (d i : Nat) (w : Int32) (acc : List Int32) (wk : Nat → Int32), i + d = n → acc.length + 2 * d ≤ 64 → sc_Rp wk acc →
    (∀ wk, sc_Rp wk (acc ++ sc_MT ki lo fi uf us tx t n d i w) → post (cc, rl, nI (acc ++ sc_MT ki lo fi uf us tx t n d i w).length, cl, dt, df, ds, ex, lo, uf, us, fi, ki, ef, es, di, we, cf, cs, cm, tx, le, rr, wk, sh, fo, fl, el, ec, ke, kl, em, oe, be, pl, po)) →
    wX_makeTitle_12 post (nI t) (nI (sc_bm (sc_q (sc_kd ki tx t) n 1) (n + 1))) (d + 1) w (nI i) cc rl (nI acc.length) cl dt df ds ex lo uf us fi ki ef es di we cf cs cm tx le rr wk sh fo fl el ec ke kl em oe be pl po := by
  have hL : le (nI t).toNatClampNeg = nI n := by rw [nI_clamp (by omega), hl]
  have hb : sc_bm (sc_q (sc_kd ki tx t) n 1) (n + 1) < 2 ^ 31 := Nat.lt_of_lt_of_le (sc_bm_lt _ _) (Nat.pow_le_pow_right (by decide) (by omega))
  intro d
  induction d with
  | zero =>
    intro i w acc wk hi ha hr h
    unfold sc_MT at h
    rw [List.append_nil] at h
    exact ⟨vp_in_nI ht (by decide), br_t (by rw [hL]; exact nI_le (by omega) (by omega)) (h wk hr)⟩
  | succ d ih =>
    intro i w acc wk hi ha hr h
    unfold sc_MT at h
    have step : ∀ w', w' = (if sc_q (sc_kd ki tx t) n 1 i = 0 then w else 1) → wX_makeTitle_35 post (wX_makeTitle_12 post (nI t) (nI (sc_bm (sc_q (sc_kd ki tx t) n 1) (n + 1))) (d + 1)) (nI t) (nI (sc_bm (sc_q (sc_kd ki tx t) n 1) (n + 1))) w' (nI i) cc rl (nI acc.length) cl dt df ds ex lo uf us fi ki ef es di we cf cs cm tx le rr wk sh fo fl el ec ke kl em oe be pl po := by
      intro w' ew
      rw [← ew] at h
      have low : (w' = 0 ∨ ¬ sc_kd ki tx t i = 4) → wX_makeTitle_62 post (wX_makeTitle_12 post (nI t) (nI (sc_bm (sc_q (sc_kd ki tx t) n 1) (n + 1))) (d + 1)) (nI t) (nI (sc_bm (sc_q (sc_kd ki tx t) n 1) (n + 1))) w' (nI i) cc rl (nI acc.length) cl dt df ds ex lo uf us fi ki ef es di we cf cs cm tx le rr wk sh fo fl el ec ke kl em oe be pl po := by
        intro z
        rw [if_pos z] at h
        unfold wX_makeTitle_62
        refine x_appLower ht htx hn hl (by omega) (by omega) hr (fun wk1 hr1 => nm_r (nI_1 i) ?_)
        have g := ih (i + 1) w' (acc ++ [sc_lw ki lo fi tx t n i]) wk1 (by omega) (by rw [List.length_append]; show acc.length + 1 + 2 * d ≤ 64; omega) hr1
        rw [List.append_assoc, List.length_append (as := acc) (bs := [sc_lw ki lo fi tx t n i])] at g
        exact g h
      refine br_c (fun a => low (Or.inl a)) (fun a => x_kindAt ht (by omega) htx (br_c (fun b => ?_) (fun b => low (Or.inr b))))
      rw [if_neg (fun z => z.elim a (fun y => y b))] at h
      refine x_appUpper ht htx (by omega) (by omega) hr (fun wk1 hr1 => nm_r (nI_1 i) ?_)
      have := sc_uLl uf us (tx (16 * t + i))
      have g := ih (i + 1) 0 (acc ++ sc_uL uf us (tx (16 * t + i))) wk1 (by omega) (by rw [List.length_append]; omega) hr1
      rw [List.append_assoc] at g
      exact g h
    refine ⟨vp_in_nI ht (by decide), br_f (by rw [hL]; exact nI_ge (by omega) (by omega)) (x_isIn (by omega) hb (fun z => br_f (by decide) (step 1 ?_)) (fun z => br_t rfl (step w ?_)))⟩
    · rw [sc_bm_bit, decide_eq_true_iff] at z
      rw [if_neg z.2]
    · rw [sc_bm_bit, decide_eq_false_iff_not] at z
      by_cases q : sc_q (sc_kd ki tx t) n 1 i = 0
      · rw [if_pos q]
      · exact absurd ⟨by omega, q⟩ z
theorem x_fold_l {post : SX → Prop} {N : Nat} (hN : N ≤ 64) :
    ∀ (rest pre : List Int32) (wk : Nat → Int32), pre.length + rest.length = N → sc_All rest → sc_Rp wk (pre ++ rest) →
    (∀ wk, sc_Rp wk (pre ++ rest.map (fun x => lo x.toNatClampNeg)) → post (cc, rl, nI N, cl, dt, df, ds, ex, lo, uf, us, fi, ki, ef, es, di, we, cf, cs, cm, tx, le, rr, wk, sh, fo, fl, el, ec, ke, kl, em, oe, be, pl, po)) → wX_makeFolded_7 post cc rl (nI N) (rest.length + 1) (nI pre.length) cl dt df ds ex lo uf us fi ki ef es di we cf cs cm tx le rr wk sh fo fl el ec ke kl em oe be pl po := by
  intro rest
  induction rest with
  | nil =>
    intro pre wk hl hA hr h
    have hl' : pre.length + 0 = N := hl
    exact br_t (nI_le (by omega) (by omega)) (h wk hr)
  | cons x rest ih =>
    intro pre wk hl hA hr h
    have hl' : pre.length + (rest.length + 1) = N := hl
    obtain ⟨hx, hB⟩ := sc_All_cons.mp hA
    have ew : wk (nI pre.length).toNatClampNeg = x := by rw [nI_clamp (by omega)]; exact sc_Rp_mid hr
    have v : vp_in (nI pre.length) 64 := vp_in_nI (by omega) (by decide)
    refine br_f (nI_ge (by omega) (by omega)) ⟨v, by rw [ew]; exact hx, v, nm_r (e' := upd wk pre.length (lo x.toNatClampNeg)) (by rw [ew, nI_clamp (by omega)]) (nm_r (nI_1 _) ?_)⟩
    have g := ih (pre ++ [lo x.toNatClampNeg]) (upd wk pre.length (lo x.toNatClampNeg)) (by rw [List.length_append]; show pre.length + 1 + rest.length = N; omega) hB (by rw [List.append_assoc]; exact sc_Rp_set _ hr)
    rw [List.append_assoc, List.length_append (as := pre) (bs := [lo x.toNatClampNeg])] at g
    exact g h
end
section
variable {cc rl yn : Int32} {cl dt df pb lo uf us fi ki wt ef eb di ex cf cs cm lg tx le rr ro fm fL ee en ye lv se pg ou : Nat → Int32}
theorem y_c65 {post : Int32 → SY → Prop} {J : _} {p1 p2 w p4 c : Int32} (hc : vp_in c 48)
    (h0 : w = 0 ∨ ¬ ki c.toNatClampNeg = 4 → wY_cased_94 post J p1 p2 w p4 c 0 cc rl yn cl dt df pb lo uf us fi ki wt ef eb di ex cf cs cm lg tx le rr ro fm fL ee en ye lv se pg ou) (h1 : ¬ w = 0 → ki c.toNatClampNeg = 4 → wY_cased_94 post J p1 p2 0 p4 c 1 cc rl yn cl dt df pb lo uf us fi ki wt ef eb di ex cf cs cm lg tx le rr ro fm fL ee en ye lv se pg ou) : wY_cased_65 post J p1 p2 w p4 c cc rl yn cl dt df pb lo uf us fi ki wt ef eb di ex cf cs cm lg tx le rr ro fm fL ee en ye lv se pg ou := by
  unfold wY_cased_65
  exact br_c (fun a => br_t rfl (h0 (Or.inl a))) (fun a => ⟨hc, br_c (fun b => br_f (by decide) (h1 a b)) (fun b => br_t rfl (h0 (Or.inr b)))⟩)
theorem y_c28 {post : Int32 → SY → Prop} {t n i m : Nat} {p2 w : Int32} (ht : t < 2) (htx : sc_Chr tx) (hn : n ≤ 16) (hl : le t = nI n) (hi : i < n)
    (h : ∀ w', w' = (if sc_q (sc_kd ki tx t) n 1 i = 0 then w else 1) → wY_cased_65 post (wY_cased_28 post (nI t) p2 m) (nI t) p2 w' (nI i) (tx (16 * t + i)) cc rl yn cl dt df pb lo uf us fi ki wt ef eb di ex cf cs cm lg tx le rr ro fm fL ee en ye lv se pg ou) : wY_cased_28 post (nI t) p2 (m + 1) w (nI i) cc rl yn cl dt df pb lo uf us fi ki wt ef eb di ex cf cs cm lg tx le rr ro fm fL ee en ye lv se pg ou := by
  have hL : le (nI t).toNatClampNeg = nI n := by rw [nI_clamp (by omega), hl]
  have e : 16 * nI t + nI i = nI (16 * t + i) := sn_16 t i
  have c : (16 * nI t + nI i).toNatClampNeg = 16 * t + i := by rw [e, nI_clamp (by omega)]
  refine ⟨vp_in_nI ht (by decide), br_f (by rw [hL]; exact nI_ge hi (by omega)) ⟨pk_in (16 * t + i) 32 (by omega) e, nm_r (e' := tx (16 * t + i)) (by rw [c]) (y_word (kd := 1) (by decide) ht htx hn hl (by omega) (br_c (fun a => h w ?_) (fun a => h 1 ?_)))⟩⟩
  · rw [if_pos a]
  · rw [if_neg a]
theorem y_c28e {post : Int32 → SY → Prop} {t n m : Nat} {p2 w : Int32} {l : List Int32} (ht : t < 2) (hn : n ≤ 16) (hl : le t = nI n) (hN : l.length ≤ 64) (hr : sc_Rp ro l)
    (h : post (nI l.length) (cc, nI l.length, nI l.length, cl, dt, df, pb, lo, uf, us, fi, ki, wt, ef, eb, di, ex, cf, cs, cm, lg, tx, le, sc_cp (sc_at l) 0 l.length 0 rr, ro, fm, fL, ee, en, ye, lv, se, pg, ou)) : wY_cased_28 post (nI t) p2 (m + 1) w (nI n) cc rl (nI l.length) cl dt df pb lo uf us fi ki wt ef eb di ex cf cs cm lg tx le rr ro fm fL ee en ye lv se pg ou := by
  have hL : le (nI t).toNatClampNeg = nI n := by rw [nI_clamp (by omega), hl]
  exact ⟨vp_in_nI ht (by decide), br_t (by rw [hL]; exact nI_le (by omega) (by omega)) (y_give hN hr h)⟩
theorem y_ML {post : Int32 → SY → Prop} {t n : Nat} (ht : t < 2) (htx : sc_Chr tx) (hfi : sc_Opt fi) (hn : n ≤ 16) (hl : le t = nI n) :
    ∀ (d i : Nat) (w : Int32) (acc : List Int32) (ro : Nat → Int32), i + d = n → acc.length + 2 * d ≤ 64 → (acc ++ sc_ML ki lo fi tx t n d i).length ≤ 64 → sc_Rp ro acc →
    post (nI (acc ++ sc_ML ki lo fi tx t n d i).length) (cc, nI (acc ++ sc_ML ki lo fi tx t n d i).length, nI (acc ++ sc_ML ki lo fi tx t n d i).length, cl, dt, df, pb, lo, uf, us, fi, ki, wt, ef, eb, di, ex, cf, cs, cm, lg, tx, le, sc_cp (sc_at (acc ++ sc_ML ki lo fi tx t n d i)) 0 (acc ++ sc_ML ki lo fi tx t n d i).length 0 rr, ro, fm, fL, ee, en, ye, lv, se, pg, ou) ∨ True →
    (∀ ro, post (nI (acc ++ sc_ML ki lo fi tx t n d i).length) (cc, nI (acc ++ sc_ML ki lo fi tx t n d i).length, nI (acc ++ sc_ML ki lo fi tx t n d i).length, cl, dt, df, pb, lo, uf, us, fi, ki, wt, ef, eb, di, ex, cf, cs, cm, lg, tx, le, sc_cp (sc_at (acc ++ sc_ML ki lo fi tx t n d i)) 0 (acc ++ sc_ML ki lo fi tx t n d i).length 0 rr, ro, fm, fL, ee, en, ye, lv, se, pg, ou)) →
    wY_cased_28 post (nI t) 0 (d + 1) w (nI i) cc rl (nI acc.length) cl dt df pb lo uf us fi ki wt ef eb di ex cf cs cm lg tx le rr ro fm fL ee en ye lv se pg ou := by
  intro d
  induction d with
  | zero =>
    intro i w acc ro hi ha hb hr _ h
    obtain rfl : i = n := by omega
    unfold sc_ML at h hb
    rw [List.append_nil] at h hb
    exact y_c28e ht hn hl hb hr (h ro)
  | succ d ih =>
    intro i w acc ro hi ha hb hr _ h
    have low : ∀ w', wY_cased_133 post (wY_cased_28 post (nI t) 0 (d + 1)) (nI t) 0 w' (nI i) cc rl (nI acc.length) cl dt df pb lo uf us fi ki wt ef eb di ex cf cs cm lg tx le rr ro fm fL ee en ye lv se pg ou := by
      intro w'
      unfold wY_cased_133
      refine y_addLower ht htx hfi hn hl (by omega) (by omega) hr (fun ro1 hr1 => nm_r (nI_1 i) ?_)
      have g := ih (i + 1) w' (acc ++ [sc_lw ki lo fi tx t n i]) ro1 (by omega) (by rw [List.length_append]; show acc.length + 1 + 2 * d ≤ 64; omega)
      rw [List.append_assoc, List.length_append (as := acc) (bs := [sc_lw ki lo fi tx t n i])] at g
      exact g hb hr1 (Or.inr trivial) h
    exact y_c28 ht htx hn hl (by omega) (fun w' _ => y_c65 (htx _) (fun _ => br_f (by decide) (br_f (by decide) (br_f (by decide) (low w')))) (fun _ _ => br_f (by decide) (br_f (by decide) (br_f (by decide) (low 0)))))
theorem y_MU {post : Int32 → SY → Prop} {t n : Nat} (ht : t < 2) (htx : sc_Chr tx) (hus : sc_Opt us) (hn : n ≤ 16) (hl : le t = nI n) :
    ∀ (d i : Nat) (w : Int32) (acc : List Int32) (ro : Nat → Int32), i + d = n → acc.length + 2 * d ≤ 64 → (acc ++ sc_MU uf us tx t d i).length ≤ 64 → sc_Rp ro acc →
    (∀ ro, post (nI (acc ++ sc_MU uf us tx t d i).length) (cc, nI (acc ++ sc_MU uf us tx t d i).length, nI (acc ++ sc_MU uf us tx t d i).length, cl, dt, df, pb, lo, uf, us, fi, ki, wt, ef, eb, di, ex, cf, cs, cm, lg, tx, le, sc_cp (sc_at (acc ++ sc_MU uf us tx t d i)) 0 (acc ++ sc_MU uf us tx t d i).length 0 rr, ro, fm, fL, ee, en, ye, lv, se, pg, ou)) →
    wY_cased_28 post (nI t) 1 (d + 1) w (nI i) cc rl (nI acc.length) cl dt df pb lo uf us fi ki wt ef eb di ex cf cs cm lg tx le rr ro fm fL ee en ye lv se pg ou := by
  intro d
  induction d with
  | zero =>
    intro i w acc ro hi ha hb hr h
    obtain rfl : i = n := by omega
    unfold sc_MU at h hb
    rw [List.append_nil] at h hb
    exact y_c28e ht hn hl hb hr (h ro)
  | succ d ih =>
    intro i w acc ro hi ha hb hr h
    have upp : ∀ w', wY_cased_114 post (wY_cased_28 post (nI t) 1 (d + 1)) (nI t) 1 w' (nI i) (tx (16 * t + i)) cc rl (nI acc.length) cl dt df pb lo uf us fi ki wt ef eb di ex cf cs cm lg tx le rr ro fm fL ee en ye lv se pg ou := by
      intro w'
      refine br_f (by decide) ?_
      unfold wY_cased_127
      refine y_addUpper0 (htx _) hus (by omega) hr (fun ro1 hr1 => nm_r (nI_1 i) ?_)
      have := sc_uLl uf us (tx (16 * t + i))
      have g := ih (i + 1) w' (acc ++ sc_uL uf us (tx (16 * t + i))) ro1 (by omega) (by rw [List.length_append]; omega)
      rw [List.append_assoc] at g
      exact g hb hr1 h
    exact y_c28 ht htx hn hl (by omega) (fun w' _ => y_c65 (htx _) (fun _ => br_t rfl (upp w')) (fun _ _ => br_t rfl (upp 0)))
theorem y_MF {post : Int32 → SY → Prop} {t n : Nat} (ht : t < 2) (htx : sc_Chr tx) (huf : sc_Chr uf) (hus : sc_Opt us) (hn : n ≤ 16) (hl : le t = nI n) :
    ∀ (d i : Nat) (w : Int32) (acc : List Int32) (ro : Nat → Int32), i + d = n → acc.length + 2 * d ≤ 64 → (acc ++ (sc_MU uf us tx t d i).map (fun x => lo x.toNatClampNeg)).length ≤ 64 → sc_Rp ro acc →
    (∀ ro, post (nI (acc ++ (sc_MU uf us tx t d i).map (fun x => lo x.toNatClampNeg)).length) (cc, nI (acc ++ (sc_MU uf us tx t d i).map (fun x => lo x.toNatClampNeg)).length, nI (acc ++ (sc_MU uf us tx t d i).map (fun x => lo x.toNatClampNeg)).length, cl, dt, df, pb, lo, uf, us, fi, ki, wt, ef, eb, di, ex, cf, cs, cm, lg, tx, le, sc_cp (sc_at (acc ++ (sc_MU uf us tx t d i).map (fun x => lo x.toNatClampNeg))) 0 (acc ++ (sc_MU uf us tx t d i).map (fun x => lo x.toNatClampNeg)).length 0 rr, ro, fm, fL, ee, en, ye, lv, se, pg, ou)) →
    wY_cased_28 post (nI t) 3 (d + 1) w (nI i) cc rl (nI acc.length) cl dt df pb lo uf us fi ki wt ef eb di ex cf cs cm lg tx le rr ro fm fL ee en ye lv se pg ou := by
  intro d
  induction d with
  | zero =>
    intro i w acc ro hi ha hb hr h
    obtain rfl : i = n := by omega
    unfold sc_MU at h hb
    rw [List.map_nil, List.append_nil] at h hb
    exact y_c28e ht hn hl hb hr (h ro)
  | succ d ih =>
    intro i w acc ro hi ha hb hr h
    have upp : ∀ w', wY_cased_114 post (wY_cased_28 post (nI t) 3 (d + 1)) (nI t) 3 w' (nI i) (tx (16 * t + i)) cc rl (nI acc.length) cl dt df pb lo uf us fi ki wt ef eb di ex cf cs cm lg tx le rr ro fm fL ee en ye lv se pg ou := by
      intro w'
      refine br_t rfl ?_
      unfold wY_cased_127
      refine y_addUpper1 (htx _) huf hus (by omega) hr (fun ro1 hr1 => nm_r (nI_1 i) ?_)
      have := sc_uLl uf us (tx (16 * t + i))
      have g := ih (i + 1) w' (acc ++ (sc_uL uf us (tx (16 * t + i))).map (fun x => lo x.toNatClampNeg)) ro1 (by omega) (by rw [List.length_append, List.length_map]; omega)
      rw [List.append_assoc, ← List.map_append] at g
      exact g hb hr1 h
    exact y_c28 ht htx hn hl (by omega) (fun w' _ => y_c65 (htx _) (fun _ => br_f (by decide) (br_t rfl (upp w'))) (fun _ _ => br_f (by decide) (br_t rfl (upp 0))))
theorem y_MT {post : Int32 → SY → Prop} {t n : Nat} (ht : t < 2) (htx : sc_Chr tx) (hfi : sc_Opt fi) (hus : sc_Opt us) (hn : n ≤ 16) (hl : le t = nI n) :
    ∀ (d i : Nat) (w : Int32) (acc : List Int32) (ro : Nat → Int32), i + d = n → acc.length + 2 * d ≤ 64 → (acc ++ sc_MT ki lo fi uf us tx t n d i w).length ≤ 64 → sc_Rp ro acc →
    (∀ ro, post (nI (acc ++ sc_MT ki lo fi uf us tx t n d i w).length) (cc, nI (acc ++ sc_MT ki lo fi uf us tx t n d i w).length, nI (acc ++ sc_MT ki lo fi uf us tx t n d i w).length, cl, dt, df, pb, lo, uf, us, fi, ki, wt, ef, eb, di, ex, cf, cs, cm, lg, tx, le, sc_cp (sc_at (acc ++ sc_MT ki lo fi uf us tx t n d i w)) 0 (acc ++ sc_MT ki lo fi uf us tx t n d i w).length 0 rr, ro, fm, fL, ee, en, ye, lv, se, pg, ou)) →
    wY_cased_28 post (nI t) 2 (d + 1) w (nI i) cc rl (nI acc.length) cl dt df pb lo uf us fi ki wt ef eb di ex cf cs cm lg tx le rr ro fm fL ee en ye lv se pg ou := by
  intro d
  induction d with
  | zero =>
    intro i w acc ro hi ha hb hr h
    obtain rfl : i = n := by omega
    unfold sc_MT at h hb
    rw [List.append_nil] at h hb
    exact y_c28e ht hn hl hb hr (h ro)
  | succ d ih =>
    intro i w acc ro hi ha hb hr h
    unfold sc_MT at h hb
    refine y_c28 ht htx hn hl (by omega) (fun w' ew => ?_)
    rw [← ew] at h hb
    refine y_c65 (htx _) (fun z => br_f (by decide) (br_f (by decide) (br_t rfl (br_t rfl ?_)))) (fun a b => br_f (by decide) (br_f (by decide) (br_t rfl (br_f (by decide) (br_f (by decide) ?_)))))
    · have z' : w' = 0 ∨ ¬ sc_kd ki tx t i = 4 := z
      rw [if_pos z'] at h hb
      unfold wY_cased_133
      refine y_addLower ht htx hfi hn hl (by omega) (by omega) hr (fun ro1 hr1 => nm_r (nI_1 i) ?_)
      have g := ih (i + 1) w' (acc ++ [sc_lw ki lo fi tx t n i]) ro1 (by omega) (by rw [List.length_append]; show acc.length + 1 + 2 * d ≤ 64; omega)
      rw [List.append_assoc, List.length_append (as := acc) (bs := [sc_lw ki lo fi tx t n i])] at g
      exact g hb hr1 h
    · have z' : ¬ (w' = 0 ∨ ¬ sc_kd ki tx t i = 4) := fun z => z.elim a (fun y => y b)
      rw [if_neg z'] at h hb
      unfold wY_cased_127
      refine y_addUpper0 (htx _) hus (by omega) hr (fun ro1 hr1 => nm_r (nI_1 i) ?_)
      have := sc_uLl uf us (tx (16 * t + i))
      have g := ih (i + 1) 0 (acc ++ sc_uL uf us (tx (16 * t + i))) ro1 (by omega) (by rw [List.length_append]; omega)
      rw [List.append_assoc] at g
      exact g hb hr1 h
end
theorem i_vc_cased {k : Nat} {u : SX} {v : SY} (I : i_Rel k u v) (hk : k + 5 ≤ 2560) (v1 : Int32) (v2 : Int32) : wpX_cased (fun r u' => wpY_cased (fun r' v' => r' = r ∧ i_Rel (k + 5) u' v') v v1 v2) u v1 v2 := by
  obtain ⟨cc, rl, wl, yn, cl, dt, df, ds, ex, lo, uf, us, fi, ki, ef, es, di, we, cf, cs, cm, tx, le, rr, wk, sh, fo, fl, el, ec, ke, kl, em, oe, be, pl, po, pb, wt, eb, lg, ro, fm, fL, ee, en, rfl, rfl, I⟩ := I
  have I0 := I
  obtain ⟨i1, i2, i3, i4, i5, i6, i7, i8, i9, i10, i11, i12, i13, i14, i15, i16, i17⟩ := I
  unfold wpX_cased
  rcases sn_text v1 with ⟨t, ht, rfl⟩ | ⟨h0, h1, h2⟩
  rotate_left
  · refine xs_text0 h2 (br_t rfl ?_)
    unfold wpY_cased
    exact ys_text0 h0 h1 (br_t rfl ⟨rfl, sc_mk I0⟩)
  obtain ⟨n, hn, hl⟩ := i3 t ht
  have bad : ¬ sc_W v2 0 3 → wpY_cased (fun r' v' => r' = -1 ∧ i_Rel (k + 5) (cc, rl, wl, cl, dt, df, ds, ex, lo, uf, us, fi, ki, ef, es, di, we, cf, cs, cm, tx, le, rr, wk, sh, fo, fl, el, ec, ke, kl, em, oe, be, pl, po) v') (cc, rl, yn, cl, dt, df, pb, lo, uf, us, fi, ki, wt, ef, eb, di, ex, cf, cs, cm, lg, tx, le, rr, ro, fm, fL, ee, en, em, pl, be, po, oe) (nI t) v2 := by
    intro z
    unfold wpY_cased
    exact ys_text1 ht (br_f (by decide) (ys_in (fun y => absurd y z) (fun _ => br_t rfl ⟨rfl, sc_mk I0⟩)))
  have fin : ∀ l : List Int32, sc_All l → l.length ≤ 64 → ∀ wk ro, i_Rel (k + 5) (cc, nI l.length, nI l.length, cl, dt, df, ds, ex, lo, uf, us, fi, ki, ef, es, di, we, cf, cs, cm, tx, le, sc_cp (sc_at l) 0 l.length 0 rr, wk, sh, fo, fl, el, ec, ke, kl, em, oe, be, pl, po) (cc, nI l.length, nI l.length, cl, dt, df, pb, lo, uf, us, fi, ki, wt, ef, eb, di, ex, cf, cs, cm, lg, tx, le, sc_cp (sc_at l) 0 l.length 0 rr, ro, fm, fL, ee, en, em, pl, be, po, oe) :=
    fun l n1 n2 wk ro => sc_mk ⟨i1, ⟨_, n2, rfl⟩, i3, i4, sc_cpC (sc_atC n1) _ _ _ _ i5, i6, i7, i8, i9, i10, i11, i12, i13, i14, i15, i16, i17⟩
  refine xs_text1 ht (br_f (by decide) (br_c (fun z => bad (fun y => y.1 z)) (fun z => br_c (fun y => ?_) (fun y => bad (fun w => w.2 (Int32.not_le.mp y))))))
  obtain ⟨f, hf, rfl⟩ := sc_Wn (n := 3) (by omega) (by decide) (⟨z, Int32.not_lt.mpr y⟩ : sc_W v2 0 3)
  have w3 : sc_W (nI f) 0 3 := ⟨z, Int32.not_lt.mpr y⟩
  match f, hf with
  | 0, _ =>
    obtain ⟨n1, n2⟩ := sc_MLp (ki := ki) (tx := tx) i6 i9 t n n 0
    refine br_t rfl ⟨n + 1, x_ML ht i4 hn hl n 0 [] wk (by omega) (by simp; omega) (sc_Rp0 _) (fun wk1 hr1 => x_wbr (by simp; omega) hr1 ?_)⟩
    unfold wpY_cased
    refine ys_text1 ht (br_f (by decide) (ys_in (fun _ => br_f (by decide) ⟨n + 1, ?_⟩) (fun y => absurd w3 y)))
    exact y_ML ht i4 i9 hn hl n 0 1 [] ro (by omega) (by simp; omega) (by simp; omega) (sc_Rp0 _) (Or.inr trivial) (fun ro1 => ⟨rfl, fin _ n1 (by omega) _ _⟩)
  | 1, _ =>
    obtain ⟨n1, n2⟩ := sc_MUp i7 i8 tx t n 0
    refine br_f (by decide) (br_t rfl ⟨n + 1, x_MU ht i4 hn hl n 0 [] wk (by omega) (by simp; omega) (sc_Rp0 _) (fun wk1 hr1 => x_wbr (by simp; omega) hr1 ?_)⟩)
    unfold wpY_cased
    refine ys_text1 ht (br_f (by decide) (ys_in (fun _ => br_f (by decide) ⟨n + 1, ?_⟩) (fun y => absurd w3 y)))
    exact y_MU ht i4 i8 hn hl n 0 1 [] ro (by omega) (by simp; omega) (by simp; omega) (sc_Rp0 _) (fun ro1 => ⟨rfl, fin _ n1 (by omega) _ _⟩)
  | 2, _ =>
    obtain ⟨n1, n2⟩ := sc_MTp (ki := ki) (tx := tx) i6 i9 i7 i8 t n n 0 0
    refine br_f (by decide) (br_f (by decide) (br_t rfl ?_))
    unfold wpX_makeTitle
    refine x_findBreaks ht i4 hn hl ⟨n + 1, x_MT ht i4 hn hl n 0 0 [] wk (by omega) (by simp; omega) (sc_Rp0 _) (fun wk1 hr1 => x_wbr (by simp; omega) hr1 ?_)⟩
    unfold wpY_cased
    refine ys_text1 ht (br_f (by decide) (ys_in (fun _ => br_f (by decide) ⟨n + 1, ?_⟩) (fun y => absurd w3 y)))
    refine y_MT ht i4 i9 i8 hn hl n 0 1 [] ro (by omega) (by simp; omega) (by rw [sc_MT01]; simp; omega) (sc_Rp0 _) (fun ro1 => ?_)
    rw [sc_MT01]
    exact ⟨rfl, fin _ n1 (by omega) _ _⟩
  | 3, _ =>
    obtain ⟨n1, n2⟩ := sc_MUp i7 i8 tx t n 0
    refine br_f (by decide) (br_f (by decide) (br_f (by decide) ?_))
    unfold wpX_makeFolded
    refine ⟨n + 1, x_MU ht i4 hn hl n 0 [] wk (by omega) (by simp; omega) (sc_Rp0 _) (fun wk1 hr1 => ?_)⟩
    have lm : ((sc_MU uf us tx t n 0).map (fun x => lo x.toNatClampNeg)).length = (sc_MU uf us tx t n 0).length := List.length_map ..
    refine ⟨_, x_fold_l (N := (sc_MU uf us tx t n 0).length) (by omega) (sc_MU uf us tx t n 0) [] wk1 (by simp) n1 hr1 (fun wk2 hr2 => ?_)⟩
    unfold wX_cased_67
    rw [← lm]
    refine x_wbr (by omega) hr2 ?_
    unfold wpY_cased
    refine ys_text1 ht (br_f (by decide) (ys_in (fun _ => br_f (by decide) ⟨n + 1, ?_⟩) (fun y => absurd w3 y)))
    exact y_MF ht i4 i7 i8 hn hl n 0 1 [] ro (by omega) (by simp; omega) (by simp; omega) (sc_Rp0 _) (fun ro1 => ⟨rfl, fin _ (sc_mapA i6 _) (by omega) _ _⟩)
