/-! runs one after another; level -/
def sc_rb (em : Nat → Int32) (b : Int32) (s : Nat) : Int32 := if s = 0 then b else em (s - 1)
def sc_ra (em : Nat → Int32) (n : Nat) (b : Int32) (e : Nat) : Int32 := if e < n then em e else b
def sc_B1 (em : Nat → Int32) (b : Int32) (s : Nat) : Int32 := sc_pa (sc_mx (sc_rb em b s) (em s))
def sc_B2 (em : Nat → Int32) (n : Nat) (b : Int32) (s e : Nat) : Int32 := sc_pa (sc_mx (sc_ra em n b e) (em s))
def sc_rn1 (em : Nat → Int32) (n : Nat) (b : Int32) (s e : Nat) (be : Nat → Int32) : Nat → Int32 :=
  sc_nt s e (em s) (sc_B1 em b s) (sc_B2 em n b s e) (e - s + 2) s (sc_s1 (e - s) s be (sc_B1 em b s))
def sc_rn2 (em : Nat → Int32) (n : Nat) (b : Int32) (s e : Nat) (be pl : Nat → Int32) : Nat → Int32 := sc_lv (em s) (sc_rn1 em n b s e be) (e - s) s pl
theorem sc_rn1P {em : Nat → Int32} {n : Nat} {b : Int32} {s e : Nat} {be : Nat → Int32} (hs : s < e) (he : e ≤ n) (h4 : ∀ j, j < n → vp_in (be j) 4) :
    (∀ j, j < n → vp_in (sc_rn1 em n b s e be j) 4) ∧ (∀ j, s ≤ j → j < e → vp_in (sc_rn1 em n b s e be j) 3) :=
  sc_ntP (sc_pa01 _) he (e - s + 2) s _ (Nat.le_refl _) (by omega) (sc_s1P _ _ _ _ h4) (fun j h1 h2 => absurd h2 (by omega)) (by omega)
section
variable {cc rl wl : Int32} {cl dt df ds ex lo uf us fi ki ef es di we cf cs cm tx le rr wk sh fo fl el ec ke kl em oe be pl po : Nat → Int32}
theorem x_nt0 {post : SX → Prop} {fr e : Nat} {own bB bE : Int32} (he : e ≤ 16) (hB : bB = 0 ∨ bB = 1) (hem : ∀ j, fr ≤ j → j < e → em j = own)
    (f : Nat) (be : Nat → Int32) (hk2 : fr ≤ e) (hf : e + 1 ≤ f + fr) (h4 : ∀ j, j < e → vp_in (be j) 4)
    (h : post (cc, rl, wl, cl, dt, df, ds, ex, lo, uf, us, fi, ki, ef, es, di, we, cf, cs, cm, tx, le, rr, wk, sh, fo, fl, el, ec, ke, kl, em, oe, sc_nt fr e own bB bE f fr be, pl, po)) (n : Nat) (hn : e < n + fr) : wX_settleNeutrals_6 post (nI e) bE cc rl wl n bB (nI fr) cl dt df ds ex lo uf us fi ki ef es di we cf cs cm tx le rr wk sh fo fl el ec ke kl em oe be pl po := by
  have g := x_nt_l he hB hem f fr be (Nat.le_refl _) hk2 hf h4 (fun z => absurd rfl z) h n hn
  have eb : sc_bg fr bB be fr = bB := if_pos rfl
  rw [eb] at g
  exact g
theorem x_run {post : SX → Prop} {n s e : Nat} {b : Int32} (hs : s < e) (he : e ≤ n) (hn : n ≤ 16) (hem : ∀ j, s ≤ j → j < e → em j = em s) (h4 : ∀ j, j < n → vp_in (be j) 4)
    (h : post (cc, rl, wl, cl, dt, df, ds, ex, lo, uf, us, fi, ki, ef, es, di, we, cf, cs, cm, tx, le, rr, wk, sh, fo, fl, el, ec, ke, kl, em, oe, sc_rn1 em n b s e be, sc_rn2 em n b s e be pl, po)) : wpX_findRunLevels post (cc, rl, wl, cl, dt, df, ds, ex, lo, uf, us, fi, ki, ef, es, di, we, cf, cs, cm, tx, le, rr, wk, sh, fo, fl, el, ec, ke, kl, em, oe, be, pl, po) (nI s) (nI e) (nI n) b := by
  have c : (nI s).toNatClampNeg = s := nI_clamp (by omega)
  have m80 : wX_findRunLevels_80 post (nI s) (nI e) (em s) (sc_B1 em b s) (sc_mx (sc_ra em n b e) (em s)) cc rl wl cl dt df ds ex lo uf us fi ki ef es di we cf cs cm tx le rr wk sh fo fl el ec ke kl em oe be pl po := by
    unfold wX_findRunLevels_80
    refine x_bearing ?_
    unfold wpX_settleNumbers
    refine ⟨e - s + 1, x_s1_l (by omega) (e - s) s _ be (by omega) ?_⟩
    unfold wpX_settleNeutrals
    exact ⟨e - s + 1, x_nt0 (by omega) (sc_pa01 _) hem (e - s + 2) _ (by omega) (by omega) (sc_s1P _ _ _ _ (fun j hj => h4 j (by omega))) ⟨e - s + 1, x_lv_l (by omega) (e - s) s pl (by omega) h⟩ (e - s + 1) (by omega)⟩
  have m60 : wX_findRunLevels_60 post (nI s) (nI e) (em s) (sc_ra em n b e) (sc_mx (sc_rb em b s) (em s)) cc rl wl cl dt df ds ex lo uf us fi ki ef es di we cf cs cm tx le rr wk sh fo fl el ec ke kl em oe be pl po := by
    unfold wX_findRunLevels_60
    refine x_bearing ?_
    unfold sc_mx at m80
    refine br_c (fun a => ?_) (fun a => ?_)
    · rw [if_pos a] at m80; exact m80
    · rw [if_neg a] at m80; exact m80
  have m43 : wX_findRunLevels_43 post (nI s) (nI e) (em s) (sc_rb em b s) (sc_ra em n b e) cc rl wl cl dt df ds ex lo uf us fi ki ef es di we cf cs cm tx le rr wk sh fo fl el ec ke kl em oe be pl po := by
    unfold sc_mx at m60
    refine br_c (fun a => ?_) (fun a => ?_)
    · rw [if_pos a] at m60; exact m60
    · rw [if_neg a] at m60; exact m60
  have m25 : wX_findRunLevels_25 post (nI s) (nI e) (nI n) b (em s) (sc_rb em b s) cc rl wl cl dt df ds ex lo uf us fi ki ef es di we cf cs cm tx le rr wk sh fo fl el ec ke kl em oe be pl po := by
    unfold sc_ra at m43
    by_cases z : e < n
    · rw [if_pos z] at m43
      refine br_f (nI_ge z (by omega)) ⟨vp_in_nI (by omega) (by decide), ?_⟩
      rw [nI_clamp (by omega)]
      exact m43
    · rw [if_neg z] at m43
      exact br_t (nI_le (by omega) (by omega)) m43
  unfold wpX_findRunLevels
  refine ⟨vp_in_nI (by omega) (by decide), nm_r (e' := em s) (by rw [c]) ?_⟩
  unfold sc_rb at m25
  cases s with
  | zero => exact br_t (by decide) m25
  | succ s =>
    rw [if_neg (by omega), Nat.add_sub_cancel] at m25
    refine br_f (nI_nle (by omega) (by omega)) ?_
    rw [nI_pred, nI_clamp (by omega)]
    exact ⟨vp_in_nI (by omega) (by decide), m25⟩
end
section
variable {cc rl yn : Int32} {cl dt df pb lo uf us fi ki wt ef eb di ex cf cs cm lg tx le rr ro fm fL ee en ye lv se pg ou : Nat → Int32}
theorem y_edge {post : Int32 → Prop} {t n : Nat} {b own : Int32} (ht : t < 2) (hn : n ≤ 16) (hl : le t = nI n) (e : Nat) (he : e ≤ n) (h : post (sc_pa (sc_mx own (sc_ra ye n b e)))) : wpY_edge post (cc, rl, yn, cl, dt, df, pb, lo, uf, us, fi, ki, wt, ef, eb, di, ex, cf, cs, cm, lg, tx, le, rr, ro, fm, fL, ee, en, ye, lv, se, pg, ou) (nI t) b own (nI e) := by
  have hL : le (nI t).toNatClampNeg = nI n := by rw [nI_clamp (by omega), hl]
  unfold wpY_edge
  unfold sc_ra at h
  refine br_f (nI_pos (by omega)) ⟨vp_in_nI ht (by decide), ?_⟩
  rw [hL]
  by_cases z : e < n
  · rw [if_pos z] at h
    refine br_t (nI_lt z (by omega)) ⟨vp_in_nI (by omega) (by decide), ?_⟩
    rw [nI_clamp (by omega)]
    exact y_edge27 h
  · rw [if_neg z] at h
    exact br_f (nI_nlt (by omega) (by omega)) (y_edge27 h)
theorem y_run {post : SY → Prop} {t n s e : Nat} {b : Int32} (ht : t < 2) (hl : le t = nI n) (hs : s < e) (he : e ≤ n) (hn : n ≤ 16) (ho : vp_in (ye s) 7) (h4 : ∀ j, j < n → vp_in (se j) 4)
    (h : post (cc, rl, yn, cl, dt, df, pb, lo, uf, us, fi, ki, wt, ef, eb, di, ex, cf, cs, cm, lg, tx, le, rr, ro, fm, fL, ee, en, ye, sc_rn2 ye n b s e se lv, sc_rn1 ye n b s e se, pg, ou)) : wpY_resolve post (cc, rl, yn, cl, dt, df, pb, lo, uf, us, fi, ki, wt, ef, eb, di, ex, cf, cs, cm, lg, tx, le, rr, ro, fm, fL, ee, en, ye, lv, se, pg, ou) (nI t) b (nI s) (nI e) := by
  have c : (nI s).toNatClampNeg = s := nI_clamp (by omega)
  have main : wpY_edge (fun r_38 => ∃ n40 : Nat, wY_resolve_40 post (nI s) (nI e) (ye s) (sc_B1 ye b s) r_38 cc rl yn n40 (sc_B1 ye b s) (nI s) cl dt df pb lo uf us fi ki wt ef eb di ex cf cs cm lg tx le rr ro fm fL ee en ye lv se pg ou) (cc, rl, yn, cl, dt, df, pb, lo, uf, us, fi, ki, wt, ef, eb, di, ex, cf, cs, cm, lg, tx, le, rr, ro, fm, fL, ee, en, ye, lv, se, pg, ou) (nI t) b (ye s) (nI e) := by
    refine y_edge ht hn hl e he ?_
    rw [sc_mxC]
    exact ⟨e - s + 1, y_s1_l (by omega) (e - s) s _ se (by omega) ⟨e - s + 2, y_nt_l (bE := sc_B2 ye n b s e) (by omega) (e - s + 2) s _ (Nat.le_refl _) (by omega) (by omega) ⟨e - s + 1, y_lv_l (by omega) ho (e - s) s lv (by omega) (fun j h1 h2 => (sc_rn1P hs he h4).2 j h1 h2) h⟩⟩⟩
  unfold wpY_resolve
  refine ⟨vp_in_nI (by omega) (by decide), nm_r (e' := ye s) (by rw [c]) ?_⟩
  unfold sc_B1 sc_rb at main
  rw [sc_mxC] at main
  rw [sc_prS]
  cases s with
  | zero => exact br_t (by decide) (y_edge27 main)
  | succ s =>
    have hL : le (nI t).toNatClampNeg = nI n := by rw [nI_clamp (by omega), hl]
    rw [if_neg (by omega), Nat.add_sub_cancel] at main
    have c' : (sc_pr (s + 1)).toNatClampNeg = s := nI_clamp (by omega)
    refine br_f (nI_pos (by omega)) ⟨vp_in_nI ht (by decide), br_t (by rw [hL]; exact nI_lt (by omega) (by omega)) ⟨vp_in_nI (by omega) (by decide), ?_⟩⟩
    rw [c']
    exact y_edge27 main
end
def sc_fl (em : Nat → Int32) (n : Nat) (b : Int32) : Nat → Nat → Nat → (Nat → Int32) → (Nat → Int32) → (Nat → Int32) × (Nat → Int32)
  | 0, i, s, be, pl => (sc_rn1 em n b s i be, sc_rn2 em n b s i be pl)
  | d + 1, i, s, be, pl => if em i = em s then sc_fl em n b d (i + 1) s be pl else sc_fl em n b d (i + 1) i (sc_rn1 em n b s i be) (sc_rn2 em n b s i be pl)
theorem sc_flP {em : Nat → Int32} {n : Nat} {b : Int32} (h7 : ∀ j, j < n → vp_in (em j) 7) : ∀ d i s be pl, i + d = n → s < i → (∀ j, j < s → vp_in (pl j) 9) → ∀ j, j < n → vp_in ((sc_fl em n b d i s be pl).2 j) 9 := by
  intro d
  induction d with
  | zero =>
    intro i s be pl hi hs hp j hj
    exact sc_lvP (h7 s (by omega)) _ (i - s) s pl hp j (by omega)
  | succ d ih =>
    intro i s be pl hi hs hp
    unfold sc_fl
    split
    · exact ih (i + 1) s be pl (by omega) (by omega) hp
    · exact ih (i + 1) i _ _ (by omega) (by omega) (fun j hj => sc_lvP (h7 s (by omega)) _ (i - s) s pl hp j (by omega))
section
variable {cc rl wl : Int32} {cl dt df ds ex lo uf us fi ki ef es di we cf cs cm tx le rr wk sh fo fl el ec ke kl em oe be pl po : Nat → Int32}
theorem x_fl_l {post : SX → Prop} {n : Nat} {b : Int32} (hn : n ≤ 16) :
    ∀ (d i s : Nat) (be pl : Nat → Int32), i + d = n → s < i → (∀ j, s ≤ j → j < i → em j = em s) → (∀ j, j < n → vp_in (be j) 4) →
    post (cc, rl, wl, cl, dt, df, ds, ex, lo, uf, us, fi, ki, ef, es, di, we, cf, cs, cm, tx, le, rr, wk, sh, fo, fl, el, ec, ke, kl, em, oe, (sc_fl em n b d i s be pl).1, (sc_fl em n b d i s be pl).2, po) → wX_findLevels_19 post b (nI n) (d + 2) (nI s) (nI i) cc rl wl cl dt df ds ex lo uf us fi ki ef es di we cf cs cm tx le rr wk sh fo fl el ec ke kl em oe be pl po := by
  intro d
  induction d with
  | zero =>
    intro i s be pl hi hs hem h4 h
    obtain rfl : i = n := by omega
    refine br_f (nI_nlt (by omega) (by omega)) (br_t rfl ?_)
    unfold wX_findLevels_48
    exact x_run hs (Nat.le_refl _) hn hem h4 (nm_r (nI_1 i) (br_t (nI_lt (by omega) (by omega)) h))
  | succ d ih =>
    intro i s be pl hi hs hem h4 h
    have c : (nI i).toNatClampNeg = i := nI_clamp (by omega)
    have c2 : (nI s).toNatClampNeg = s := nI_clamp (by omega)
    unfold sc_fl at h
    refine br_f (nI_nlt (by omega) (by omega)) (br_f (fun z => by have := (nI_eq (by omega) (by omega)).mp z; omega) ⟨vp_in_nI (by omega) (by decide), vp_in_nI (by omega) (by decide), ?_⟩)
    rw [c, c2]
    refine br_c (fun a => nm_r (nI_1 i) (ih (i + 1) s be pl (by omega) (by omega) (fun j h1 h2 => ?_) h4 ?_)) (fun a => ?_)
    · by_cases e : j = i
      · rw [e]; exact a
      · exact hem j h1 (by omega)
    · rw [if_pos a] at h; exact h
    · rw [if_neg a] at h
      unfold wX_findLevels_48
      exact x_run hs (by omega) hn hem h4 (nm_r (nI_1 i) (ih (i + 1) i _ _ (by omega) (by omega) (fun j h1 h2 => by rw [show j = i by omega]) (sc_rn1P hs (by omega) h4).1 h))
theorem x_findLevels {post : SX → Prop} {t n b : Nat} (ht : t < 2) (hb : b < 2) (htx : sc_Chr tx) (hdi : ∀ i, vp_in (di i) 7) (hn : n ≤ 16) (h0 : 0 < n) (hl : le t = nI n)
    (h : post (cc, rl, wl, cl, dt, df, ds, ex, lo, uf, us, fi, ki, ef, es, di, we, cf, cs, cm, tx, le, rr, wk, sh, fo, fl, el, ec, ke, kl, (sc_eb (sc_dr di tx t) n 0 (nI b) 0 em be oe).1, (sc_eb (sc_dr di tx t) n 0 (nI b) 0 em be oe).2.2, (sc_fl (sc_eb (sc_dr di tx t) n 0 (nI b) 0 em be oe).1 n (nI b) (n - 1) 1 0 (sc_eb (sc_dr di tx t) n 0 (nI b) 0 em be oe).2.1 pl).1, (sc_fl (sc_eb (sc_dr di tx t) n 0 (nI b) 0 em be oe).1 n (nI b) (n - 1) 1 0 (sc_eb (sc_dr di tx t) n 0 (nI b) 0 em be oe).2.1 pl).2, po)) : wpX_findLevels post (cc, rl, wl, cl, dt, df, ds, ex, lo, uf, us, fi, ki, ef, es, di, we, cf, cs, cm, tx, le, rr, wk, sh, fo, fl, el, ec, ke, kl, em, oe, be, pl, po) (nI t) (nI b) := by
  have hL : le (nI t).toNatClampNeg = nI n := by rw [nI_clamp (by omega), hl]
  have hb7 : vp_in (nI b) 7 := vp_in_nI (by omega) (by decide)
  have P := sc_ebP (dr := sc_dr di tx t) (N := n) (fun i => hdi _) n 0 (nI b) 0 em be oe (by omega) hb7 (fun j hj => absurd hj (by omega)) (fun j hj => absurd hj (by omega))
  unfold wpX_findLevels
  unfold wpX_findEmbeddings
  refine ⟨n + 1, x_emb_l ht htx hn hl n 0 0 (nI b) em be oe (by omega) (by omega) hb7 (fun j hj => absurd hj (by omega)) ⟨vp_in_nI ht (by decide), nm_r hL ⟨n - 1 + 2, ?_⟩⟩⟩
  exact x_fl_l hn (n - 1) 1 0 _ pl (by omega) (by omega) (fun j h1 h2 => by rw [show j = 0 by omega]) (fun j hj => (P j hj).2) h
end
section
variable {cc rl yn : Int32} {cl dt df pb lo uf us fi ki wt ef eb di ex cf cs cm lg tx le rr ro fm fL ee en ye lv se pg ou : Nat → Int32}
theorem y_fl_l {post : SY → Prop} {t n : Nat} {b : Int32} (ht : t < 2) (hl : le t = nI n) (hn : n ≤ 16) (h7 : ∀ j, j < n → vp_in (ye j) 7) :
    ∀ (d i s m : Nat) (se lv : Nat → Int32), i + d = n → s < i → d + 1 ≤ m → (∀ j, j < n → vp_in (se j) 4) →
    post (cc, rl, yn, cl, dt, df, pb, lo, uf, us, fi, ki, wt, ef, eb, di, ex, cf, cs, cm, lg, tx, le, rr, ro, fm, fL, ee, en, ye, (sc_fl ye n b d i s se lv).2, (sc_fl ye n b d i s se lv).1, pg, ou) → wY_findLevels_21 post (wY_findLevels_8 post (nI t) b m) (nI t) b (nI s) cc rl yn cl dt df pb lo uf us fi ki wt ef eb di ex cf cs cm lg tx le rr ro fm fL ee en ye lv se pg ou (d + 1) (nI i) := by
  have hL : le (nI t).toNatClampNeg = nI n := by rw [nI_clamp (by omega), hl]
  intro d
  induction d with
  | zero =>
    intro i s m se lv hi hs hm h4 h
    obtain rfl : i = n := by omega
    obtain ⟨m, rfl⟩ : ∃ q, m = q + 1 := ⟨m - 1, by omega⟩
    refine ⟨vp_in_nI ht (by decide), br_t (by rw [hL]; exact nI_le (by omega) (by omega)) ?_⟩
    unfold wY_findLevels_54
    exact y_run ht hl hs (Nat.le_refl _) hn (h7 s (by omega)) h4 ⟨vp_in_nI ht (by decide), br_t (by rw [hL]; exact nI_le (by omega) (by omega)) h⟩
  | succ d ih =>
    intro i s m se lv hi hs hm h4 h
    obtain ⟨m, rfl⟩ : ∃ q, m = q + 1 := ⟨m - 1, by omega⟩
    have c : (nI i).toNatClampNeg = i := nI_clamp (by omega)
    have c2 : (nI s).toNatClampNeg = s := nI_clamp (by omega)
    unfold sc_fl at h
    refine ⟨vp_in_nI ht (by decide), br_f (by rw [hL]; exact nI_ge (by omega) (by omega)) ⟨vp_in_nI (by omega) (by decide), vp_in_nI (by omega) (by decide), ?_⟩⟩
    rw [c, c2]
    refine br_c (fun a => nm_r (nI_1 i) (ih (i + 1) s (m + 1) se lv (by omega) (by omega) (by omega) h4 ?_)) (fun a => ?_)
    · rw [if_pos a] at h; exact h
    · rw [if_neg a] at h
      unfold wY_findLevels_54
      refine y_run ht hl hs (by omega) hn (h7 s (by omega)) h4 ⟨vp_in_nI ht (by decide), br_f (by rw [hL]; exact nI_ge (by omega) (by omega)) ⟨d + 1 + 1, ?_⟩⟩
      exact ⟨vp_in_nI ht (by decide), br_f (by rw [hL]; exact nI_ge (by omega) (by omega)) ⟨vp_in_nI (by omega) (by decide), vp_in_nI (by omega) (by decide), br_t rfl (nm_r (nI_1 i) (ih (i + 1) i m _ _ (by omega) (by omega) (by omega) (sc_rn1P hs (by omega) h4).1 h))⟩⟩
theorem y_findLevels {post : SY → Prop} {t n b : Nat} (ht : t < 2) (hb : b < 2) (htx : sc_Chr tx) (hdi : ∀ i, vp_in (di i) 7) (hn : n ≤ 16) (h0 : 0 < n) (hl : le t = nI n)
    (h : post (cc, rl, yn, cl, dt, df, pb, lo, uf, us, fi, ki, wt, ef, eb, di, ex, cf, cs, cm, lg, tx, le, rr, ro, fm, fL, ee, en, (sc_eb (sc_dr di tx t) n 0 (nI b) 0 ye se ou).1, (sc_fl (sc_eb (sc_dr di tx t) n 0 (nI b) 0 ye se ou).1 n (nI b) (n - 1) 1 0 (sc_eb (sc_dr di tx t) n 0 (nI b) 0 ye se ou).2.1 lv).2, (sc_fl (sc_eb (sc_dr di tx t) n 0 (nI b) 0 ye se ou).1 n (nI b) (n - 1) 1 0 (sc_eb (sc_dr di tx t) n 0 (nI b) 0 ye se ou).2.1 lv).1, pg, (sc_eb (sc_dr di tx t) n 0 (nI b) 0 ye se ou).2.2)) : wpY_findLevels post (cc, rl, yn, cl, dt, df, pb, lo, uf, us, fi, ki, wt, ef, eb, di, ex, cf, cs, cm, lg, tx, le, rr, ro, fm, fL, ee, en, ye, lv, se, pg, ou) (nI t) (nI b) := by
  have hL : le (nI t).toNatClampNeg = nI n := by rw [nI_clamp (by omega), hl]
  have hb7 : vp_in (nI b) 7 := vp_in_nI (by omega) (by decide)
  have P := sc_ebP (dr := sc_dr di tx t) (N := n) (fun i => hdi _) n 0 (nI b) 0 ye se ou (by omega) hb7 (fun j hj => absurd hj (by omega)) (fun j hj => absurd hj (by omega))
  unfold wpY_findLevels
  unfold wpY_embed
  refine ⟨n + 1, y_emb_l ht htx hdi hn hl n 0 0 (nI b) ye se ou (by omega) (by omega) hb7 (fun j hj => absurd hj (by omega)) ⟨n + 1, ⟨vp_in_nI ht (by decide), br_f (by rw [hL]; exact nI_ge (a := 0) (by omega) (by omega)) ⟨n - 1 + 1 + 1, ?_⟩⟩⟩⟩
  refine ⟨vp_in_nI ht (by decide), br_f (by rw [hL]; exact nI_ge (a := 0) (by omega) (by omega)) ⟨vp_in_nI (n := 0) (by omega) (by decide), vp_in_nI (n := 0) (by omega) (by decide), br_t rfl (nm_r (nI_1 0) ?_)⟩⟩
  exact y_fl_l ht hl hn (fun j hj => (P j hj).1) (n - 1) 1 0 n _ lv (by omega) (by omega) (by omega) (fun j hj => (P j hj).2) h
end
section
variable {cc rl wl : Int32} {cl dt df ds ex lo uf us fi ki ef es di we cf cs cm tx le rr wk sh fo fl el ec ke kl em oe be pl po : Nat → Int32}
theorem xs_base1 {post : Int32 → Prop} {b : Nat} (hb : b < 2) (h : post 1) : wpX_isBase post (cc, rl, wl, cl, dt, df, ds, ex, lo, uf, us, fi, ki, ef, es, di, we, cf, cs, cm, tx, le, rr, wk, sh, fo, fl, el, ec, ke, kl, em, oe, be, pl, po) (nI b) := by
  rcases Nat.lt_or_ge b 1 with z | z
  · obtain rfl : b = 0 := by omega
    exact br_t rfl h
  · obtain rfl : b = 1 := by omega
    exact br_f (by decide) (br_t rfl h)
theorem xs_base0 {post : Int32 → Prop} {b : Int32} (h0 : ¬ b = 0) (h1 : ¬ b = 1) (h : post 0) : wpX_isBase post (cc, rl, wl, cl, dt, df, ds, ex, lo, uf, us, fi, ki, ef, es, di, we, cf, cs, cm, tx, le, rr, wk, sh, fo, fl, el, ec, ke, kl, em, oe, be, pl, po) b := br_f h0 (br_f h1 h)
end
section
variable {cc rl yn : Int32} {cl dt df pb lo uf us fi ki wt ef eb di ex cf cs cm lg tx le rr ro fm fL ee en ye lv se pg ou : Nat → Int32}
/-- the reference's way to its levels, or its refusal -/
theorem y_lev_bad {post : Int32 → SY → Prop} {p1 p2 p3 : Int32} (hb : (¬ p1 = 0 ∧ ¬ p1 = 1) ∨ (∃ t n, t < 2 ∧ n ≤ 16 ∧ le t = nI n ∧ p1 = nI t ∧ ((¬ p2 = 0 ∧ ¬ p2 = 1) ∨ (∃ b, b < 2 ∧ p2 = nI b ∧ (p3 < 0 ∨ ¬ p3 < 0 ∧ nI n ≤ p3))))) (h : post (-1) (cc, rl, yn, cl, dt, df, pb, lo, uf, us, fi, ki, wt, ef, eb, di, ex, cf, cs, cm, lg, tx, le, rr, ro, fm, fL, ee, en, ye, lv, se, pg, ou)) : wpY_level post (cc, rl, yn, cl, dt, df, pb, lo, uf, us, fi, ki, wt, ef, eb, di, ex, cf, cs, cm, lg, tx, le, rr, ro, fm, fL, ee, en, ye, lv, se, pg, ou) p1 p2 p3 := by
  unfold wpY_level
  rcases hb with ⟨a, b⟩ | ⟨t, n, ht, hn, hl, rfl, hb⟩
  · exact ys_text0 a b (br_t rfl h)
  · have hL : le (nI t).toNatClampNeg = nI n := by rw [nI_clamp (by omega), hl]
    rcases hb with ⟨a, b⟩ | ⟨b, hb, rfl, hp⟩
    · exact ys_text1 ht (br_f (by decide) (ys_text0 a b (br_t rfl h)))
    · refine ys_text1 ht (br_f (by decide) (ys_text1 hb (br_f (by decide) ?_)))
      exact hp.elim (fun z => br_t z h) (fun z => br_f z.1 ⟨vp_in_nI ht (by decide), br_f (by rw [hL]; exact Int32.not_lt.mpr z.2) h⟩)
theorem y_pag_bad {post : Int32 → SY → Prop} {p1 p2 p3 : Int32} (hb : (¬ p1 = 0 ∧ ¬ p1 = 1) ∨ (∃ t n, t < 2 ∧ n ≤ 16 ∧ le t = nI n ∧ p1 = nI t ∧ ((¬ p2 = 0 ∧ ¬ p2 = 1) ∨ (∃ b, b < 2 ∧ p2 = nI b ∧ (p3 < 0 ∨ ¬ p3 < 0 ∧ nI n ≤ p3))))) (h : post (-1) (cc, rl, yn, cl, dt, df, pb, lo, uf, us, fi, ki, wt, ef, eb, di, ex, cf, cs, cm, lg, tx, le, rr, ro, fm, fL, ee, en, ye, lv, se, pg, ou)) : wpY_onPage post (cc, rl, yn, cl, dt, df, pb, lo, uf, us, fi, ki, wt, ef, eb, di, ex, cf, cs, cm, lg, tx, le, rr, ro, fm, fL, ee, en, ye, lv, se, pg, ou) p1 p2 p3 := by
  unfold wpY_onPage
  rcases hb with ⟨a, b⟩ | ⟨t, n, ht, hn, hl, rfl, hb⟩
  · exact ys_text0 a b (br_t rfl h)
  · have hL : le (nI t).toNatClampNeg = nI n := by rw [nI_clamp (by omega), hl]
    rcases hb with ⟨a, b⟩ | ⟨b, hb, rfl, hp⟩
    · exact ys_text1 ht (br_f (by decide) (ys_text0 a b (br_t rfl h)))
    · refine ys_text1 ht (br_f (by decide) (ys_text1 hb (br_f (by decide) ?_)))
      exact hp.elim (fun z => br_t z h) (fun z => br_f z.1 ⟨vp_in_nI ht (by decide), br_f (by rw [hL]; exact Int32.not_lt.mpr z.2) h⟩)
end
theorem i_vc_level {k : Nat} {u : SX} {v : SY} (I : i_Rel k u v) (hk : k + 5 ≤ 2560) (v1 : Int32) (v2 : Int32) (v3 : Int32) : wpX_level (fun r u' => wpY_level (fun r' v' => r' = r ∧ i_Rel (k + 5) u' v') v v1 v2 v3) u v1 v2 v3 := by
  obtain ⟨cc, rl, wl, yn, cl, dt, df, ds, ex, lo, uf, us, fi, ki, ef, es, di, we, cf, cs, cm, tx, le, rr, wk, sh, fo, fl, el, ec, ke, kl, em, oe, be, pl, po, pb, wt, eb, lg, ro, fm, fL, ee, en, rfl, rfl, I⟩ := I
  have I0 := I
  obtain ⟨i1, i2, i3, i4, i5, i6, i7, i8, i9, i10, i11, i12, i13, i14, i15, i16, i17⟩ := I
  unfold wpX_level
  rcases sn_text v1 with ⟨t, ht, rfl⟩ | ⟨h0, h1, h2⟩
  rotate_left
  · exact x_has2 h2 (br_t rfl (y_lev_bad (Or.inl ⟨h0, h1⟩) ⟨rfl, sc_mk I0⟩))
  obtain ⟨n, hn, hl⟩ := i3 t ht
  have hL : le (nI t).toNatClampNeg = nI n := by rw [nI_clamp (by omega), hl]
  have bad : (v3 < 0 ∨ ¬ v3 < 0 ∧ nI n ≤ v3) → wpY_level (fun r' v' => r' = -1 ∧ i_Rel (k + 5) (cc, rl, wl, cl, dt, df, ds, ex, lo, uf, us, fi, ki, ef, es, di, we, cf, cs, cm, tx, le, rr, wk, sh, fo, fl, el, ec, ke, kl, em, oe, be, pl, po) v') (cc, rl, yn, cl, dt, df, pb, lo, uf, us, fi, ki, wt, ef, eb, di, ex, cf, cs, cm, lg, tx, le, rr, ro, fm, fL, ee, en, em, pl, be, po, oe) (nI t) v2 v3 := by
    intro z
    rcases sn_text v2 with ⟨b, hb, rfl⟩ | ⟨h0, h1, h2⟩
    · exact y_lev_bad (Or.inr ⟨t, n, ht, hn, hl, rfl, Or.inr ⟨b, hb, rfl, z⟩⟩) ⟨rfl, sc_mk I0⟩
    · exact y_lev_bad (Or.inr ⟨t, n, ht, hn, hl, rfl, Or.inl ⟨h0, h1⟩⟩) ⟨rfl, sc_mk I0⟩
  by_cases hp0 : v3 < 0
  · exact x_has0 ht hl (Or.inl hp0) (br_t rfl (bad (Or.inl hp0)))
  obtain ⟨p, hp, rfl⟩ := nI_of hp0
  by_cases hpn : p < n
  · refine x_has1 ht hn hpn hl (br_f (by decide) ?_)
    rcases sn_text v2 with ⟨b, hb, rfl⟩ | ⟨h0, h1, h2⟩
    · have cp : (nI p).toNatClampNeg = p := nI_clamp (by omega)
      refine xs_base1 hb (br_f (by decide) (x_findLevels ht hb i4 i11 hn (by omega) hl ⟨vp_in_nI (by omega) (by decide), ?_⟩))
      unfold wpY_level
      refine ys_text1 ht (br_f (by decide) (ys_text1 hb (br_f (by decide) (br_f hp0 ⟨vp_in_nI ht (by decide), br_t (by rw [hL]; exact nI_lt hpn (by omega)) ?_⟩))))
      exact y_findLevels ht hb i4 i11 hn (by omega) hl ⟨vp_in_nI (by omega) (by decide), rfl, sc_mk I0⟩
    · exact xs_base0 h0 h1 (br_t rfl (y_lev_bad (Or.inr ⟨t, n, ht, hn, hl, rfl, Or.inl ⟨h0, h1⟩⟩) ⟨rfl, sc_mk I0⟩))
  · have z : nI n ≤ nI p := nI_le (by omega) hp
    exact x_has0 ht hl (Or.inr ⟨hp0, z⟩) (br_t rfl (bad (Or.inr ⟨hp0, z⟩)))
