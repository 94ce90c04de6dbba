/-! search -/
noncomputable def sc_me (Bk : Nat → Prop) (D : Nat → Int32) : Nat → Nat → Int32
  | 0, _ => -1
  | d + 1, e => @ite _ (Bk e ∧ D e = 0) (Classical.propDecidable _) (nI e) (sc_me Bk D d (e + 1))
noncomputable def sc_se (Bk : Nat → Prop) (D : Nat → Nat → Int32) (n : Nat) : Nat → Nat → Int32
  | 0, _ => -1
  | d + 1, s => @ite _ (Bk s ∧ ¬ sc_me Bk (D s) (n + 1 - s) s = -1) (Classical.propDecidable _) (32 * nI s + sc_me Bk (D s) (n + 1 - s) s) (sc_se Bk D n d (s + 1))
section
variable {cc rl wl : Int32} {cl dt df ds ex lo uf us fi ki ef es di we cf cs cm tx le rr wk sh fo fl el ec ke kl em oe be pl po : Nat → Int32}
theorem x_me_l {post : Int32 → SX → Prop} {n m s sv pm : Nat} {eb : Nat → Int32} {F1 E1 : List Int32} {Bk : Nat → Prop} (hn : n ≤ 16) (hl : le 0 = nI n) (hm : m ≤ 6) (hsv : sv ≤ 4) (htx : sc_Chr tx) (hd : sc_Dec dt df ds) (hcm : sc_Chr cm) (hef : sc_Opt ef) (hes : ∀ i, i < 48 → ¬ ef i = -1 → vp_in (es i) 48 ∧ eb i = es i)
    (ok1 : sc_OK F1 E1) (hpm : pm < 2 ^ 31) (hb : ∀ p, p ≤ n → (pm.testBit p = true ↔ Bk p)) :
    ∀ (d e : Nat) (wl : Int32) (wk fo fl el ec ke kl : Nat → Int32), e + d = n + 1 → s ≤ e → sc_SX 1 fo fl el ec F1 E1 →
    (∀ wl wk fo fl el ec ke kl, sc_SX 1 fo fl el ec F1 E1 → post (sc_me Bk (fun e => sc_CS we (sc_nf cl dt df ds ex 0 (sc_ld tx 0 (e - s) s)) (sc_el cf cs cm m ef es (sc_nf cl dt df ds ex 0 (sc_ld tx 0 (e - s) s))) F1 E1 sv) d e) (nI m, rl, wl, cl, dt, df, ds, ex, lo, uf, us, fi, ki, ef, es, di, we, cf, cs, cm, tx, le, rr, wk, sh, fo, fl, el, ec, ke, kl, em, oe, be, pl, po)) →
    wX_firstMatchEnd_3 post (nI s) (nI pm) (nI sv) (d + 1) (nI e) (nI m) rl wl cl dt df ds ex lo uf us fi ki ef es di we cf cs cm tx le rr wk sh fo fl el ec ke kl em oe be pl po := by
  intro d
  induction d with
  | zero =>
    intro e wl wk fo fl el ec ke kl he hs h1 h
    refine br_t ?_ (h wl wk fo fl el ec ke kl h1)
    rw [hl]; exact nI_lt (by omega) (by omega)
  | succ d ih =>
    intro e wl wk fo fl el ec ke kl he hs h1 h
    unfold sc_me at h
    refine br_f (by rw [hl]; exact nI_nlt (by omega) (by omega)) (x_isIn (by omega) hpm (fun z => br_f (by decide) ?_) (fun z => br_t rfl (nm_r (nI_1 e) (ih (e + 1) wl wk fo fl el ec ke kl (by omega) (by omega) h1 ?_))))
    · have ok0 := sc_okF (cl := cl) (ex := ex) (cf := cf) (cs := cs) (m := m) (t := 0) (b := s) (e := e) htx hd hcm hef hes (by omega)
      refine x_loadSide (sd := 0) (t := 0) (by omega) (by omega) (by omega) hs hm htx hd hcm hef hes (fun wl wk fo' fl' el' ec' hS0 pr => ?_)
      have h1' := pr 1 _ _ (by omega) (by omega) ok1.1 ok1.2.1 h1
      refine x_CS hsv hS0 h1' ok0 ok1 (fun ke' kl' => br_c (fun q => ?_) (fun q => nm_r (nI_1 e) (ih (e + 1) _ _ _ _ _ _ _ _ (by omega) (by omega) h1' ?_)))
      · have g := h wl wk fo' fl' el' ec' ke' kl' h1'
        rw [if_pos ⟨(hb e (by omega)).mp z, q⟩] at g
        exact g
      · intro wl wk fo fl el ec ke kl h1
        have g := h wl wk fo fl el ec ke kl h1
        rw [if_neg (fun w => q w.2)] at g
        exact g
    · intro wl wk fo fl el ec ke kl h1
      have g := h wl wk fo fl el ec ke kl h1
      rw [if_neg (fun w => by rw [(hb e (by omega)).mpr w.1] at z; exact absurd z (by decide))] at g
      exact g
theorem x_se_l {post : Int32 → SX → Prop} {n m sv pm : Nat} {eb : Nat → Int32} {F1 E1 : List Int32} {Bk : Nat → Prop} (hn : n ≤ 16) (hl : le 0 = nI n) (hm : m ≤ 6) (hsv : sv ≤ 4) (htx : sc_Chr tx) (hd : sc_Dec dt df ds) (hcm : sc_Chr cm) (hef : sc_Opt ef) (hes : ∀ i, i < 48 → ¬ ef i = -1 → vp_in (es i) 48 ∧ eb i = es i)
    (ok1 : sc_OK F1 E1) (hpm : pm < 2 ^ 31) (hb : ∀ p, p ≤ n → (pm.testBit p = true ↔ Bk p)) :
    ∀ (d s : Nat) (wl : Int32) (wk fo fl el ec ke kl : Nat → Int32), s + d = n + 1 → sc_SX 1 fo fl el ec F1 E1 →
    (∀ wl wk fo fl el ec ke kl, post (sc_se Bk (fun s e => sc_CS we (sc_nf cl dt df ds ex 0 (sc_ld tx 0 (e - s) s)) (sc_el cf cs cm m ef es (sc_nf cl dt df ds ex 0 (sc_ld tx 0 (e - s) s))) F1 E1 sv) n d s) (nI m, rl, wl, cl, dt, df, ds, ex, lo, uf, us, fi, ki, ef, es, di, we, cf, cs, cm, tx, le, rr, wk, sh, fo, fl, el, ec, ke, kl, em, oe, be, pl, po)) →
    wX_search_48 post (nI sv) (nI n) (nI pm) (d + 1) (nI s) (nI m) rl wl cl dt df ds ex lo uf us fi ki ef es di we cf cs cm tx le rr wk sh fo fl el ec ke kl em oe be pl po := by
  intro d
  induction d with
  | zero =>
    intro s wl wk fo fl el ec ke kl he h1 h
    exact br_t (nI_lt (by omega) (by omega)) (h wl wk fo fl el ec ke kl)
  | succ d ih =>
    intro s wl wk fo fl el ec ke kl he h1 h
    unfold sc_se at h
    refine br_f (nI_nlt (by omega) (by omega)) (x_isIn (by omega) hpm (fun z => br_f (by decide) ?_) (fun z => br_t rfl (br_t rfl (nm_r (nI_1 s) (ih (s + 1) wl wk fo fl el ec ke kl (by omega) h1 ?_)))))
    · unfold wpX_firstMatchEnd
      refine ⟨n + 1 - s + 1, x_me_l (Bk := Bk) hn hl hm hsv htx hd hcm hef hes ok1 hpm hb (n + 1 - s) s wl wk fo fl el ec ke kl (by omega) (Nat.le_refl _) h1 (fun wl wk fo fl el ec ke kl h1 => ?_)⟩
      refine br_c (fun q => nm_r (nI_1 s) (ih (s + 1) _ _ _ _ _ _ _ _ (by omega) h1 ?_)) (fun q => ?_)
      · intro wl wk fo fl el ec ke kl
        have g := h wl wk fo fl el ec ke kl
        rw [if_neg (fun w => w.2 q)] at g
        exact g
      · have g := h wl wk fo fl el ec ke kl
        rw [if_pos ⟨(hb s (by omega)).mp z, q⟩] at g
        exact g
    · intro wl wk fo fl el ec ke kl
      have g := h wl wk fo fl el ec ke kl
      rw [if_neg (fun w => by rw [(hb s (by omega)).mpr w.1] at z; exact absurd z (by decide))] at g
      exact g
end
section
variable {cc rl yn : Int32} {cl dt df pb lo uf us fi ki wt ef eb di ex cf cs cm lg tx le rr ro fm fL ee en ye lv se pg ou : Nat → Int32}
theorem y_me_l {post : Int32 → SY → Prop} {J : _} {n m s sv : Nat} {we ds es : Nat → Int32} {F1 E1 : List Int32} {Bk : Nat → Prop} (hn : n ≤ 16) (hl : le 0 = nI n) (hm : m ≤ 6) (hsv : sv ≤ 4) (htx : sc_Chr tx) (hc : ∀ i, vp_in (cl i) 10) (hd : sc_Dec dt df ds) (hpb : ∀ i, i < 48 → ¬ dt i = 0 → pb i = ds i) (hcm : sc_Chr cm) (hef : sc_Opt ef) (hes : ∀ i, i < 48 → ¬ ef i = -1 → vp_in (es i) 48 ∧ eb i = es i)
    (hw : ∀ c l, c < 48 → l < 3 → we (48 * l + c) = wt (3 * c + l)) (ok1 : sc_OK F1 E1) (hb : ∀ p, p ≤ n → (Bk p ↔ n = 0 ∨ ¬ sc_q (sc_kd ki tx 0) n 0 p = 0)) :
    ∀ (d e : Nat) (yn : Int32) (ro fm fL ee en : Nat → Int32), e + d = n + 1 → s ≤ e → sc_SY wt 1 fm fL ee en F1 E1 →
    (Bk s ∧ ¬ sc_me Bk (fun e => sc_CS we (sc_nf cl dt df ds ex 0 (sc_ld tx 0 (e - s) s)) (sc_el cf cs cm m ef es (sc_nf cl dt df ds ex 0 (sc_ld tx 0 (e - s) s))) F1 E1 sv) d e = -1 → ∀ yn ro fm fL ee en, post (32 * nI s + sc_me Bk (fun e => sc_CS we (sc_nf cl dt df ds ex 0 (sc_ld tx 0 (e - s) s)) (sc_el cf cs cm m ef es (sc_nf cl dt df ds ex 0 (sc_ld tx 0 (e - s) s))) F1 E1 sv) d e) (nI m, rl, yn, cl, dt, df, pb, lo, uf, us, fi, ki, wt, ef, eb, di, ex, cf, cs, cm, lg, tx, le, rr, ro, fm, fL, ee, en, ye, lv, se, pg, ou)) →
    (¬ (Bk s ∧ ¬ sc_me Bk (fun e => sc_CS we (sc_nf cl dt df ds ex 0 (sc_ld tx 0 (e - s) s)) (sc_el cf cs cm m ef es (sc_nf cl dt df ds ex 0 (sc_ld tx 0 (e - s) s))) F1 E1 sv) d e = -1) → ∀ yn ro fm fL ee en, sc_SY wt 1 fm fL ee en F1 E1 → J (nI (s + 1)) (nI m) rl yn cl dt df pb lo uf us fi ki wt ef eb di ex cf cs cm lg tx le rr ro fm fL ee en ye lv se pg ou) →
    wY_search_42 post J (nI sv) (nI s) (d + 1) (nI e) (nI m) rl yn cl dt df pb lo uf us fi ki wt ef eb di ex cf cs cm lg tx le rr ro fm fL ee en ye lv se pg ou := by
  intro d
  induction d with
  | zero =>
    intro e yn ro fm fL ee en he hs h1 hA hB
    exact br_t (by rw [hl]; exact nI_lt (by omega) (by omega)) (nm_r (nI_1 s) (hB (fun w => w.2 rfl) yn ro fm fL ee en h1))
  | succ d ih =>
    intro e yn ro fm fL ee en he hs h1 hA hB
    unfold sc_me at hA hB
    -- this end is passed over
    have next : (¬ Bk s ∨ ¬ (Bk e ∧ sc_CS we (sc_nf cl dt df ds ex 0 (sc_ld tx 0 (e - s) s)) (sc_el cf cs cm m ef es (sc_nf cl dt df ds ex 0 (sc_ld tx 0 (e - s) s))) F1 E1 sv = 0)) → ∀ yn ro fm fL ee en, sc_SY wt 1 fm fL ee en F1 E1 → wY_search_42 post J (nI sv) (nI s) (d + 1) (nI (e + 1)) (nI m) rl yn cl dt df pb lo uf us fi ki wt ef eb di ex cf cs cm lg tx le rr ro fm fL ee en ye lv se pg ou := by
      intro z yn ro fm fL ee en h1
      rcases z with z | z
      · exact ih (e + 1) yn ro fm fL ee en (by omega) (by omega) h1 (fun w => absurd w.1 z) (fun _ => hB (fun w => z w.1))
      · rw [if_neg z] at hA hB
        exact ih (e + 1) yn ro fm fL ee en (by omega) (by omega) h1 hA hB
    have try' : Bk s → Bk e → wY_search_82 post J (wY_search_42 post J (nI sv) (nI s) (d + 1)) (nI sv) (nI s) (nI e) (nI m) rl yn cl dt df pb lo uf us fi ki wt ef eb di ex cf cs cm lg tx le rr ro fm fL ee en ye lv se pg ou := by
      intro bs be
      have ok0 := sc_okF (cl := cl) (ex := ex) (cf := cf) (cs := cs) (m := m) (t := 0) (b := s) (e := e) htx hd hcm hef hes (by omega)
      unfold wY_search_82
      refine y_loadSide (sd := 0) (t := 0) (by omega) (by omega) (by omega) hs hm htx hc hd hpb hcm hef hes (fun yn ro fm' fL' ee' en' hY0 qr => ?_)
      have h1' := qr 1 _ _ (by omega) (by omega) ok1.1 ok1.2.1 h1
      refine y_CS hw hsv hY0 h1' ok0 ok1 (br_c (fun q => ?_) (fun q => nm_r (nI_1 e) (next (Or.inr (fun w => q w.2)) _ _ _ _ _ _ h1')))
      rw [if_pos ⟨be, q⟩] at hA
      exact hA ⟨bs, sc_m1 e (by omega)⟩ _ _ _ _ _ _
    refine br_f (by rw [hl]; exact nI_nlt (by omega) (by omega)) ?_
    rw [hl]
    by_cases n0 : n = 0
    · subst n0
      exact br_t (by decide) (try' ((hb s (by omega)).mpr (Or.inl rfl)) ((hb e (by omega)).mpr (Or.inl rfl)))
    · refine br_f (nI_nle (by omega) (by omega)) (y_cluster (t := 0) (by omega) htx hn hl (by omega) (br_c (fun a => nm_r (nI_1 e) (next (Or.inl (fun w => ((hb s (by omega)).mp w).elim n0 (fun y => y a))) _ _ _ _ _ _ h1)) (fun a => y_cluster (t := 0) (by omega) htx hn hl (by omega) (br_c (fun b => nm_r (nI_1 e) (next (Or.inr (fun w => ((hb e (by omega)).mp w.1).elim n0 (fun y => y b))) _ _ _ _ _ _ h1)) (fun b => try' ((hb s (by omega)).mpr (Or.inr a)) ((hb e (by omega)).mpr (Or.inr b)))))))
theorem y_se_l {post : Int32 → SY → Prop} {n m sv : Nat} {we ds es : Nat → Int32} {F1 E1 : List Int32} {Bk : Nat → Prop} (hn : n ≤ 16) (hl : le 0 = nI n) (hm : m ≤ 6) (hsv : sv ≤ 4) (htx : sc_Chr tx) (hc : ∀ i, vp_in (cl i) 10) (hd : sc_Dec dt df ds) (hpb : ∀ i, i < 48 → ¬ dt i = 0 → pb i = ds i) (hcm : sc_Chr cm) (hef : sc_Opt ef) (hes : ∀ i, i < 48 → ¬ ef i = -1 → vp_in (es i) 48 ∧ eb i = es i)
    (hw : ∀ c l, c < 48 → l < 3 → we (48 * l + c) = wt (3 * c + l)) (ok1 : sc_OK F1 E1) (hb : ∀ p, p ≤ n → (Bk p ↔ n = 0 ∨ ¬ sc_q (sc_kd ki tx 0) n 0 p = 0)) :
    ∀ (d s : Nat) (yn : Int32) (ro fm fL ee en : Nat → Int32), s + d = n + 1 → sc_SY wt 1 fm fL ee en F1 E1 →
    (∀ yn ro fm fL ee en, post (sc_se Bk (fun s e => sc_CS we (sc_nf cl dt df ds ex 0 (sc_ld tx 0 (e - s) s)) (sc_el cf cs cm m ef es (sc_nf cl dt df ds ex 0 (sc_ld tx 0 (e - s) s))) F1 E1 sv) n d s) (nI m, rl, yn, cl, dt, df, pb, lo, uf, us, fi, ki, wt, ef, eb, di, ex, cf, cs, cm, lg, tx, le, rr, ro, fm, fL, ee, en, ye, lv, se, pg, ou)) →
    wY_search_30 post (nI sv) (d + 1) (nI s) (nI m) rl yn cl dt df pb lo uf us fi ki wt ef eb di ex cf cs cm lg tx le rr ro fm fL ee en ye lv se pg ou := by
  intro d
  induction d with
  | zero =>
    intro s yn ro fm fL ee en he h1 h
    exact br_t (by rw [hl]; exact nI_lt (by omega) (by omega)) (h yn ro fm fL ee en)
  | succ d ih =>
    intro s yn ro fm fL ee en he h1 h
    unfold sc_se at h
    refine br_f (by rw [hl]; exact nI_nlt (by omega) (by omega)) ⟨n + 1 - s + 1, y_me_l (Bk := Bk) hn hl hm hsv htx hc hd hpb hcm hef hes hw ok1 hb (n + 1 - s) s yn ro fm fL ee en (by omega) (Nat.le_refl _) h1 (fun w yn ro fm fL ee en => ?_) (fun w yn ro fm fL ee en h1 => ih (s + 1) yn ro fm fL ee en (by omega) h1 (fun yn ro fm fL ee en => ?_))⟩
    · have g := h yn ro fm fL ee en
      rw [if_pos w] at g
      exact g
    · have g := h yn ro fm fL ee en
      rw [if_neg w] at g
      exact g
end
theorem i_vc_search {k : Nat} {u : SX} {v : SY} (I : i_Rel k u v) (hk : k + 5 ≤ 2560) (v1 : Int32) : wpX_search (fun r u' => wpY_search (fun r' v' => r' = r ∧ i_Rel (k + 5) u' v') v v1) u v1 := by
  obtain ⟨cc, rl, wl, yn, cl, dt, df, ds, ex, lo, uf, us, fi, ki, ef, es, di, we, cf, cs, cm, tx, le, rr, wk, sh, fo, fl, el, ec, ke, kl, em, oe, be, pl, po, pb, wt, eb, lg, ro, fm, fL, ee, en, rfl, rfl, I⟩ := I
  have I0 := I
  obtain ⟨⟨m, hm, rfl⟩, i2, i3, i4, i5, i6, i7, i8, i9, i10, i11, i12, i13, i14, i15, i16, i17⟩ := I
  obtain ⟨n0, hn0, hl0⟩ := i3 0 (by omega)
  obtain ⟨n1, hn1, hl1⟩ := i3 1 (by omega)
  unfold wpX_search
  refine xs_str (fun w => br_f (by decide) (nm_r hl0 ?_)) (fun w => br_t rfl ?_)
  rotate_left
  · unfold wpY_search
    exact ys_in (fun q => absurd q w) (fun _ => br_t rfl ⟨rfl, sc_mk I0⟩)
  obtain ⟨sv, sv1, sv4, rfl⟩ := sc_W1 (n := 4) (by omega) (by decide) w
  have ok1 := sc_okF (cl := cl) (ex := ex) (cf := cf) (cs := cs) (m := m) (t := 1) (b := 0) (e := n1) i4 i16 i12 i13 i14 hn1
  have main : ∀ pm : Nat, pm < 2 ^ 31 → (∀ p, p ≤ n0 → (pm.testBit p = true ↔ n0 = 0 ∨ ¬ sc_q (sc_kd ki tx 0) n0 0 p = 0)) →
      wX_search_31 (fun r u' => wpY_search (fun r' v' => r' = r ∧ i_Rel (k + 5) u' v') (nI m, rl, yn, cl, dt, df, pb, lo, uf, us, fi, ki, wt, ef, eb, di, ex, cf, cs, cm, lg, tx, le, rr, ro, fm, fL, ee, en, em, pl, be, po, oe) (nI sv)) (nI sv) (nI n0) (nI pm) (nI m) rl wl cl dt df ds ex lo uf us fi ki ef es di we cf cs cm tx le rr wk sh fo fl el ec ke kl em oe be pl po := by
    intro pm hpm hb
    unfold wX_search_31
    rw [hl1]
    refine x_loadSide (sd := 1) (t := 1) (b := 0) (by omega) (by omega) hn1 (by omega) hm i4 i16 i12 i13 i14 (fun wl wk fo1 fl1 el1 ec1 hS1 _ => ⟨n0 + 1 + 1, ?_⟩)
    refine x_se_l (Bk := fun p => n0 = 0 ∨ ¬ sc_q (sc_kd ki tx 0) n0 0 p = 0) hn0 hl0 hm sv4 i4 i16 i12 i13 i14 ok1 hpm hb (n0 + 1) 0 _ _ _ _ _ _ _ _ (by omega) hS1 (fun wl wk fo fl el ec ke kl => ?_)
    unfold wpY_search
    refine ys_in (fun _ => br_f (by decide) ?_) (fun q => absurd w q)
    rw [hl1]
    refine y_loadSide (sd := 1) (t := 1) (b := 0) (by omega) (by omega) hn1 (by omega) hm i4 i10 i16 i15 i12 i13 i14 (fun yn ro fm1 fL1 ee1 en1 hY1 _ => ⟨n0 + 1 + 1, ?_⟩)
    exact y_se_l (Bk := fun p => n0 = 0 ∨ ¬ sc_q (sc_kd ki tx 0) n0 0 p = 0) hn0 hl0 hm sv4 i4 i10 i16 i15 i12 i13 i14 i17 ok1 (fun p _ => Iff.rfl) (n0 + 1) 0 _ _ _ _ _ _ (by omega) hY1 (fun yn ro fm fL ee en => ⟨rfl, sc_mk I0⟩)
  by_cases z : n0 = 0
  · refine br_t (by rw [z]; rfl) (main 1 (by decide) (fun p hp => ?_))
    have : p = 0 := by omega
    subst this
    exact ⟨fun _ => Or.inl z, fun _ => by decide⟩
  · refine br_f (nI_ne0 (by omega) (by omega)) (x_findBreaks (t := 0) (kd := 0) (by omega) i4 hn0 hl0 (main _ (Nat.lt_of_lt_of_le (sc_bm_lt _ _) (Nat.pow_le_pow_right (by decide) (by omega))) (fun p hp => ?_)))
    rw [sc_bm_bit, decide_eq_true_iff]
    exact ⟨fun y => Or.inr y.2, fun y => ⟨by omega, y.elim (fun q => absurd q z) id⟩⟩
