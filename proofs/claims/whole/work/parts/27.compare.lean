/-! key and compare -/
def sc_cz (c : Nat → Int32) (fin : Int32) (sv : Nat) : Nat → Nat → Int32
  | 0, _ => fin
  | d + 1, l => if sv ≤ l then fin else if c l = 0 then sc_cz c fin sv d (l + 1) else c l
def sc_ck (we : Nat → Int32) (E0 E1 : List Int32) (l : Nat) : Int32 := sc_cmp (sc_kh (sc_h we l E0) E0.length 0) (sc_kh (sc_h we l E1) E1.length 0)
def sc_CS (we : Nat → Int32) (F0 E0 F1 E1 : List Int32) (sv : Nat) : Int32 := sc_cz (sc_ck we E0 E1) (if sv = 4 then sc_cmp F0 F1 else 0) sv 3 0
def sc_OK (F E : List Int32) : Prop := F.length ≤ 64 ∧ E.length ≤ 128 ∧ sc_All E
theorem sc_at_big : ∀ (l : List Int32) (i : Nat), l.length ≤ i → sc_at l i = 0
  | [], _, _ => rfl
  | _ :: _, 0, h => absurd h (by simp)
  | _ :: l, i + 1, h => sc_at_big l i (Nat.le_of_succ_le_succ h)
theorem sc_W1 {x hi : Int32} {n : Nat} (hn : n < 2 ^ 31) (e : hi.toInt = n) (h : sc_W x 1 hi) : ∃ j : Nat, 1 ≤ j ∧ j ≤ n ∧ x = nI j := by
  obtain ⟨p, q⟩ := h
  have h0 : (0 : Int32).toInt = 0 := by decide
  have h1 : (1 : Int32).toInt = 1 := by decide
  have z : ¬ x < 0 := fun z => p (by rw [Int32.lt_iff_toInt_lt] at z ⊢; omega)
  obtain ⟨j, hj, rfl⟩ := nI_of z
  rw [Int32.lt_iff_toInt_lt, nI_toInt hj] at p q
  exact ⟨j, by omega, by omega, rfl⟩
section
variable {cc rl wl : Int32} {cl dt df ds ex lo uf us fi ki ef es di we cf cs cm tx le rr wk sh fo fl el ec ke kl em oe be pl po : Nat → Int32}
theorem x_CS_l {post : Int32 → SX → Prop} {sv : Nat} {F0 E0 F1 E1 : List Int32} (hsv : sv ≤ 4) (h0 : sc_SX 0 fo fl el ec F0 E0) (h1 : sc_SX 1 fo fl el ec F1 E1) (o0 : sc_OK F0 E0) (o1 : sc_OK F1 E1) :
    ∀ (d l : Nat) (ke kl : Nat → Int32), l + d = 3 → (∀ ke kl, post (sc_cz (sc_ck we E0 E1) (if sv = 4 then sc_cmp F0 F1 else 0) sv d l) (cc, rl, wl, cl, dt, df, ds, ex, lo, uf, us, fi, ki, ef, es, di, we, cf, cs, cm, tx, le, rr, wk, sh, fo, fl, el, ec, ke, kl, em, oe, be, pl, po)) → wX_compareSides_2 post (nI sv) (d + 1) (nI (l + 1)) cc rl wl cl dt df ds ex lo uf us fi ki ef es di we cf cs cm tx le rr wk sh fo fl el ec ke kl em oe be pl po := by
  have fin : ∀ ke kl, post (if sv = 4 then sc_cmp F0 F1 else 0) (cc, rl, wl, cl, dt, df, ds, ex, lo, uf, us, fi, ki, ef, es, di, we, cf, cs, cm, tx, le, rr, wk, sh, fo, fl, el, ec, ke, kl, em, oe, be, pl, po) → wX_compareSides_52 post (nI sv) cc rl wl cl dt df ds ex lo uf us fi ki ef es di we cf cs cm tx le rr wk sh fo fl el ec ke kl em oe be pl po := by
    intro ke kl h
    refine pk_eq sv 4 (fun e => ?_) (fun e => ?_)
    · rw [if_pos e] at h
      exact ⟨F0.length + 1, x_cmpf_l (K0 := F0) (K1 := F1) h0.1 h1.1 h0.2.1 h1.2.1 o0.1 o1.1 F0 F1 [] [] rfl rfl rfl h⟩
    · rw [if_neg e] at h; exact h
  intro d
  induction d with
  | zero =>
    intro l ke kl hl h
    obtain rfl : l = 3 := by omega
    exact br_t (by decide) (fin ke kl (h ke kl))
  | succ d ih =>
    intro l ke kl hl h
    unfold sc_cz at h
    refine br_f (nI_ge (b := 4) (by omega) (by decide)) ?_
    by_cases e : sv ≤ l
    · rw [if_pos e] at h
      exact br_t (nI_lt (by omega) (by omega)) (fin ke kl (h ke kl))
    · rw [if_neg e] at h
      refine br_f (nI_nlt (by omega) (by omega)) (x_loadKey (sd := 0) (by omega) (by omega) o0.2.1 o0.2.2 h0 (fun ke1 kl1 k1 _ => x_loadKey (sd := 1) (by omega) (by omega) o1.2.1 o1.2.2 h1 (fun ke2 kl2 k2 pr => ?_)))
      have b0 := sc_khL (sc_h we l E0) E0.length 0
      have b1 := sc_khL (sc_h we l E1) E1.length 0
      have q0 := o0.2.1
      have q1 := o1.2.1
      have k0 := pr 0 _ (by omega) (by omega) (by omega) k1
      refine ⟨(sc_kh (sc_h we l E0) E0.length 0).length + 1, x_cmpk_l (K0 := sc_kh (sc_h we l E0) E0.length 0) (K1 := sc_kh (sc_h we l E1) E1.length 0) k0.1 k2.1 k0.2 k2.2 (by omega) (by omega) _ _ [] [] rfl rfl rfl ?_⟩
      refine br_c (fun z => nm_r (nI_1 _) (ih (l + 1) ke2 kl2 (by omega) ?_)) (fun z => ?_)
      · intro ke kl
        have g := h ke kl
        rw [if_pos (show sc_ck we E0 E1 l = 0 from z)] at g
        exact g
      · have g := h ke2 kl2
        rw [if_neg (show ¬ sc_ck we E0 E1 l = 0 from z)] at g
        exact g
theorem x_CS {post : Int32 → SX → Prop} {sv : Nat} {F0 E0 F1 E1 : List Int32} (hsv : sv ≤ 4) (h0 : sc_SX 0 fo fl el ec F0 E0) (h1 : sc_SX 1 fo fl el ec F1 E1) (o0 : sc_OK F0 E0) (o1 : sc_OK F1 E1)
    (h : ∀ ke kl, post (sc_CS we F0 E0 F1 E1 sv) (cc, rl, wl, cl, dt, df, ds, ex, lo, uf, us, fi, ki, ef, es, di, we, cf, cs, cm, tx, le, rr, wk, sh, fo, fl, el, ec, ke, kl, em, oe, be, pl, po)) : wpX_compareSides post (cc, rl, wl, cl, dt, df, ds, ex, lo, uf, us, fi, ki, ef, es, di, we, cf, cs, cm, tx, le, rr, wk, sh, fo, fl, el, ec, ke, kl, em, oe, be, pl, po) (nI sv) := ⟨4, x_CS_l hsv h0 h1 o0 o1 3 0 ke kl rfl h⟩
end
section
variable {cc rl yn : Int32} {cl dt df pb lo uf us fi ki wt ef eb di ex cf cs cm lg tx le rr ro fm fL ee en ye lv se pg ou : Nat → Int32}
theorem y_ck {we : Nat → Int32} (hw : ∀ c l, c < 48 → l < 3 → we (48 * l + c) = wt (3 * c + l)) {sd l : Nat} (hl : l < 3) {F E : List Int32} (h : sc_SY wt sd fm fL ee en F E) (hA : sc_All E) :
    sc_kh (fun i => ee (384 * sd + 128 * l + i)) E.length 0 = sc_kh (sc_h we l E) E.length 0 := by
  refine sc_khE _ _ (fun j _ hj => ?_)
  show ee (384 * sd + 128 * l + j) = _
  rw [h.2.2.1 l hl j (by omega), ← hw _ l (sn_cl (hA _ (sc_at_mem E j (by omega)))) hl]
  rfl
theorem y_CS_l {post : Int32 → Prop} {we : Nat → Int32} (hw : ∀ c l, c < 48 → l < 3 → we (48 * l + c) = wt (3 * c + l)) {sv : Nat} {F0 E0 F1 E1 : List Int32} (hsv : sv ≤ 4) (h0 : sc_SY wt 0 fm fL ee en F0 E0) (h1 : sc_SY wt 1 fm fL ee en F1 E1) (o0 : sc_OK F0 E0) (o1 : sc_OK F1 E1) :
    ∀ (d l : Nat), l + d = 3 → post (sc_cz (sc_ck we E0 E1) (if sv = 4 then sc_cmp F0 F1 else 0) sv d l) → wY_compareSides_2 post (nI sv) cc rl yn cl dt df pb lo uf us fi ki wt ef eb di ex cf cs cm lg tx le rr ro fm fL ee en ye lv se pg ou (d + 1) (nI l) := by
  have fin : post (if sv = 4 then sc_cmp F0 F1 else 0) → wY_compareSides_30 post (nI sv) cc rl yn cl dt df pb lo uf us fi ki wt ef eb di ex cf cs cm lg tx le rr ro fm fL ee en ye lv se pg ou := by
    intro h
    refine pk_eq sv 4 (fun e => ?_) (fun e => ?_)
    · rw [if_pos e] at h
      exact ⟨F0.length + 1, y_cmpf_l (K0 := F0) (K1 := F1) h0.1 h1.1 h0.2.1 h1.2.1 o0.1 o1.1 F0 F1 [] [] rfl rfl rfl h⟩
    · rw [if_neg e] at h; exact h
  intro d
  induction d with
  | zero =>
    intro l hl h
    obtain rfl : l = 3 := by omega
    exact br_t (by decide) (fin h)
  | succ d ih =>
    intro l hl h
    unfold sc_cz at h
    refine br_f (nI_ge (b := 3) (by omega) (by decide)) ?_
    by_cases e : sv ≤ l
    · rw [if_pos e] at h
      exact br_t (nI_le e (by omega)) (fin h)
    · rw [if_neg e] at h
      refine br_f (nI_ge (by omega) (by omega)) (y_cmpk (by omega) o0.2.1 o1.2.1 h0.2.2.2 h1.2.2.2 ?_)
      rw [y_ck hw (by omega) h0 o0.2.2, y_ck hw (by omega) h1 o1.2.2]
      refine br_c (fun z => nm_r (nI_1 _) (ih (l + 1) (by omega) ?_)) (fun z => ?_)
      · rw [if_pos (show sc_ck we E0 E1 l = 0 from z)] at h; exact h
      · rw [if_neg (show ¬ sc_ck we E0 E1 l = 0 from z)] at h; exact h
theorem y_CS {post : Int32 → Prop} {we : Nat → Int32} (hw : ∀ c l, c < 48 → l < 3 → we (48 * l + c) = wt (3 * c + l)) {sv : Nat} {F0 E0 F1 E1 : List Int32} (hsv : sv ≤ 4) (h0 : sc_SY wt 0 fm fL ee en F0 E0) (h1 : sc_SY wt 1 fm fL ee en F1 E1) (o0 : sc_OK F0 E0) (o1 : sc_OK F1 E1)
    (h : post (sc_CS we F0 E0 F1 E1 sv)) : wpY_compareSides post (cc, rl, yn, cl, dt, df, pb, lo, uf, us, fi, ki, wt, ef, eb, di, ex, cf, cs, cm, lg, tx, le, rr, ro, fm, fL, ee, en, ye, lv, se, pg, ou) (nI sv) := ⟨4, y_CS_l hw hsv h0 h1 o0 o1 3 0 rfl h⟩
end
theorem sc_okF {cl dt df ds ex cf cs cm ef es eb tx : Nat → Int32} {m t b e : Nat} (htx : sc_Chr tx) (hd : sc_Dec dt df ds) (hcm : sc_Chr cm) (hef : sc_Opt ef) (hes : ∀ i, i < 48 → ¬ ef i = -1 → vp_in (es i) 48 ∧ eb i = es i) (he : e ≤ 16) :
    sc_OK (sc_nf cl dt df ds ex 0 (sc_ld tx t (e - b) b)) (sc_el cf cs cm m ef es (sc_nf cl dt df ds ex 0 (sc_ld tx t (e - b) b))) := by
  obtain ⟨n1, n2⟩ := sc_nfG (cl := cl) ex hd 0 (sc_ldA htx t (e - b) b) (by rw [sc_ldL]; omega)
  obtain ⟨a1, a2⟩ := sc_elP (cf := cf) (cs := cs) (m := m) hcm hef hes _ _ (Nat.le_refl _) n1
  exact ⟨n2, by omega, a1⟩
theorem i_vc_key {k : Nat} {u : SX} {v : SY} (I : i_Rel k u v) (hk : k + 5 ≤ 2560) (v1 : Int32) (v2 : Int32) (v3 : Int32) : wpX_key (fun r u' => wpY_key (fun r' v' => r' = r ∧ i_Rel (k + 5) u' v') v v1 v2 v3) u v1 v2 v3 := by
  obtain ⟨cc, rl, wl, yn, cl, dt, df, ds, ex, lo, uf, us, fi, ki, ef, es, di, we, cf, cs, cm, tx, le, rr, wk, sh, fo, fl, el, ec, ke, kl, em, oe, be, pl, po, pb, wt, eb, lg, ro, fm, fL, ee, en, rfl, rfl, I⟩ := I
  have I0 := I
  obtain ⟨⟨m, hm, rfl⟩, i2, i3, i4, i5, i6, i7, i8, i9, i10, i11, i12, i13, i14, i15, i16, i17⟩ := I
  unfold wpX_key
  rcases sn_text v1 with ⟨t, ht, rfl⟩ | ⟨h0, h1, h2⟩
  rotate_left
  · refine xs_text0 h2 (br_t rfl ?_)
    unfold wpY_key
    exact ys_text0 h0 h1 (br_t rfl ⟨rfl, sc_mk I0⟩)
  obtain ⟨n, hn, hl⟩ := i3 t ht
  have hL : le (nI t).toNatClampNeg = nI n := by rw [nI_clamp (by omega), hl]
  have bad : ¬ sc_W v2 1 3 → wpY_key (fun r' v' => r' = 0 ∧ i_Rel (k + 5) (nI m, rl, wl, cl, dt, df, ds, ex, lo, uf, us, fi, ki, ef, es, di, we, cf, cs, cm, tx, le, rr, wk, sh, fo, fl, el, ec, ke, kl, em, oe, be, pl, po) v') (nI m, rl, yn, cl, dt, df, pb, lo, uf, us, fi, ki, wt, ef, eb, di, ex, cf, cs, cm, lg, tx, le, rr, ro, fm, fL, ee, en, em, pl, be, po, oe) (nI t) v2 v3 := by
    intro z
    unfold wpY_key
    exact ys_text1 ht (br_f (by decide) (ys_in (fun y => absurd y z) (fun _ => br_t rfl ⟨rfl, sc_mk I0⟩)))
  refine xs_text1 ht (br_f (by decide) (br_c (fun z => bad (fun y => y.1 z)) (fun z => br_c (fun y => bad (fun w => w.2 y)) (fun y => ?_))))
  have w13 : sc_W v2 1 3 := ⟨z, y⟩
  by_cases hp0 : 0 ≤ v3
  rotate_left
  · refine br_f hp0 ?_
    unfold wpY_key
    exact ys_text1 ht (br_f (by decide) (ys_in (fun _ => br_f (by decide) (br_f hp0 ⟨rfl, sc_mk I0⟩)) (fun q => absurd w13 q)))
  obtain ⟨j, j1, j3, rfl⟩ := sc_W1 (n := 3) (by omega) (by decide) w13
  obtain ⟨l, rfl⟩ : ∃ l, j = l + 1 := ⟨j - 1, by omega⟩
  obtain ⟨p, hp, rfl⟩ := nI_of (Int32.not_lt.mpr hp0)
  have ok := sc_okF (cl := cl) (ex := ex) (cf := cf) (cs := cs) (m := m) (t := t) (b := 0) (e := n) i4 i16 i12 i13 i14 hn
  refine br_t hp0 ⟨vp_in_nI ht (by decide), ?_⟩
  rw [hL]
  refine x_loadSide (sd := 0) (b := 0) (by omega) ht hn (by omega) hm i4 i16 i12 i13 i14 (fun wl wk fo' fl' el' ec' hS _ => x_loadKey (sd := 0) (by omega) (by omega) ok.2.1 ok.2.2 hS (fun ke' kl' hK _ => ?_))
  have key : ∀ x, x = sc_at (sc_kh (sc_h we l (sc_el cf cs cm m ef es (sc_nf cl dt df ds ex 0 (sc_ld tx t (n - 0) 0)))) (sc_el cf cs cm m ef es (sc_nf cl dt df ds ex 0 (sc_ld tx t (n - 0) 0))).length 0) p →
      wpY_key (fun r' v' => r' = x ∧ i_Rel (k + 5) (nI m, rl, wl, cl, dt, df, ds, ex, lo, uf, us, fi, ki, ef, es, di, we, cf, cs, cm, tx, le, rr, wk, sh, fo', fl', el', ec', ke', kl', em, oe, be, pl, po) v') (nI m, rl, yn, cl, dt, df, pb, lo, uf, us, fi, ki, wt, ef, eb, di, ex, cf, cs, cm, lg, tx, le, rr, ro, fm, fL, ee, en, em, pl, be, po, oe) (nI t) (nI (l + 1)) (nI p) := by
    intro x ex'
    unfold wpY_key
    refine ys_text1 ht (br_f (by decide) (ys_in (fun _ => br_f (by decide) (br_t hp0 ⟨vp_in_nI ht (by decide), ?_⟩)) (fun q => absurd w13 q)))
    rw [hL]
    refine y_loadSide (sd := 0) (b := 0) (by omega) ht hn (by omega) hm i4 i10 i16 i15 i12 i13 i14 (fun yn ro fm' fL' ee' en' hY _ => ?_)
    rw [nI_pred]
    obtain ⟨a1, a2, a3, a4⟩ := sc_nwR (fun i => ee' (384 * 0 + 128 * l + i)) (sc_el cf cs cm m ef es (sc_nf cl dt df ds ex 0 (sc_ld tx t (n - 0) 0))).length 0
    refine y_nw (sd := 0) (i := 0) (by omega) (by omega) ok.2.1 hY.2.2.2 (by omega) ⟨(sc_el cf cs cm m ef es (sc_nf cl dt df ds ex 0 (sc_ld tx t (n - 0) 0))).length + 1, y_at_l (by omega) hp ok.2.1 hY.2.2.2 _ _ 0 (by omega) ?_ (by omega) ?_ ⟨?_, sc_mk I0⟩⟩
    · rw [Nat.sub_zero]; omega
    · rw [Nat.sub_zero]; exact fun z => a3 (by omega)
    · rw [ex', ← y_ck i17 (by omega) hY ok.2.2, a4]
      simp only [Nat.sub_zero, Nat.zero_add]
  have b0 := sc_khL (sc_h we l (sc_el cf cs cm m ef es (sc_nf cl dt df ds ex 0 (sc_ld tx t (n - 0) 0)))) (sc_el cf cs cm m ef es (sc_nf cl dt df ds ex 0 (sc_ld tx t (n - 0) 0))).length 0
  have b1 := ok.2.1
  show (kl' 0 ≤ nI p → _) ∧ (¬ kl' 0 ≤ nI p → _)
  rw [show kl' 0 = nI _ from hK.2]
  by_cases e : p < (sc_kh (sc_h we l (sc_el cf cs cm m ef es (sc_nf cl dt df ds ex 0 (sc_ld tx t (n - 0) 0)))) (sc_el cf cs cm m ef es (sc_nf cl dt df ds ex 0 (sc_ld tx t (n - 0) 0))).length 0).length
  · refine br_f (nI_ge e (by omega)) ⟨vp_in_nI (by omega) (by decide), key _ ?_⟩
    have := hK.1 p e
    rw [Nat.mul_zero, Nat.zero_add] at this
    rw [nI_clamp (by omega)]; exact this
  · refine br_t (nI_le (by omega) (by omega)) (key _ ?_)
    rw [sc_at_big _ _ (by omega)]
section
variable {cc rl wl : Int32} {cl dt df ds ex lo uf us fi ki ef es di we cf cs cm tx le rr wk sh fo fl el ec ke kl em oe be pl po : Nat → Int32}
theorem xs_str {post : Int32 → Prop} {a : Int32} (h1 : sc_W a 1 4 → post 1) (h0 : ¬ sc_W a 1 4 → post 0) : wpX_isStrength post (cc, rl, wl, cl, dt, df, ds, ex, lo, uf, us, fi, ki, ef, es, di, we, cf, cs, cm, tx, le, rr, wk, sh, fo, fl, el, ec, ke, kl, em, oe, be, pl, po) a :=
  br_c (fun z => h0 (fun w => w.1 z)) (fun z => br_c (fun y => h0 (fun w => w.2 y)) (fun y => h1 ⟨z, y⟩))
end
theorem i_vc_compare {k : Nat} {u : SX} {v : SY} (I : i_Rel k u v) (hk : k + 5 ≤ 2560) (v1 : Int32) : wpX_compare (fun r u' => wpY_compare (fun r' v' => r' = r ∧ i_Rel (k + 5) u' v') v v1) u v1 := by
  obtain ⟨cc, rl, wl, yn, cl, dt, df, ds, ex, lo, uf, us, fi, ki, ef, es, di, we, cf, cs, cm, tx, le, rr, wk, sh, fo, fl, el, ec, ke, kl, em, oe, be, pl, po, pb, wt, eb, lg, ro, fm, fL, ee, en, rfl, rfl, I⟩ := I
  have I0 := I
  obtain ⟨⟨m, hm, rfl⟩, i2, i3, i4, i5, i6, i7, i8, i9, i10, i11, i12, i13, i14, i15, i16, i17⟩ := I
  obtain ⟨n0, hn0, hl0⟩ := i3 0 (by omega)
  obtain ⟨n1, hn1, hl1⟩ := i3 1 (by omega)
  unfold wpX_compare
  refine xs_str (fun w => br_f (by decide) ?_) (fun w => br_t rfl ?_)
  · obtain ⟨sv, sv1, sv4, rfl⟩ := sc_W1 (n := 4) (by omega) (by decide) w
    have ok0 := sc_okF (cl := cl) (ex := ex) (cf := cf) (cs := cs) (m := m) (t := 0) (b := 0) (e := n0) i4 i16 i12 i13 i14 hn0
    have ok1 := sc_okF (cl := cl) (ex := ex) (cf := cf) (cs := cs) (m := m) (t := 1) (b := 0) (e := n1) i4 i16 i12 i13 i14 hn1
    rw [hl0]
    refine x_loadSide (sd := 0) (t := 0) (b := 0) (by omega) (by omega) hn0 (by omega) hm i4 i16 i12 i13 i14 (fun wl wk fo1 fl1 el1 ec1 hS0 _ => ?_)
    dsimp only
    rw [hl1]
    refine x_loadSide (sd := 1) (t := 1) (b := 0) (by omega) (by omega) hn1 (by omega) hm i4 i16 i12 i13 i14 (fun wl wk fo2 fl2 el2 ec2 hS1 pr => ?_)
    refine x_CS sv4 (pr 0 _ _ (by omega) (by omega) ok0.1 ok0.2.1 hS0) hS1 ok0 ok1 (fun ke kl => ?_)
    unfold wpY_compare
    refine ys_in (fun _ => br_f (by decide) ?_) (fun q => absurd w q)
    rw [hl0]
    refine y_loadSide (sd := 0) (t := 0) (b := 0) (by omega) (by omega) hn0 (by omega) hm i4 i10 i16 i15 i12 i13 i14 (fun yn ro fm1 fL1 ee1 en1 hY0 _ => ?_)
    dsimp only
    rw [hl1]
    refine y_loadSide (sd := 1) (t := 1) (b := 0) (by omega) (by omega) hn1 (by omega) hm i4 i10 i16 i15 i12 i13 i14 (fun yn ro fm2 fL2 ee2 en2 hY1 qr => ?_)
    exact y_CS i17 sv4 (qr 0 _ _ (by omega) (by omega) ok0.1 ok0.2.1 hY0) hY1 ok0 ok1 ⟨rfl, sc_mk I0⟩
  · unfold wpY_compare
    exact ys_in (fun q => absurd q w) (fun _ => br_t rfl ⟨rfl, sc_mk I0⟩)
