/-! one side loaded, the other kept -/
def sc_SX (sd : Nat) (fo fl el ec : Nat → Int32) (F E : List Int32) : Prop := sc_Sg fo (64 * sd) F ∧ fl sd = nI F.length ∧ sc_Sg el (128 * sd) E ∧ ec sd = nI E.length
def sc_SY (wt : Nat → Int32) (sd : Nat) (fm fL ee en : Nat → Int32) (F E : List Int32) : Prop :=
  sc_Sg fm (64 * sd) F ∧ fL sd = nI F.length ∧ (∀ l, l < 3 → ∀ i, i < E.length → ee (384 * sd + 128 * l + i) = wt (3 * (sc_at E i).toNatClampNeg + l)) ∧ en sd = nI E.length
theorem sc_cpV (f : Nat → Int32) (o : Nat) : ∀ d i a j, sc_cp f o d i a j = if o + i ≤ j ∧ j < o + i + d then f (j - o) else a j := by
  intro d
  induction d with
  | zero => intro i a j; exact (if_neg (by omega)).symm
  | succ d ih =>
    intro i a j
    show sc_cp f o d (i + 1) (upd a (o + i) (f i)) j = _
    rw [ih]
    unfold upd
    by_cases h : o + (i + 1) ≤ j ∧ j < o + (i + 1) + d
    · rw [if_pos h, if_pos (by omega)]
    · rw [if_neg h]
      by_cases e : j = o + i
      · rw [if_pos e, if_pos (by omega), e, Nat.add_sub_cancel_left]
      · rw [if_neg e, if_neg (by omega)]
theorem sc_SgC {a : Nat → Int32} {F : List Int32} (o : Nat) (hr : sc_Rp a F) (b : Nat → Int32) : sc_Sg (sc_cp a o F.length 0 b) o F := by
  intro i hi
  rw [sc_cpV, if_pos (by omega), Nat.add_sub_cancel_left]
  exact hr i hi
section
variable {cc rl wl : Int32} {cl dt df ds ex lo uf us fi ki ef es di we cf cs cm tx le rr wk sh fo fl el ec ke kl em oe be pl po : Nat → Int32}
theorem x_cpf_l {post : SX → Prop} {sd N : Nat} (hs : sd < 2) (hN : N ≤ 64) : ∀ (d i : Nat) (fo : Nat → Int32), i + d = N →
    wpX_loadElements (fun u => match u with | (cc, rl, wl, cl, dt, df, ds, ex, lo, uf, us, fi, ki, ef, es, di, we, cf, cs, cm, tx, le, rr, wk, sh, fo, fl, el, ec, ke, kl, em, oe, be, pl, po) => post (cc, rl, wl, cl, dt, df, ds, ex, lo, uf, us, fi, ki, ef, es, di, we, cf, cs, cm, tx, le, rr, wk, sh, fo, fl, el, ec, ke, kl, em, oe, be, pl, po)) (cc, rl, nI N, cl, dt, df, ds, ex, lo, uf, us, fi, ki, ef, es, di, we, cf, cs, cm, tx, le, rr, wk, sh, sc_cp wk (64 * sd) d i fo, upd fl sd (nI N), el, ec, ke, kl, em, oe, be, pl, po) (nI sd) → wX_loadSide_18 post (nI sd) (nI (64 * sd)) cc rl (nI N) (d + 1) (nI i) cl dt df ds ex lo uf us fi ki ef es di we cf cs cm tx le rr wk sh fo fl el ec ke kl em oe be pl po := by
  intro d
  induction d with
  | zero => exact fun i fo hi h => br_t (nI_le (by omega) (by omega)) ⟨vp_in_nI hs (by decide), nm_r (by rw [nI_clamp (by omega)]) h⟩
  | succ d ih => exact fun i fo hi h => br_f (nI_ge (by omega) (by omega)) ⟨vp_in_nI (by omega) (by decide), pk_in (64 * sd + i) 128 (by omega) (nI_add _ _), nm_r (by rw [nI_add, nI_clamp (by omega), nI_clamp (by omega)]) (nm_r (nI_1 i) (ih (i + 1) _ (by omega) h))⟩
theorem x_loadSide {post : SX → Prop} {sd t b e m : Nat} {eb : Nat → Int32} (hs : sd < 2) (ht : t < 2) (he : e ≤ 16) (hb : b ≤ e) (hm : m ≤ 6) (htx : sc_Chr tx) (hd : sc_Dec dt df ds) (hcm : sc_Chr cm) (hef : sc_Opt ef) (hes : ∀ i, i < 48 → ¬ ef i = -1 → vp_in (es i) 48 ∧ eb i = es i)
    (h : ∀ wl wk fo' fl' el' ec', sc_SX sd fo' fl' el' ec' (sc_nf cl dt df ds ex 0 (sc_ld tx t (e - b) b)) (sc_el cf cs cm m ef es (sc_nf cl dt df ds ex 0 (sc_ld tx t (e - b) b))) →
      (∀ s' F' E', s' < 2 → ¬ s' = sd → F'.length ≤ 64 → E'.length ≤ 128 → sc_SX s' fo fl el ec F' E' → sc_SX s' fo' fl' el' ec' F' E') → post (nI m, rl, wl, cl, dt, df, ds, ex, lo, uf, us, fi, ki, ef, es, di, we, cf, cs, cm, tx, le, rr, wk, sh, fo', fl', el', ec', ke, kl, em, oe, be, pl, po)) : wpX_loadSide post (nI m, rl, wl, cl, dt, df, ds, ex, lo, uf, us, fi, ki, ef, es, di, we, cf, cs, cm, tx, le, rr, wk, sh, fo, fl, el, ec, ke, kl, em, oe, be, pl, po) (nI sd) (nI t) (nI b) (nI e) := by
  obtain ⟨n1, n2⟩ := sc_nfG (cl := cl) ex hd 0 (sc_ldA htx t (e - b) b) (by rw [sc_ldL]; omega)
  unfold wpX_loadSide
  refine x_form (f := 0) ht he hb (by omega) htx hd (fun wk1 hr1 => nm_r (e' := nI (64 * sd)) (by rw [show (64 : Int32) = nI 64 from rfl, pk_mul, Nat.mul_comm]) ⟨_, x_cpf_l hs n2 _ 0 fo (Nat.zero_add _) ?_⟩)
  unfold wpX_loadElements
  refine ⟨vp_in_nI hs (by decide), nm_r (e' := upd ec sd 0) (by rw [nI_clamp (by omega)]) ⟨_, x_el_l (el0 := el) (ec0 := ec) hs hm n2 n1 hr1 hef hes (sc_nf cl dt df ds ex 0 (sc_ld tx t (e - b) b)).length (sc_nf cl dt df ds ex 0 (sc_ld tx t (e - b) b)) [] [] el (upd ec sd 0) (Nat.le_refl _) rfl ?_ ?_ (fun el' ec' hP => ?_) _ (Nat.le_refl _)⟩⟩
  · have l0 : ([] : List Int32).length = 0 := rfl
    omega
  · exact ⟨fun i hi => absurd hi (Nat.not_lt_zero _), pk_us, fun j _ => rfl, fun j hj => pk_un hj⟩
  · obtain ⟨p1, p2, p3, p4⟩ := hP
    refine h _ _ _ _ _ _ ⟨sc_SgC _ hr1 fo, pk_us, p1, p2⟩ (fun s' F' E' hs' hne hF hE q => ?_)
    obtain ⟨q1, q2, q3, q4⟩ := q
    refine ⟨fun i hi => ?_, (pk_un hne).trans q2, fun i hi => ?_, (p4 s' hne).trans q4⟩
    · rw [sc_cpV, if_neg (by omega)]; exact q1 i hi
    · rw [p3 _ (by omega)]; exact q3 i hi
end
section
variable {cc rl yn : Int32} {cl dt df pb lo uf us fi ki wt ef eb di ex cf cs cm lg tx le rr ro fm fL ee en ye lv se pg ou : Nat → Int32}
theorem y_cpf_l {post : SY → Prop} {sd N : Nat} (hs : sd < 2) (hN : N ≤ 64) : ∀ (d i : Nat) (fm : Nat → Int32), i + d = N →
    (∃ n57 : Nat, wY_analyse_57 post (nI sd) n57 0 cc rl (nI N) cl dt df pb lo uf us fi ki wt ef eb di ex cf cs cm lg tx le rr ro (sc_cp ro (64 * sd) d i fm) fL ee en ye lv se pg ou) → wY_analyse_26 post (nI sd) 0 cc rl (nI N) (d + 1) (nI i) cl dt df pb lo uf us fi ki wt ef eb di ex cf cs cm lg tx le rr ro fm fL ee en ye lv se pg ou := by
  have e1 : ∀ i, 64 * nI sd + nI i = nI (64 * sd + i) := fun i => by rw [show (64 : Int32) = nI 64 from rfl, pk_mul, nI_add]
  intro d
  induction d with
  | zero => exact fun i fm hi h => br_t (nI_le (by omega) (by omega)) h
  | succ d ih => exact fun i fm hi h => br_f (nI_ge (by omega) (by omega)) ⟨vp_in_nI (by omega) (by decide), pk_in (64 * sd + i) 128 (by omega) (e1 i), nm_r (by rw [e1, nI_clamp (by omega), nI_clamp (by omega)]) (nm_r (nI_1 i) (ih (i + 1) _ (by omega) h))⟩
theorem y_loadSide {post : SY → Prop} {sd t b e m : Nat} {ds es : Nat → Int32} (hs : sd < 2) (ht : t < 2) (he : e ≤ 16) (hb : b ≤ e) (hm : m ≤ 6) (htx : sc_Chr tx) (hc : ∀ i, vp_in (cl i) 10) (hd : sc_Dec dt df ds) (hpb : ∀ i, i < 48 → ¬ dt i = 0 → pb i = ds i) (hcm : sc_Chr cm) (hef : sc_Opt ef) (hes : ∀ i, i < 48 → ¬ ef i = -1 → vp_in (es i) 48 ∧ eb i = es i)
    (h : ∀ yn ro fm' fL' ee' en', sc_SY wt sd fm' fL' ee' en' (sc_nf cl dt df ds ex 0 (sc_ld tx t (e - b) b)) (sc_el cf cs cm m ef es (sc_nf cl dt df ds ex 0 (sc_ld tx t (e - b) b))) →
      (∀ s' F' E', s' < 2 → ¬ s' = sd → F'.length ≤ 64 → E'.length ≤ 128 → sc_SY wt s' fm fL ee en F' E' → sc_SY wt s' fm' fL' ee' en' F' E') → post (nI m, rl, yn, cl, dt, df, pb, lo, uf, us, fi, ki, wt, ef, eb, di, ex, cf, cs, cm, lg, tx, le, rr, ro, fm', fL', ee', en', ye, lv, se, pg, ou)) :
    wpY_load (fun u => match u with | (cc, rl, yn, cl, dt, df, pb, lo, uf, us, fi, ki, wt, ef, eb, di, ex, cf, cs, cm, lg, tx, le, rr, ro, fm, fL, ee, en, ye, lv, se, pg, ou) => wpY_analyse post (cc, rl, yn, cl, dt, df, pb, lo, uf, us, fi, ki, wt, ef, eb, di, ex, cf, cs, cm, lg, tx, le, rr, ro, fm, fL, ee, en, ye, lv, se, pg, ou) (nI sd)) (nI m, rl, yn, cl, dt, df, pb, lo, uf, us, fi, ki, wt, ef, eb, di, ex, cf, cs, cm, lg, tx, le, rr, ro, fm, fL, ee, en, ye, lv, se, pg, ou) (nI t) (nI b) (nI e) := by
  obtain ⟨n1, n2⟩ := sc_nfG (cl := cl) ex hd 0 (sc_ldA htx t (e - b) b) (by rw [sc_ldL]; omega)
  refine y_load ht he hb (fun ro1 hq1 => ?_)
  unfold wpY_analyse
  refine y_norm (f := 0) (by omega) hc hd hpb (sc_ldA htx t _ _) (by rw [sc_ldL]; omega) hq1 (fun ro2 hr2 => ⟨vp_in_nI hs (by decide), nm_r (e' := upd fL sd (nI (sc_nf cl dt df ds ex 0 (sc_ld tx t (e - b) b)).length)) (by rw [nI_clamp (by omega)]) ⟨vp_in_nI hs (by decide), nm_r (e' := upd en sd 0) (by rw [nI_clamp (by omega)]) ⟨_, y_cpf_l hs n2 _ 0 fm (Nat.zero_add _) ⟨(sc_nf cl dt df ds ex 0 (sc_ld tx t (e - b) b)).length + 1, ?_⟩⟩⟩⟩)
  refine y_el_l (ee0 := ee) (en0 := en) hs hm n2 n1 hr2 hcm hef hes (sc_nf cl dt df ds ex 0 (sc_ld tx t (e - b) b)).length (sc_nf cl dt df ds ex 0 (sc_ld tx t (e - b) b)) [] [] ee (upd en sd 0) (Nat.le_refl _) rfl ?_ ?_ (fun ee' en' hP => ?_) _ (Nat.le_refl _)
  · have l0 : ([] : List Int32).length = 0 := rfl
    omega
  · exact ⟨fun l _ i hi => absurd hi (Nat.not_lt_zero _), pk_us, fun j _ => rfl, fun j hj => pk_un hj⟩
  · obtain ⟨p1, p2, p3, p4⟩ := hP
    refine h _ _ _ _ _ _ ⟨sc_SgC _ hr2 fm, pk_us, p1, p2⟩ (fun s' F' E' hs' hne hF hE q => ?_)
    obtain ⟨q1, q2, q3, q4⟩ := q
    refine ⟨fun i hi => ?_, (pk_un hne).trans q2, fun l hl i hi => ?_, (p4 s' hne).trans q4⟩
    · rw [sc_cpV, if_neg (by omega)]; exact q1 i hi
    · rw [p3 _ (by omega)]; exact q3 l hl i hi
end
