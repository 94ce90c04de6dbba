/-! setting a decomposition: shares on both sides against one recurrence -/
def sc_sv (dt df ds s : Nat → Int32) (k : Nat) : Int32 := if dt k = 0 then 1 else if ds k = -1 then s (df k).toNatClampNeg else s (df k).toNatClampNeg + s (ds k).toNatClampNeg
def sc_sa (dt df ds : Nat → Int32) : Nat → Nat → Int32
  | 0 => fun _ => 0
  | k + 1 => upd (sc_sa dt df ds k) k (sc_sv dt df ds (sc_sa dt df ds k) k)
def sc_T (dt df ds : Nat → Int32) (j : Nat) : Int32 := sc_sa dt df ds (j + 1) j
def sc_SD (dt df ds : Nat → Int32) : Prop := ∀ i, i < 48 → ¬ dt i = 0 → (∃ j, j < i ∧ df i = nI j) ∧ (ds i = -1 ∨ ∃ j, j < i ∧ ds i = nI j)
theorem sc_saT (dt df ds : Nat → Int32) : ∀ k j, j < k → sc_sa dt df ds k j = sc_T dt df ds j := by
  intro k
  induction k with
  | zero => intro j h; omega
  | succ k ih =>
    intro j h
    by_cases e : j = k
    · subst e; rfl
    · exact (pk_un e).trans (ih j (by omega))
theorem sc_svT {dt df ds s : Nat → Int32} {k : Nat} (sd : sc_SD dt df ds) (hk : k < 48) (h : ∀ j, j < k → s j = sc_T dt df ds j) : sc_sv dt df ds s k = sc_T dt df ds k := by
  have e : sc_T dt df ds k = sc_sv dt df ds (sc_sa dt df ds k) k := pk_us
  rw [e]
  unfold sc_sv
  by_cases h0 : dt k = 0
  · rw [if_pos h0, if_pos h0]
  · rw [if_neg h0, if_neg h0]
    obtain ⟨⟨j, hj, ej⟩, h2⟩ := sd k hk h0
    rw [ej, nI_clamp (by omega), h j hj, sc_saT _ _ _ k j hj]
    rcases h2 with h2 | ⟨i, hi, ei⟩
    · rw [if_pos h2, if_pos h2]
    · rw [ei, nI_clamp (by omega), h i hi, sc_saT _ _ _ k i hi]
theorem sc_m1 (j : Nat) (hj : j < 2 ^ 31) : ¬ nI j = -1 := fun z => absurd (z ▸ nI_pos hj) (by decide)
theorem sc_Tn {dt df ds : Nat → Int32} (sd : sc_SD dt df ds) (h4 : ∀ j, j < 48 → sc_T dt df ds j ≤ 4) : ∀ N k, k < N → k < 48 → ∃ l : Nat, 1 ≤ l ∧ l ≤ 4 ∧ sc_T dt df ds k = nI l := by
  intro N
  induction N with
  | zero => intro k h; omega
  | succ N ih =>
    intro k hN hk
    have e := sc_svT (s := sc_T dt df ds) sd hk (fun j _ => rfl)
    have h := h4 k hk
    rw [← e] at h ⊢
    unfold sc_sv at h ⊢
    by_cases h0 : dt k = 0
    · rw [if_pos h0]; exact ⟨1, by omega, by omega, rfl⟩
    · rw [if_neg h0] at h ⊢
      obtain ⟨⟨j, hj, ej⟩, h2⟩ := sd k hk h0
      obtain ⟨l, l1, l2, el⟩ := ih j (by omega) (by omega)
      rw [ej, nI_clamp (by omega), el] at h ⊢
      rcases h2 with h2 | ⟨i, hi, ei⟩
      · rw [if_pos h2]; exact ⟨l, l1, l2, rfl⟩
      · obtain ⟨l', l1', l2', el'⟩ := ih i (by omega) (by omega)
        rw [ei, if_neg (sc_m1 i (by omega)), nI_clamp (by omega), el', nI_add] at h ⊢
        exact ⟨l + l', by omega, (nI_leI (b := 4) (by omega) (by decide)).mp h, rfl⟩
theorem sc_TL {dt df ds : Nat → Int32} (sd : sc_SD dt df ds) (h4 : ∀ j, j < 48 → sc_T dt df ds j ≤ 4) : ∃ L, sc_Pot dt df ds L := by
  have key : ∀ k, k < 48 → ∃ l : Nat, 1 ≤ l ∧ l ≤ 4 ∧ sc_T dt df ds k = nI l := fun k hk => sc_Tn sd h4 48 k hk hk
  refine ⟨fun j => if j < 48 then (sc_T dt df ds j).toNatClampNeg else 1, ?_, ?_⟩
  · intro i
    by_cases hi : i < 48
    · obtain ⟨l, l1, l2, e⟩ := key i hi
      simp only [if_pos hi, e, nI_clamp (show l < 2 ^ 31 by omega)]
      exact ⟨l1, l2⟩
    · simp only [if_neg hi]; omega
  · intro k hk h0
    have e := sc_svT (s := sc_T dt df ds) sd hk (fun j _ => rfl)
    unfold sc_sv at e
    rw [if_neg h0] at e
    obtain ⟨⟨j, hj, ej⟩, h2⟩ := sd k hk h0
    obtain ⟨l, l1, l2, el⟩ := key j (by omega)
    have hj48 : j < 48 := by omega
    rw [ej, nI_clamp (by omega), el] at e
    rw [ej, nI_clamp (by omega)]
    rcases h2 with h2 | ⟨i, hi, ei⟩
    · rw [if_pos h2] at e
      rw [if_pos h2]
      simp only [if_pos hk, if_pos hj48, ← e, el]
      omega
    · obtain ⟨l', l1', l2', el'⟩ := key i (by omega)
      have hi48 : i < 48 := by omega
      rw [ei, if_neg (sc_m1 i (by omega)), nI_clamp (by omega), el', nI_add] at e
      rw [ei, if_neg (sc_m1 i (by omega)), nI_clamp (by omega)]
      simp only [if_pos hk, if_pos hj48, if_pos hi48, ← e, el, el', nI_clamp (show l + l' < 2 ^ 31 by omega), nI_clamp (show l < 2 ^ 31 by omega), nI_clamp (show l' < 2 ^ 31 by omega)]
      omega
theorem sc_back (f : Nat → Int32) (c : Nat) (x : Int32) : upd (upd f c x) c (f c) = f := by
  funext j
  unfold upd
  by_cases e : j = c
  · rw [if_pos e, e]
  · rw [if_neg e, if_neg e]
section
variable {cc rl wl : Int32} {cl dt df ds ex lo uf us fi ki ef es di we cf cs cm tx le rr wk sh fo fl el ec ke kl em oe be pl po : Nat → Int32}
theorem x_shareOf {post : Int32 → Prop} {p q : Int32} (hp : vp_in p 48) (hq : q = -1 ∨ vp_in q 48) (h : post (if q = -1 then sh p.toNatClampNeg else sh p.toNatClampNeg + sh q.toNatClampNeg)) : wpX_shareOf post (cc, rl, wl, cl, dt, df, ds, ex, lo, uf, us, fi, ki, ef, es, di, we, cf, cs, cm, tx, le, rr, wk, sh, fo, fl, el, ec, ke, kl, em, oe, be, pl, po) p q := by
  refine br_c (fun z => ⟨hp, ?_⟩) (fun z => ⟨hp, hq.elim (fun y => absurd y z) id, ?_⟩)
  · rw [if_pos z] at h; exact h
  · rw [if_neg z] at h; exact h
theorem x_sh_l {post : Int32 → SX → Prop} {c : Nat} {w a b : Int32} (hc : c < 48) (hw : ¬ w = 0) (sd : sc_SD (upd dt c w) (upd df c a) (upd ds c b))
    (h1 : (∀ j, j < 48 → sc_T (upd dt c w) (upd df c a) (upd ds c b) j ≤ 4) → ∀ sh, post 1 (cc, rl, wl, cl, dt, df, ds, ex, lo, uf, us, fi, ki, ef, es, di, we, cf, cs, cm, tx, le, rr, wk, sh, fo, fl, el, ec, ke, kl, em, oe, be, pl, po))
    (h0 : ¬ (∀ j, j < 48 → sc_T (upd dt c w) (upd df c a) (upd ds c b) j ≤ 4) → ∀ sh, post 0 (cc, rl, wl, cl, dt, df, ds, ex, lo, uf, us, fi, ki, ef, es, di, we, cf, cs, cm, tx, le, rr, wk, sh, fo, fl, el, ec, ke, kl, em, oe, be, pl, po)) :
    ∀ (d k : Nat) (sh : Nat → Int32), k + d = 48 → (∀ j, j < k → sh j = sc_T (upd dt c w) (upd df c a) (upd ds c b) j) → (∀ j, j < k → sc_T (upd dt c w) (upd df c a) (upd ds c b) j ≤ 4) →
    wX_sharesStaySmall_3 post (nI c) a b cc rl wl (d + 1) (nI k) cl dt df ds ex lo uf us fi ki ef es di we cf cs cm tx le rr wk sh fo fl el ec ke kl em oe be pl po := by
  intro d
  induction d with
  | zero =>
    intro k sh hk hs h4
    obtain rfl : k = 48 := by omega
    exact br_t (nI_le (a := 48) (by omega) (by omega)) (h1 h4 sh)
  | succ d ih =>
    intro k sh hk hs h4
    have v : vp_in (nI k) 48 := vp_in_nI (by omega) (by decide)
    have ck : (nI k).toNatClampNeg = k := nI_clamp (by omega)
    have hsv := sc_svT (s := sh) sd (by omega : k < 48) hs
    have step : ∀ r : Int32, r = sc_T (upd dt c w) (upd df c a) (upd ds c b) k → vp_in (nI k) 48 ∧ ∀ y, y = upd sh (nI k).toNatClampNeg r → wX_sharesStaySmall_78 post (wX_sharesStaySmall_3 post (nI c) a b cc rl wl (d + 1)) (nI c) a b (nI k) cc rl wl cl dt df ds ex lo uf us fi ki ef es di we cf cs cm tx le rr wk y fo fl el ec ke kl em oe be pl po := by
      intro r er
      refine ⟨v, nm_r (e' := upd sh k r) (by rw [ck]) ⟨v, br_c (fun z => nm_r (nI_1 k) (ih (k + 1) (upd sh k r) (by omega) ?_ ?_)) (fun z => h0 (fun q => z ?_) _)⟩⟩
      · intro j hj
        by_cases e : j = k
        · subst e; exact pk_us.trans er
        · exact (pk_un e).trans (hs j (by omega))
      · intro j hj
        by_cases e : j = k
        · subst e; rw [ck, pk_us, er] at z; exact z
        · exact h4 j (by omega)
      · rw [ck, pk_us, er]; exact q k (by omega)
    refine br_f (nI_ge (b := 48) (by omega) (by decide)) ?_
    by_cases e : k = c
    · refine br_t (by rw [e]) ?_
      have g := sd k (by omega) (by rw [e, pk_us]; exact hw)
      rw [e, pk_us, pk_us] at g
      obtain ⟨⟨j, hj, ej⟩, g2⟩ := g
      refine x_shareOf (by rw [ej]; exact vp_in_nI (by omega) (by decide)) (g2.elim Or.inl (fun ⟨i, hi, ei⟩ => Or.inr (by rw [ei]; exact vp_in_nI (by omega) (by decide)))) (step _ ?_)
      rw [← hsv]
      unfold sc_sv
      rw [e, pk_us, pk_us, pk_us, if_neg hw]
    · refine br_f (fun z => e ((nI_eq (by omega) (by omega)).mp z)) ⟨v, br_c (fun z => ?_) (fun z => ⟨v, v, ?_⟩)⟩
      · rw [ck] at z
        refine step 1 ?_
        rw [← hsv]
        unfold sc_sv
        rw [pk_un e, if_pos z]
      · rw [ck] at z
        have g := sd k (by omega) (by rw [pk_un e]; exact z)
        rw [pk_un e, pk_un e] at g
        obtain ⟨⟨j, hj, ej⟩, g2⟩ := g
        refine x_shareOf (by rw [ck, ej]; exact vp_in_nI (by omega) (by decide)) (by rw [ck]; exact g2.elim Or.inl (fun ⟨i, hi, ei⟩ => Or.inr (by rw [ei]; exact vp_in_nI (by omega) (by decide)))) (step _ ?_)
        rw [← hsv, ck]
        unfold sc_sv
        rw [pk_un e, pk_un e, pk_un e, if_neg z]
theorem x_setDec {post : Int32 → SX → Prop} {c : Nat} {w a b : Int32} (hc : c < 48) (hw : ¬ w = 0) (sd : sc_SD (upd dt c w) (upd df c a) (upd ds c b))
    (h1 : (∀ j, j < 48 → sc_T (upd dt c w) (upd df c a) (upd ds c b) j ≤ 4) → ∀ sh, post 1 (cc, rl, wl, cl, upd dt c w, upd df c a, upd ds c b, ex, lo, uf, us, fi, ki, ef, es, di, we, cf, cs, cm, tx, le, rr, wk, sh, fo, fl, el, ec, ke, kl, em, oe, be, pl, po))
    (h0 : ¬ (∀ j, j < 48 → sc_T (upd dt c w) (upd df c a) (upd ds c b) j ≤ 4) → ∀ sh, post 0 (cc, rl, wl, cl, dt, df, ds, ex, lo, uf, us, fi, ki, ef, es, di, we, cf, cs, cm, tx, le, rr, wk, sh, fo, fl, el, ec, ke, kl, em, oe, be, pl, po)) : wpX_setDecomposition post (cc, rl, wl, cl, dt, df, ds, ex, lo, uf, us, fi, ki, ef, es, di, we, cf, cs, cm, tx, le, rr, wk, sh, fo, fl, el, ec, ke, kl, em, oe, be, pl, po) (nI c) w a b := by
  have v : vp_in (nI c) 48 := vp_in_nI hc (by decide)
  have ec : (nI c).toNatClampNeg = c := nI_clamp (by omega)
  unfold wpX_setDecomposition
  unfold wpX_sharesStaySmall
  refine ⟨49, x_sh_l hc hw sd (fun g sh => ?_) (fun g sh => ?_) 48 0 sh (by omega) (fun j hj => absurd hj (by omega)) (fun j hj => absurd hj (by omega))⟩
  · exact br_f (by decide) ⟨v, nm_r (by rw [ec]) ⟨v, nm_r (by rw [ec]) ⟨v, nm_r (by rw [ec]) (h1 g sh)⟩⟩⟩
  · exact br_t rfl (h0 g sh)
theorem x_d1 {post : Int32 → SX → Prop} {c : Nat} {a b : Int32} (hc : c < 48) (sd : sc_W a 0 (nI c - 1) ∧ sc_W b (-1) (nI c - 1) → sc_SD (upd dt c 1) (upd df c a) (upd ds c b))
    (h1 : sc_W a 0 (nI c - 1) ∧ sc_W b (-1) (nI c - 1) → (∀ j, j < 48 → sc_T (upd dt c 1) (upd df c a) (upd ds c b) j ≤ 4) → ∀ sh, post 1 (cc, rl, wl, cl, upd dt c 1, upd df c a, upd ds c b, ex, lo, uf, us, fi, ki, ef, es, di, we, cf, cs, cm, tx, le, rr, wk, sh, fo, fl, el, ec, ke, kl, em, oe, be, pl, po))
    (h2 : sc_W a 0 (nI c - 1) ∧ sc_W b (-1) (nI c - 1) → ¬ (∀ j, j < 48 → sc_T (upd dt c 1) (upd df c a) (upd ds c b) j ≤ 4) → ∀ sh, post 0 (cc, rl, wl, cl, dt, df, ds, ex, lo, uf, us, fi, ki, ef, es, di, we, cf, cs, cm, tx, le, rr, wk, sh, fo, fl, el, ec, ke, kl, em, oe, be, pl, po))
    (h0 : ¬ (sc_W a 0 (nI c - 1) ∧ sc_W b (-1) (nI c - 1)) → post 0 (cc, rl, wl, cl, dt, df, ds, ex, lo, uf, us, fi, ki, ef, es, di, we, cf, cs, cm, tx, le, rr, wk, sh, fo, fl, el, ec, ke, kl, em, oe, be, pl, po)) : wpX_describe post (cc, rl, wl, cl, dt, df, ds, ex, lo, uf, us, fi, ki, ef, es, di, we, cf, cs, cm, tx, le, rr, wk, sh, fo, fl, el, ec, ke, kl, em, oe, be, pl, po) (nI c) 1 a b := by
  unfold wpX_describe
  refine xs_char1 hc (br_f (by decide) (x_fit1 (fun z => br_f (by decide) (br_t rfl (br_t rfl ?_))) (fun z => br_t rfl (h0 z))))
  unfold wX_describe_44
  exact x_setDec hc (by decide) (sd z) (fun g sh => ⟨rfl, h1 z g sh⟩) (fun g sh => ⟨rfl, h2 z g sh⟩)
theorem x_d2 {post : Int32 → SX → Prop} {c : Nat} {a b : Int32} (hc : c < 48) (sd : sc_W a 0 (nI c - 1) ∧ sc_W b (-1) (nI c - 1) → sc_SD (upd dt c 2) (upd df c a) (upd ds c b))
    (h1 : sc_W a 0 (nI c - 1) ∧ sc_W b (-1) (nI c - 1) → (∀ j, j < 48 → sc_T (upd dt c 2) (upd df c a) (upd ds c b) j ≤ 4) → ∀ sh, post 1 (cc, rl, wl, cl, upd dt c 2, upd df c a, upd ds c b, ex, lo, uf, us, fi, ki, ef, es, di, we, cf, cs, cm, tx, le, rr, wk, sh, fo, fl, el, ec, ke, kl, em, oe, be, pl, po))
    (h2 : sc_W a 0 (nI c - 1) ∧ sc_W b (-1) (nI c - 1) → ¬ (∀ j, j < 48 → sc_T (upd dt c 2) (upd df c a) (upd ds c b) j ≤ 4) → ∀ sh, post 0 (cc, rl, wl, cl, dt, df, ds, ex, lo, uf, us, fi, ki, ef, es, di, we, cf, cs, cm, tx, le, rr, wk, sh, fo, fl, el, ec, ke, kl, em, oe, be, pl, po))
    (h0 : ¬ (sc_W a 0 (nI c - 1) ∧ sc_W b (-1) (nI c - 1)) → post 0 (cc, rl, wl, cl, dt, df, ds, ex, lo, uf, us, fi, ki, ef, es, di, we, cf, cs, cm, tx, le, rr, wk, sh, fo, fl, el, ec, ke, kl, em, oe, be, pl, po)) : wpX_describe post (cc, rl, wl, cl, dt, df, ds, ex, lo, uf, us, fi, ki, ef, es, di, we, cf, cs, cm, tx, le, rr, wk, sh, fo, fl, el, ec, ke, kl, em, oe, be, pl, po) (nI c) 2 a b := by
  unfold wpX_describe
  refine xs_char1 hc (br_f (by decide) (x_fit2 (fun z => br_f (by decide) (br_f (by decide) (br_t rfl (br_f (by decide) ?_)))) (fun z => br_t rfl (h0 z))))
  unfold wX_describe_44
  exact x_setDec hc (by decide) (sd z) (fun g sh => ⟨rfl, h1 z g sh⟩) (fun g sh => ⟨rfl, h2 z g sh⟩)
end
section
variable {cc rl yn : Int32} {cl dt df pb lo uf us fi ki wt ef eb di ex cf cs cm lg tx le rr ro fm fL ee en ye lv se pg ou : Nat → Int32}
theorem y_sh_l {post : Int32 → SY → Prop} {c : Nat} {w a b : Int32} {ds : Nat → Int32} (hc : c < 48) (sd : sc_SD dt df ds) (hpb : ∀ i, i < 48 → ¬ dt i = 0 → pb i = ds i)
    (h1 : (∀ j, j < 48 → sc_T dt df ds j ≤ 4) → ∀ lg, post 1 (cc, rl, yn, cl, dt, df, pb, lo, uf, us, fi, ki, wt, ef, eb, di, ex, cf, cs, cm, lg, tx, le, rr, ro, fm, fL, ee, en, ye, lv, se, pg, ou))
    (h0 : ¬ (∀ j, j < 48 → sc_T dt df ds j ≤ 4) → ∀ lg, post 0 (cc, rl, yn, cl, upd dt c w, upd df c a, upd pb c b, lo, uf, us, fi, ki, wt, ef, eb, di, ex, cf, cs, cm, lg, tx, le, rr, ro, fm, fL, ee, en, ye, lv, se, pg, ou)) :
    ∀ (d k : Nat) (g : Int32) (lg : Nat → Int32), k + d = 48 → (∀ j, j < k → lg j = sc_T dt df ds j) → (g = 1 ∧ (∀ j, j < k → sc_T dt df ds j ≤ 4) ∨ g = 0 ∧ ¬ (∀ j, j < 48 → sc_T dt df ds j ≤ 4)) →
    wY_decomposes_52 post (nI c) w a b cc rl yn (d + 1) g (nI k) cl dt df pb lo uf us fi ki wt ef eb di ex cf cs cm lg tx le rr ro fm fL ee en ye lv se pg ou := by
  intro d
  induction d with
  | zero =>
    intro k g lg hk hs hg
    obtain rfl : k = 48 := by omega
    have vc : vp_in (nI c) 48 := vp_in_nI hc (by decide)
    have ec : (nI c).toNatClampNeg = c := nI_clamp (by omega)
    refine br_t (nI_le (a := 48) (by omega) (by omega)) ?_
    rcases hg with ⟨rfl, h4⟩ | ⟨rfl, h4⟩
    · exact br_f (by decide) (h1 h4 lg)
    · exact br_t rfl ⟨vc, nm_r (by rw [ec]) ⟨vc, nm_r (by rw [ec]) ⟨vc, nm_r (by rw [ec]) (h0 h4 lg)⟩⟩⟩
  | succ d ih =>
    intro k g lg hk hs hg
    have v : vp_in (nI k) 48 := vp_in_nI (by omega) (by decide)
    have ck : (nI k).toNatClampNeg = k := nI_clamp (by omega)
    have hsv := sc_svT (s := lg) sd (by omega : k < 48) hs
    have step : ∀ r : Int32, r = sc_T dt df ds k → wY_decomposes_118 post (wY_decomposes_52 post (nI c) w a b cc rl yn (d + 1)) (nI c) w a b g (nI k) r (nI k) cc rl yn cl dt df pb lo uf us fi ki wt ef eb di ex cf cs cm lg tx le rr ro fm fL ee en ye lv se pg ou := by
      intro r er
      have hs' : ∀ j, j < k + 1 → upd lg k r j = sc_T dt df ds j := by
        intro j hj
        by_cases e : j = k
        · subst e; exact pk_us.trans er
        · exact (pk_un e).trans (hs j (by omega))
      refine ⟨v, nm_r (e' := upd lg k r) (by rw [ck]) ⟨v, br_c (fun z => nm_r (e' := 0) ?_ (nm_r (nI_1 k) (ih (k + 1) 0 (upd lg k r) (by omega) hs' (Or.inr ⟨rfl, fun q => ?_⟩)))) (fun z => nm_r (e' := g) ?_ (nm_r (nI_1 k) (ih (k + 1) g (upd lg k r) (by omega) hs' ?_)))⟩⟩
      · rcases hg with ⟨rfl, h4⟩ | ⟨rfl, h4⟩ <;> decide
      · rw [ck, pk_us, er] at z
        exact Int32.not_lt.mpr (q k (by omega)) z
      · rcases hg with ⟨rfl, h4⟩ | ⟨rfl, h4⟩ <;> decide
      · rcases hg with ⟨rfl, h4⟩ | ⟨rfl, h4⟩
        · refine Or.inl ⟨rfl, fun j hj => ?_⟩
          by_cases e : j = k
          · subst e
            rw [ck, pk_us, er] at z
            exact Int32.not_lt.mp z
          · exact h4 j (by omega)
        · exact Or.inr ⟨rfl, h4⟩
    refine br_f (nI_ge (b := 48) (by omega) (by decide)) ⟨v, br_c (fun z => ?_) (fun z => ?_)⟩
    · rw [ck] at z
      refine step 1 ?_
      rw [← hsv]
      unfold sc_sv
      rw [if_pos z]
    · rw [ck] at z
      obtain ⟨⟨j, hj, ej⟩, g2⟩ := sd k (by omega) z
      have ep : pb (nI k).toNatClampNeg = ds k := by rw [ck]; exact hpb k (by omega) z
      have ea : df (nI k).toNatClampNeg = nI j := by rw [ck]; exact ej
      refine ⟨v, by rw [ea]; exact vp_in_nI (by omega) (by decide), v, ?_⟩
      rcases g2 with g2 | ⟨i, hi, ei⟩
      · refine br_f (by rw [ep, g2]; decide) (step _ ?_)
        rw [← hsv, Int32.add_zero, ea]
        unfold sc_sv
        rw [if_neg z, if_pos g2, ej]
      · refine br_t (by rw [ep, ei]; exact nI_pos' (by omega)) ⟨v, by rw [ep, ei]; exact vp_in_nI (by omega) (by decide), step _ ?_⟩
        rw [← hsv, ea, ep]
        unfold sc_sv
        rw [if_neg z, if_neg (by rw [ei]; exact sc_m1 i (by omega)), ej]
theorem y_setDec {post : Int32 → SY → Prop} {c : Nat} {w a b : Int32} {ds : Nat → Int32} (hc : c < 48) (sd : sc_SD (upd dt c w) (upd df c a) (upd ds c b)) (hpb : ∀ i, i < 48 → ¬ dt i = 0 → pb i = ds i)
    (h1 : (∀ j, j < 48 → sc_T (upd dt c w) (upd df c a) (upd ds c b) j ≤ 4) → ∀ lg, post 1 (cc, rl, yn, cl, upd dt c w, upd df c a, upd pb c b, lo, uf, us, fi, ki, wt, ef, eb, di, ex, cf, cs, cm, lg, tx, le, rr, ro, fm, fL, ee, en, ye, lv, se, pg, ou))
    (h0 : ¬ (∀ j, j < 48 → sc_T (upd dt c w) (upd df c a) (upd ds c b) j ≤ 4) → ∀ lg, post 0 (cc, rl, yn, cl, dt, df, pb, lo, uf, us, fi, ki, wt, ef, eb, di, ex, cf, cs, cm, lg, tx, le, rr, ro, fm, fL, ee, en, ye, lv, se, pg, ou)) : wpY_decomposes post (cc, rl, yn, cl, dt, df, pb, lo, uf, us, fi, ki, wt, ef, eb, di, ex, cf, cs, cm, lg, tx, le, rr, ro, fm, fL, ee, en, ye, lv, se, pg, ou) (nI c) w a b := by
  have v : vp_in (nI c) 48 := vp_in_nI hc (by decide)
  have ec : (nI c).toNatClampNeg = c := nI_clamp (by omega)
  unfold wpY_decomposes
  refine ⟨v, nm_r (e' := dt c) (by rw [ec]) ⟨v, nm_r (e' := df c) (by rw [ec]) ⟨v, nm_r (e' := pb c) (by rw [ec]) ⟨v, nm_r (e' := upd dt c w) (by rw [ec]) ⟨v, nm_r (e' := upd df c a) (by rw [ec]) ⟨v, nm_r (e' := upd pb c b) (by rw [ec]) ⟨49, ?_⟩⟩⟩⟩⟩⟩⟩
  refine y_sh_l hc sd ?_ h1 (fun g lg => ?_) 48 0 1 lg (by omega) (fun j hj => absurd hj (by omega)) (Or.inl ⟨rfl, fun j hj => absurd hj (by omega)⟩)
  · intro i hi h
    by_cases e : i = c
    · subst e; rw [pk_us, pk_us]
    · rw [pk_un e] at h; rw [pk_un e, pk_un e]; exact hpb i hi h
  · rw [sc_back, sc_back, sc_back]; exact h0 g lg
theorem y_d1 {post : Int32 → SY → Prop} {c : Nat} {a b : Int32} {ds : Nat → Int32} (hc : c < 48) (sd : sc_W a 0 (nI c - 1) ∧ sc_W b (-1) (nI c - 1) → sc_SD (upd dt c 1) (upd df c a) (upd ds c b)) (hpb : ∀ i, i < 48 → ¬ dt i = 0 → pb i = ds i)
    (h1 : sc_W a 0 (nI c - 1) ∧ sc_W b (-1) (nI c - 1) → (∀ j, j < 48 → sc_T (upd dt c 1) (upd df c a) (upd ds c b) j ≤ 4) → ∀ lg, post 1 (cc, rl, yn, cl, upd dt c 1, upd df c a, upd pb c b, lo, uf, us, fi, ki, wt, ef, eb, di, ex, cf, cs, cm, lg, tx, le, rr, ro, fm, fL, ee, en, ye, lv, se, pg, ou))
    (h2 : sc_W a 0 (nI c - 1) ∧ sc_W b (-1) (nI c - 1) → ¬ (∀ j, j < 48 → sc_T (upd dt c 1) (upd df c a) (upd ds c b) j ≤ 4) → ∀ lg, post 0 (cc, rl, yn, cl, dt, df, pb, lo, uf, us, fi, ki, wt, ef, eb, di, ex, cf, cs, cm, lg, tx, le, rr, ro, fm, fL, ee, en, ye, lv, se, pg, ou))
    (h0 : ¬ (sc_W a 0 (nI c - 1) ∧ sc_W b (-1) (nI c - 1)) → post 0 (cc, rl, yn, cl, dt, df, pb, lo, uf, us, fi, ki, wt, ef, eb, di, ex, cf, cs, cm, lg, tx, le, rr, ro, fm, fL, ee, en, ye, lv, se, pg, ou)) : wpY_describe post (cc, rl, yn, cl, dt, df, pb, lo, uf, us, fi, ki, wt, ef, eb, di, ex, cf, cs, cm, lg, tx, le, rr, ro, fm, fL, ee, en, ye, lv, se, pg, ou) (nI c) 1 a b := by
  refine y_fit1 hc (fun z => br_t rfl ?_) h0
  unfold wY_describe_195
  exact y_setDec hc (sd z) hpb (fun g lg => ⟨rfl, h1 z g lg⟩) (fun g lg => ⟨rfl, h2 z g lg⟩)
theorem y_d2 {post : Int32 → SY → Prop} {c : Nat} {a b : Int32} {ds : Nat → Int32} (hc : c < 48) (sd : sc_W a 0 (nI c - 1) ∧ sc_W b (-1) (nI c - 1) → sc_SD (upd dt c 2) (upd df c a) (upd ds c b)) (hpb : ∀ i, i < 48 → ¬ dt i = 0 → pb i = ds i)
    (h1 : sc_W a 0 (nI c - 1) ∧ sc_W b (-1) (nI c - 1) → (∀ j, j < 48 → sc_T (upd dt c 2) (upd df c a) (upd ds c b) j ≤ 4) → ∀ lg, post 1 (cc, rl, yn, cl, upd dt c 2, upd df c a, upd pb c b, lo, uf, us, fi, ki, wt, ef, eb, di, ex, cf, cs, cm, lg, tx, le, rr, ro, fm, fL, ee, en, ye, lv, se, pg, ou))
    (h2 : sc_W a 0 (nI c - 1) ∧ sc_W b (-1) (nI c - 1) → ¬ (∀ j, j < 48 → sc_T (upd dt c 2) (upd df c a) (upd ds c b) j ≤ 4) → ∀ lg, post 0 (cc, rl, yn, cl, dt, df, pb, lo, uf, us, fi, ki, wt, ef, eb, di, ex, cf, cs, cm, lg, tx, le, rr, ro, fm, fL, ee, en, ye, lv, se, pg, ou))
    (h0 : ¬ (sc_W a 0 (nI c - 1) ∧ sc_W b (-1) (nI c - 1)) → post 0 (cc, rl, yn, cl, dt, df, pb, lo, uf, us, fi, ki, wt, ef, eb, di, ex, cf, cs, cm, lg, tx, le, rr, ro, fm, fL, ee, en, ye, lv, se, pg, ou)) : wpY_describe post (cc, rl, yn, cl, dt, df, pb, lo, uf, us, fi, ki, wt, ef, eb, di, ex, cf, cs, cm, lg, tx, le, rr, ro, fm, fL, ee, en, ye, lv, se, pg, ou) (nI c) 2 a b := by
  refine y_fit2 hc (fun z => br_f (by decide) (br_t rfl ?_)) h0
  unfold wY_describe_195
  exact y_setDec hc (sd z) hpb (fun g lg => ⟨rfl, h1 z g lg⟩) (fun g lg => ⟨rfl, h2 z g lg⟩)
end
