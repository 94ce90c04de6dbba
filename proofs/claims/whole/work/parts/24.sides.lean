/-! sorting: the two sides -/
def sc_Sg (a : Nat → Int32) (o : Nat) (l : List Int32) : Prop := ∀ i, i < l.length → a (o + i) = sc_at l i
def sc_xp (ef es : Nat → Int32) (c : Int32) : List Int32 := if ef c.toNatClampNeg = -1 then [c] else [ef c.toNatClampNeg, es c.toNatClampNeg]
def sc_el (cf cs cm : Nat → Int32) (m : Nat) (ef es : Nat → Int32) : List Int32 → List Int32
  | [] => []
  | [c] => sc_xp ef es c
  | c :: c2 :: r => if sc_fc cf cs c c2 m 0 = -1 then sc_xp ef es c ++ sc_el cf cs cm m ef es (c2 :: r) else cm (sc_fc cf cs c c2 m 0).toNatClampNeg :: sc_el cf cs cm m ef es r
theorem sc_xpP {ef es eb : Nat → Int32} (h1 : sc_Opt ef) (h2 : ∀ i, i < 48 → ¬ ef i = -1 → vp_in (es i) 48 ∧ eb i = es i) {c : Int32} (hc : vp_in c 48) : sc_All (sc_xp ef es c) ∧ (sc_xp ef es c).length ≤ 2 := by
  unfold sc_xp
  split
  · exact ⟨sc_All_cons.mpr ⟨hc, sc_All_nil⟩, by simp⟩
  · rename_i z
    exact ⟨sc_All_cons.mpr ⟨(h1 _).elim (fun e => absurd e z) id, sc_All_cons.mpr ⟨(h2 _ (sn_cl hc) z).1, sc_All_nil⟩⟩, by simp⟩
theorem sc_elP {cf cs cm : Nat → Int32} {m : Nat} {ef es eb : Nat → Int32} (hcm : sc_Chr cm) (h1 : sc_Opt ef) (h2 : ∀ i, i < 48 → ¬ ef i = -1 → vp_in (es i) 48 ∧ eb i = es i) : ∀ L l, l.length ≤ L → sc_All l → sc_All (sc_el cf cs cm m ef es l) ∧ (sc_el cf cs cm m ef es l).length ≤ 2 * l.length := by
  intro L
  induction L with
  | zero =>
    intro l hl hA
    cases l with
    | nil => exact ⟨sc_All_nil, Nat.le_refl _⟩
    | cons c l => exact absurd hl (by simp)
  | succ L ih =>
    intro l hl hA
    match l, hl, hA with
    | [], _, _ => exact ⟨sc_All_nil, Nat.le_refl _⟩
    | [c], _, hA => exact sc_xpP h1 h2 (sc_All_cons.mp hA).1
    | c :: c2 :: r, hl, hA =>
      have hl' : r.length + 1 + 1 ≤ L + 1 := hl
      obtain ⟨hc, hA'⟩ := sc_All_cons.mp hA
      have a1 := sc_xpP h1 h2 hc
      have a2 := ih (c2 :: r) (by show r.length + 1 ≤ L; omega) hA'
      have a3 := ih r (by omega) (sc_All_cons.mp hA').2
      have l2 : (c2 :: r).length = r.length + 1 := rfl
      rw [sc_el]
      show _ ∧ _ ≤ 2 * (r.length + 1 + 1)
      split
      · exact ⟨sc_All_app.mpr ⟨a1.1, a2.1⟩, by rw [List.length_append]; omega⟩
      · exact ⟨sc_All_cons.mpr ⟨hcm _, a3.1⟩, by rw [List.length_cons]; omega⟩
def sc_PX (sd : Nat) (el0 ec0 : Nat → Int32) (acc : List Int32) (el ec : Nat → Int32) : Prop :=
  sc_Sg el (128 * sd) acc ∧ ec sd = nI acc.length ∧ (∀ j, j < 128 * sd ∨ 128 * sd + 128 ≤ j → el j = el0 j) ∧ (∀ j, ¬ j = sd → ec j = ec0 j)
def sc_PY (wt : Nat → Int32) (sd : Nat) (ee0 en0 : Nat → Int32) (acc : List Int32) (ee en : Nat → Int32) : Prop :=
  (∀ l, l < 3 → ∀ i, i < acc.length → ee (384 * sd + 128 * l + i) = wt (3 * (sc_at acc i).toNatClampNeg + l)) ∧ en sd = nI acc.length ∧ (∀ j, j < 384 * sd ∨ 384 * sd + 384 ≤ j → ee j = ee0 j) ∧ (∀ j, ¬ j = sd → en j = en0 j)
section
variable {cc rl wl : Int32} {cl dt df ds ex lo uf us fi ki ef es di we cf cs cm tx le rr wk sh fo fl el ec ke kl em oe be pl po : Nat → Int32}
theorem x_app {post : SX → Prop} {sd : Nat} {el0 ec0 : Nat → Int32} {acc : List Int32} {c : Int32} (hs : sd < 2) (ha : acc.length < 128) (hP : sc_PX sd el0 ec0 acc el ec)
    (h : ∀ el ec, sc_PX sd el0 ec0 (acc ++ [c]) el ec → post (cc, rl, wl, cl, dt, df, ds, ex, lo, uf, us, fi, ki, ef, es, di, we, cf, cs, cm, tx, le, rr, wk, sh, fo, fl, el, ec, ke, kl, em, oe, be, pl, po)) : wpX_appendElement post (cc, rl, wl, cl, dt, df, ds, ex, lo, uf, us, fi, ki, ef, es, di, we, cf, cs, cm, tx, le, rr, wk, sh, fo, fl, el, ec, ke, kl, em, oe, be, pl, po) (nI sd) c := by
  obtain ⟨p1, p2, p3, p4⟩ := hP
  have cs' : (nI sd).toNatClampNeg = sd := nI_clamp (by omega)
  have hv : vp_in (nI sd) 2 := vp_in_nI hs (by decide)
  have ex' : nI sd * 128 + nI acc.length = nI (128 * sd + acc.length) := by
    rw [show (128 : Int32) = nI 128 from rfl, pk_mul, nI_add, Nat.mul_comm]
  unfold wpX_appendElement
  dsimp only
  rw [cs', p2]
  refine ⟨hv, br_f (nI_ge (b := 128) ha (by decide)) ⟨hv, by rw [ex']; exact vp_in_nI (by omega) (by decide), nm_r (e' := upd el (128 * sd + acc.length) c) (by rw [ex', nI_clamp (by omega)]) ⟨hv, hv, nm_r (e' := upd ec sd (nI (acc.length + 1))) (by rw [nI_1]) (h _ _ ?_)⟩⟩⟩
  refine ⟨fun i hi => ?_, ?_, fun j hj => ?_, fun j hj => ?_⟩
  · have hi' : i < acc.length + 1 := by simpa using hi
    by_cases e : i = acc.length
    · rw [e, pk_us, sc_at_mid]
    · rw [pk_un (by omega), p1 i (by omega), sc_at_lt _ _ _ (by omega)]
  · rw [pk_us, List.length_append]; rfl
  · rw [pk_un (by omega)]; exact p3 j hj
  · rw [pk_un hj]; exact p4 j hj
theorem x_el_l {post : SX → Prop} {sd m : Nat} {el0 ec0 eb : Nat → Int32} {F : List Int32} (hs : sd < 2) (hm : m ≤ 6) (hN : F.length ≤ 64) (hA : sc_All F) (hr : sc_Rp wk F) (hef : sc_Opt ef) (hes : ∀ i, i < 48 → ¬ ef i = -1 → vp_in (es i) 48 ∧ eb i = es i) :
    ∀ (L : Nat) (rest pre acc : List Int32) (el ec : Nat → Int32), rest.length ≤ L → F = pre ++ rest → acc.length + 2 * rest.length ≤ 128 → sc_PX sd el0 ec0 acc el ec →
    (∀ el ec, sc_PX sd el0 ec0 (acc ++ sc_el cf cs cm m ef es rest) el ec → post (nI m, rl, nI F.length, cl, dt, df, ds, ex, lo, uf, us, fi, ki, ef, es, di, we, cf, cs, cm, tx, le, rr, wk, sh, fo, fl, el, ec, ke, kl, em, oe, be, pl, po)) → ∀ n, rest.length + 1 ≤ n → wX_loadElements_11 post (nI sd) n 0 (nI pre.length) (nI m) rl (nI F.length) cl dt df ds ex lo uf us fi ki ef es di we cf cs cm tx le rr wk sh fo fl el ec ke kl em oe be pl po := by
  intro L
  induction L with
  | zero =>
    intro rest pre acc el ec hL hF ha hP h n hn
    obtain ⟨n, rfl⟩ : ∃ q, n = q + 1 := ⟨n - 1, by omega⟩
    cases rest with
    | cons c r => exact absurd hL (by simp)
    | nil =>
      have hlen : F.length = pre.length := by rw [hF, List.append_nil]
      rw [sc_el, List.append_nil] at h
      exact br_t (nI_le (by omega) (by omega)) (h el ec hP)
  | succ L ih =>
    intro rest pre acc el ec hL hF ha hP h n hn
    obtain ⟨n, rfl⟩ : ∃ q, n = q + 1 := ⟨n - 1, by omega⟩
    cases rest with
    | nil =>
      have hlen : F.length = pre.length := by rw [hF, List.append_nil]
      rw [sc_el, List.append_nil] at h
      exact br_t (nI_le (by omega) (by omega)) (h el ec hP)
    | cons c r =>
      have hL' : r.length + 1 ≤ L + 1 := hL
      have ha' : acc.length + 2 * (r.length + 1) ≤ 128 := ha
      have hn' : r.length + 1 + 1 ≤ n + 1 := hn
      have hlen : F.length = pre.length + r.length + 1 := by rw [hF]; exact sc_len_mid pre r c
      have hA2 : sc_All (c :: r) := by rw [hF] at hA; exact (sc_All_app.mp hA).2
      have hc := (sc_All_cons.mp hA2).1
      have wc : wk (nI pre.length).toNatClampNeg = c := by
        rw [nI_clamp (by omega)]; rw [hF] at hr; exact sc_Rp_mid hr
      have xl := (sc_xpP hef hes hc).2
      -- one character by itself
      have one : (sc_el cf cs cm m ef es (c :: r) = sc_xp ef es c ++ sc_el cf cs cm m ef es r) → wX_loadElements_64 post (wX_loadElements_11 post (nI sd) n) (nI sd) 0 (nI pre.length) c (-1) (nI m) rl (nI F.length) cl dt df ds ex lo uf us fi ki ef es di we cf cs cm tx le rr wk sh fo fl el ec ke kl em oe be pl po := by
        intro eq
        rw [eq] at h
        have go : ∀ el ec, sc_PX sd el0 ec0 (acc ++ sc_xp ef es c) el ec → wX_loadElements_11 post (nI sd) n 0 (nI (pre.length + 1)) (nI m) rl (nI F.length) cl dt df ds ex lo uf us fi ki ef es di we cf cs cm tx le rr wk sh fo fl el ec ke kl em oe be pl po := by
          intro el ec hP'
          have g := ih r (pre ++ [c]) (acc ++ sc_xp ef es c) el ec (by omega) (by rw [List.append_assoc]; exact hF) (by rw [List.length_append]; omega) hP' (by rw [List.append_assoc]; exact h) n (by omega)
          rw [List.length_append] at g
          exact g
        unfold sc_xp at go
        refine br_t rfl ⟨hc, br_c (fun a => ?_) (fun a => ⟨hc, ?_⟩)⟩
        · rw [if_pos a] at go
          exact x_app hs (by omega) hP (fun el ec hP' => nm_r (nI_1 _) (go el ec hP'))
        · rw [if_neg a] at go
          refine x_app hs (by omega) hP (fun el ec hP1 => ⟨hc, x_app hs (by rw [List.length_append]; show acc.length + 1 < 128; omega) hP1 (fun el ec hP2 => nm_r (nI_1 _) (go el ec ?_))⟩)
          rw [List.append_assoc] at hP2; exact hP2
      refine br_f (nI_ge (by omega) (by omega)) (br_t rfl ⟨vp_in_nI (by omega) (by decide), nm_r wc ?_⟩)
      rw [nI_1]
      cases r with
      | nil =>
        have l0 : ([] : List Int32).length = 0 := rfl
        refine br_t (nI_le (by omega) (by omega)) (one ?_)
        rw [sc_el, sc_el, List.append_nil]
      | cons c2 r =>
        have l1 : (c2 :: r).length = r.length + 1 := rfl
        have wc2 : wk (nI (pre.length + 1)).toNatClampNeg = c2 := by
          rw [nI_clamp (by omega)]
          rw [hF] at hr
          have hr2 : sc_Rp wk ((pre ++ [c]) ++ c2 :: r) := by rw [List.append_assoc]; exact hr
          have := sc_Rp_mid hr2
          rw [List.length_append] at this
          exact this
        refine br_f (nI_ge (by omega) (by omega)) ⟨vp_in_nI (by omega) (by decide), x_fc hm ?_⟩
        rw [wc2]
        rcases sc_fcR cf cs c c2 m 0 with e | ⟨z, hz, e⟩
        · rw [e]
          refine one ?_
          rw [sc_el, if_pos e]
        · rw [e]
          rw [sc_el, if_neg (by rw [e]; exact sc_m1 z (by omega)), e, nI_clamp (by omega)] at h
          obtain ⟨n, rfl⟩ : ∃ q, n = q + 1 := ⟨n - 1, by omega⟩
          refine br_f (sc_m1 z (by omega)) ⟨vp_in_nI (by omega) (by decide), ?_⟩
          rw [nI_clamp (by omega)]
          refine x_app hs (by omega) hP (fun el ec hP1 => nm_r (nI_1 _) (br_f (nI_ge (by omega) (by omega)) (br_f (by decide) (nm_r (nI_1 _) ?_))))
          have g := ih r (pre ++ [c, c2]) (acc ++ [cm z]) el ec (by omega) (by rw [List.append_assoc]; exact hF) (by rw [List.length_append]; show acc.length + 1 + 2 * r.length ≤ 128; omega) hP1 (by rw [List.append_assoc]; exact h) n (by omega)
          rw [List.length_append] at g
          exact g
end
section
variable {cc rl yn : Int32} {cl dt df pb lo uf us fi ki wt ef eb di ex cf cs cm lg tx le rr ro fm fL ee en ye lv se pg ou : Nat → Int32}
theorem y_elem {post : SY → Prop} {sd : Nat} {ee0 en0 : Nat → Int32} {acc : List Int32} {c : Int32} (hs : sd < 2) (hc : vp_in c 48) (ha : acc.length < 128) (hP : sc_PY wt sd ee0 en0 acc ee en)
    (h : ∀ ee en, sc_PY wt sd ee0 en0 (acc ++ [c]) ee en → post (cc, rl, yn, cl, dt, df, pb, lo, uf, us, fi, ki, wt, ef, eb, di, ex, cf, cs, cm, lg, tx, le, rr, ro, fm, fL, ee, en, ye, lv, se, pg, ou)) : wpY_element post (cc, rl, yn, cl, dt, df, pb, lo, uf, us, fi, ki, wt, ef, eb, di, ex, cf, cs, cm, lg, tx, le, rr, ro, fm, fL, ee, en, ye, lv, se, pg, ou) (nI sd) c := by
  obtain ⟨p1, p2, p3, p4⟩ := hP
  obtain ⟨q, hq, rfl⟩ := vp_in_of hc (by decide)
  have cs' : (nI sd).toNatClampNeg = sd := nI_clamp (by omega)
  have hv : vp_in (nI sd) 2 := vp_in_nI hs (by decide)
  have ew : ∀ l, 3 * nI q + nI l = nI (3 * q + l) := fun l => by rw [show (3 : Int32) = nI 3 from rfl, pk_mul, nI_add]
  have ei : ∀ l, 384 * nI sd + 128 * nI l + nI acc.length = nI (384 * sd + 128 * l + acc.length) := fun l => by rw [show (384 : Int32) = nI 384 from rfl, show (128 : Int32) = nI 128 from rfl, pk_mul, pk_mul, nI_add, nI_add]
  have step : ∀ (l : Nat) (ee : Nat → Int32) (n : Nat), l < 3 → wY_element_2 post (nI sd) (nI q) cc rl yn n (nI (l + 1)) cl dt df pb lo uf us fi ki wt ef eb di ex cf cs cm lg tx le rr ro fm fL (upd ee (384 * sd + 128 * l + acc.length) (wt (3 * q + l))) en ye lv se pg ou → wY_element_2 post (nI sd) (nI q) cc rl yn (n + 1) (nI l) cl dt df pb lo uf us fi ki wt ef eb di ex cf cs cm lg tx le rr ro fm fL ee en ye lv se pg ou := by
    intro l ee n hl g
    refine br_f (nI_ge (b := 3) hl (by decide)) ⟨hv, ?_⟩
    rw [cs', p2, ew, ei]
    exact ⟨vp_in_nI (by omega) (by decide), vp_in_nI (by omega) (by decide), nm_r (by rw [nI_clamp (by omega), nI_clamp (by omega)]) (nm_r (nI_1 l) g)⟩
  refine ⟨4, step 0 _ _ (by omega) (step 1 _ _ (by omega) (step 2 _ _ (by omega) (br_t (by decide) ⟨hv, hv, nm_r (e' := upd en sd (nI (acc.length + 1))) (by rw [cs', p2, nI_1]) (h _ _ ?_)⟩)))⟩
  refine ⟨fun l hl i hi => ?_, ?_, fun j hj => ?_, fun j hj => ?_⟩
  · have hi' : i < acc.length + 1 := by simpa using hi
    by_cases e : i = acc.length
    · subst e
      rw [sc_at_mid, nI_clamp (by omega)]
      unfold upd
      rcases Nat.lt_or_ge l 1 with z | z
      · obtain rfl : l = 0 := by omega
        rw [if_neg (by omega), if_neg (by omega), if_pos rfl]
      · rcases Nat.lt_or_ge l 2 with z2 | z2
        · obtain rfl : l = 1 := by omega
          rw [if_neg (by omega), if_pos rfl]
        · obtain rfl : l = 2 := by omega
          rw [if_pos rfl]
    · rw [pk_un (by omega), pk_un (by omega), pk_un (by omega), sc_at_lt _ _ _ (by omega)]
      exact p1 l hl i (by omega)
  · rw [pk_us, List.length_append]; rfl
  · rw [pk_un (by omega), pk_un (by omega), pk_un (by omega)]; exact p3 j hj
  · rw [pk_un hj]; exact p4 j hj
theorem y_el_l {post : SY → Prop} {sd m : Nat} {ee0 en0 es : Nat → Int32} {F : List Int32} (hs : sd < 2) (hm : m ≤ 6) (hN : F.length ≤ 64) (hA : sc_All F) (hr : sc_Rp ro F) (hcm : sc_Chr cm) (hef : sc_Opt ef) (hes : ∀ i, i < 48 → ¬ ef i = -1 → vp_in (es i) 48 ∧ eb i = es i) :
    ∀ (L : Nat) (rest pre acc : List Int32) (ee en : Nat → Int32), rest.length ≤ L → F = pre ++ rest → acc.length + 2 * rest.length ≤ 128 → sc_PY wt sd ee0 en0 acc ee en →
    (∀ ee en, sc_PY wt sd ee0 en0 (acc ++ sc_el cf cs cm m ef es rest) ee en → post (nI m, rl, nI F.length, cl, dt, df, pb, lo, uf, us, fi, ki, wt, ef, eb, di, ex, cf, cs, cm, lg, tx, le, rr, ro, fm, fL, ee, en, ye, lv, se, pg, ou)) → ∀ n, rest.length + 1 ≤ n → wY_analyse_57 post (nI sd) n (nI pre.length) (nI m) rl (nI F.length) cl dt df pb lo uf us fi ki wt ef eb di ex cf cs cm lg tx le rr ro fm fL ee en ye lv se pg ou := by
  have ng : ∀ j, ef j < 0 ↔ ef j = -1 := fun j => ⟨fun z => (hef j).elim id (fun w => absurd z (sn_pos w)), fun z => by rw [z]; decide⟩
  intro L
  induction L with
  | zero =>
    intro rest pre acc ee en hL hF ha hP h n hn
    obtain ⟨n, rfl⟩ : ∃ q, n = q + 1 := ⟨n - 1, by omega⟩
    cases rest with
    | cons c r => exact absurd hL (by simp)
    | nil =>
      have hlen : F.length = pre.length := by rw [hF, List.append_nil]
      rw [sc_el, List.append_nil] at h
      exact br_t (nI_le (by omega) (by omega)) (h ee en hP)
  | succ L ih =>
    intro rest pre acc ee en hL hF ha hP h n hn
    obtain ⟨n, rfl⟩ : ∃ q, n = q + 1 := ⟨n - 1, by omega⟩
    cases rest with
    | nil =>
      have hlen : F.length = pre.length := by rw [hF, List.append_nil]
      rw [sc_el, List.append_nil] at h
      exact br_t (nI_le (by omega) (by omega)) (h ee en hP)
    | cons c r =>
      have hL' : r.length + 1 ≤ L + 1 := hL
      have ha' : acc.length + 2 * (r.length + 1) ≤ 128 := ha
      have hn' : r.length + 1 + 1 ≤ n + 1 := hn
      have hlen : F.length = pre.length + r.length + 1 := by rw [hF]; exact sc_len_mid pre r c
      have hA2 : sc_All (c :: r) := by rw [hF] at hA; exact (sc_All_app.mp hA).2
      have hc := (sc_All_cons.mp hA2).1
      have wc : ro (nI pre.length).toNatClampNeg = c := by
        rw [nI_clamp (by omega)]; rw [hF] at hr; exact sc_Rp_mid hr
      have xl := (sc_xpP hef hes hc).2
      have one : (sc_el cf cs cm m ef es (c :: r) = sc_xp ef es c ++ sc_el cf cs cm m ef es r) → wY_analyse_99 post (wY_analyse_57 post (nI sd) n) (nI sd) (nI pre.length) c (-1) (nI m) rl (nI F.length) cl dt df pb lo uf us fi ki wt ef eb di ex cf cs cm lg tx le rr ro fm fL ee en ye lv se pg ou := by
        intro eq
        rw [eq] at h
        have go : ∀ ee en, sc_PY wt sd ee0 en0 (acc ++ sc_xp ef es c) ee en → wY_analyse_57 post (nI sd) n (nI (pre.length + 1)) (nI m) rl (nI F.length) cl dt df pb lo uf us fi ki wt ef eb di ex cf cs cm lg tx le rr ro fm fL ee en ye lv se pg ou := by
          intro ee en hP'
          have g := ih r (pre ++ [c]) (acc ++ sc_xp ef es c) ee en (by omega) (by rw [List.append_assoc]; exact hF) (by rw [List.length_append]; omega) hP' (by rw [List.append_assoc]; exact h) n (by omega)
          rw [List.length_append] at g
          exact g
        unfold sc_xp at go
        refine br_t (by decide) ⟨hc, br_c (fun a => ?_) (fun a => ⟨hc, ?_⟩)⟩
        · rw [if_pos ((ng _).mp a)] at go
          exact y_elem hs hc (by omega) hP (fun ee en hP' => nm_r (nI_1 _) (go ee en hP'))
        · have a' : ¬ ef c.toNatClampNeg = -1 := fun z => a ((ng _).mpr z)
          rw [if_neg a'] at go
          obtain ⟨v2, eb2⟩ := hes _ (sn_cl hc) a'
          refine y_elem hs ((hef _).elim (fun z => absurd z a') id) (by omega) hP (fun ee en hP1 => ⟨hc, ?_⟩)
          rw [eb2]
          refine y_elem hs v2 (by rw [List.length_append]; show acc.length + 1 < 128; omega) hP1 (fun ee en hP2 => nm_r (nI_1 _) (go ee en ?_))
          rw [List.append_assoc] at hP2; exact hP2
      refine br_f (nI_ge (by omega) (by omega)) ⟨vp_in_nI (by omega) (by decide), nm_r wc ?_⟩
      rw [nI_1]
      cases r with
      | nil =>
        have l0 : ([] : List Int32).length = 0 := rfl
        refine br_t (nI_le (by omega) (by omega)) (one ?_)
        rw [sc_el, sc_el, List.append_nil]
      | cons c2 r =>
        have l1 : (c2 :: r).length = r.length + 1 := rfl
        have wc2 : ro (nI (pre.length + 1)).toNatClampNeg = c2 := by
          rw [nI_clamp (by omega)]
          rw [hF] at hr
          have hr2 : sc_Rp ro ((pre ++ [c]) ++ c2 :: r) := by rw [List.append_assoc]; exact hr
          have := sc_Rp_mid hr2
          rw [List.length_append] at this
          exact this
        refine br_f (nI_ge (by omega) (by omega)) ⟨vp_in_nI (by omega) (by decide), y_fc hm ?_⟩
        rw [wc2]
        rcases sc_fcR cf cs c c2 m 0 with e | ⟨z, hz, e⟩
        · rw [e]
          refine one ?_
          rw [sc_el, if_pos e]
        · rw [e]
          rw [sc_el, if_neg (by rw [e]; exact sc_m1 z (by omega)), e, nI_clamp (by omega)] at h
          refine br_f (nI_pos (by omega)) ⟨vp_in_nI (by omega) (by decide), ?_⟩
          rw [nI_clamp (by omega)]
          refine y_elem hs (hcm _) (by omega) hP (fun ee en hP1 => nm_r (nI_1 _) (nm_r (nI_1 _) ?_))
          have g := ih r (pre ++ [c, c2]) (acc ++ [cm z]) ee en (by omega) (by rw [List.append_assoc]; exact hF) (by rw [List.length_append]; show acc.length + 1 + 2 * r.length ≤ 128; omega) hP1 (by rw [List.append_assoc]; exact h) n (by omega)
          rw [List.length_append] at g
          exact g
end
