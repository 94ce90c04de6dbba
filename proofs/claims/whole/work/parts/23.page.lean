/-! order on the page -/
def sc_rv (s e : Nat) : Nat → Nat → (Nat → Int32) → Nat → Int32
  | 0, _, po => po
  | m + 1, i, po => sc_rv s e m (i + 1) (upd (upd po (s + i) (po (e - 1 - i))) (e - 1 - i) (po (s + i)))
def sc_Pm (n : Nat) (po : Nat → Int32) : Prop := ∀ i, i < n → ∃ j, j < n ∧ po i = nI j
theorem sc_rvP {n s e : Nat} (he : e ≤ n) : ∀ m i po, i + m = (e - s) / 2 → sc_Pm n po → sc_Pm n (sc_rv s e m i po) := by
  intro m
  induction m with
  | zero => exact fun i po _ h => h
  | succ m ih =>
    intro i po hi h
    refine ih (i + 1) _ (by omega) (fun j hj => ?_)
    by_cases e1 : j = e - 1 - i
    · rw [e1, pk_us]; exact h _ (by omega)
    · rw [pk_un e1]
      by_cases e2 : j = s + i
      · rw [e2, pk_us]; exact h _ (by omega)
      · rw [pk_un e2]; exact h j hj
def sc_rr (pl : Nat → Int32) (l : Int32) : Nat → Nat → Nat → (Nat → Int32) → Nat → Int32
  | 0, i, s, po => sc_rv s i ((i - s) / 2) 0 po
  | d + 1, i, s, po => if l ≤ pl (po i).toNatClampNeg then sc_rr pl l d (i + 1) s po else sc_rr pl l d (i + 1) (i + 1) (sc_rv s i ((i - s) / 2) 0 po)
theorem sc_rrP {pl : Nat → Int32} {l : Int32} {n : Nat} : ∀ d i s po, i + d = n → sc_Pm n po → sc_Pm n (sc_rr pl l d i s po) := by
  intro d
  induction d with
  | zero => exact fun i s po hi h => sc_rvP (by omega) _ _ _ (by omega) h
  | succ d ih =>
    intro i s po hi h
    unfold sc_rr
    split
    · exact ih (i + 1) s po (by omega) h
    · exact ih (i + 1) (i + 1) _ (by omega) (sc_rvP (by omega) _ _ _ (by omega) h)
theorem sc_rr9 {pl : Nat → Int32} {l : Int32} {n : Nat} {po : Nat → Int32} (h : ∀ i, i < n → ¬ l ≤ pl (po i).toNatClampNeg) : ∀ d i, i + d = n → sc_rr pl l d i i po = po := by
  have e0 : ∀ i, sc_rv i i ((i - i) / 2) 0 po = po := by
    intro i
    rw [Nat.sub_self]; rfl
  intro d
  induction d with
  | zero => exact fun i hi => e0 i
  | succ d ih =>
    intro i hi
    unfold sc_rr
    rw [if_neg (h i (by omega)), e0 i]
    exact ih (i + 1) (by omega)
def sc_pg (pl : Nat → Int32) (n : Nat) : Nat → (Nat → Int32) → Nat → Int32
  | 0, po => po
  | l + 1, po => sc_pg pl n l (sc_rr pl (nI (l + 1)) n 0 0 po)
def sc_id : Nat → Nat → (Nat → Int32) → Nat → Int32
  | 0, _, po => po
  | d + 1, i, po => sc_id d (i + 1) (upd po i (nI i))
theorem sc_idP : ∀ d i po, (∀ j, j < i → ∃ q, q < i + d ∧ po j = nI q) → sc_Pm (i + d) (sc_id d i po) := by
  intro d
  induction d with
  | zero => exact fun i po h => h
  | succ d ih =>
    intro i po h
    have g := ih (i + 1) (upd po i (nI i)) (fun j hj => ?_)
    · rw [show i + 1 + d = i + (d + 1) by omega] at g; exact g
    · by_cases e : j = i
      · rw [e, pk_us]; exact ⟨i, by omega, rfl⟩
      · rw [pk_un e]
        obtain ⟨q, h1, h2⟩ := h j (by omega)
        exact ⟨q, by omega, h2⟩
section
variable {cc rl wl : Int32} {cl dt df ds ex lo uf us fi ki ef es di we cf cs cm tx le rr wk sh fo fl el ec ke kl em oe be pl po : Nat → Int32}
theorem x_rv_l {post : SX → Prop} {s e : Nat} (he : e ≤ 16) : ∀ (m i : Nat) (po : Nat → Int32), i + m = (e - s) / 2 → post (cc, rl, wl, cl, dt, df, ds, ex, lo, uf, us, fi, ki, ef, es, di, we, cf, cs, cm, tx, le, rr, wk, sh, fo, fl, el, ec, ke, kl, em, oe, be, pl, sc_rv s e m i po) → wX_reverseRow_9 post (nI s) (nI e) (nI ((e - s) / 2)) cc rl wl (m + 1) (nI i) cl dt df ds ex lo uf us fi ki ef es di we cf cs cm tx le rr wk sh fo fl el ec ke kl em oe be pl po := by
  intro m
  induction m with
  | zero => exact fun i po hi h => br_t (nI_le (by omega) (by omega)) h
  | succ m ih =>
    intro i po hi h
    have e1 : nI s + nI i = nI (s + i) := nI_add _ _
    have e2 : nI e - 1 - nI i = nI (e - 1 - i) := by
      obtain ⟨q, rfl⟩ : ∃ q, e = q + 1 := ⟨e - 1, by omega⟩
      rw [nI_pred, pk_sub (by omega)]; rfl
    have c1 : (nI s + nI i).toNatClampNeg = s + i := by rw [e1, nI_clamp (by omega)]
    have c2 : (nI e - 1 - nI i).toNatClampNeg = e - 1 - i := by rw [e2, nI_clamp (by omega)]
    have v1 : vp_in (nI s + nI i) 16 := by rw [e1]; exact vp_in_nI (by omega) (by decide)
    have v2 : vp_in (nI e - 1 - nI i) 16 := by rw [e2]; exact vp_in_nI (by omega) (by decide)
    exact br_f (nI_ge (by omega) (by omega)) ⟨v1, nm_r (e' := po (s + i)) (by rw [c1]) ⟨v2, v1, nm_r (e' := upd po (s + i) (po (e - 1 - i))) (by rw [c1, c2]) ⟨v2, nm_r (e' := upd (upd po (s + i) (po (e - 1 - i))) (e - 1 - i) (po (s + i))) (by rw [c2]) (nm_r (nI_1 i) (ih (i + 1) _ (by omega) h))⟩⟩⟩
theorem x_rv {post : SX → Prop} {s e : Nat} (hs : s ≤ e) (he : e ≤ 16) (h : post (cc, rl, wl, cl, dt, df, ds, ex, lo, uf, us, fi, ki, ef, es, di, we, cf, cs, cm, tx, le, rr, wk, sh, fo, fl, el, ec, ke, kl, em, oe, be, pl, sc_rv s e ((e - s) / 2) 0 po)) : wpX_reverseRow post (cc, rl, wl, cl, dt, df, ds, ex, lo, uf, us, fi, ki, ef, es, di, we, cf, cs, cm, tx, le, rr, wk, sh, fo, fl, el, ec, ke, kl, em, oe, be, pl, po) (nI s) (nI e) := by
  unfold wpX_reverseRow
  exact ⟨by decide, nm_r (e' := nI ((e - s) / 2)) (by rw [pk_sub hs]; exact pk_div (d := 2) (by omega) (by decide) (by decide)) ⟨_, x_rv_l he ((e - s) / 2) 0 po (by omega) h⟩⟩
theorem x_rr_l {post : SX → Prop} {n : Nat} {l : Int32} (hn : n ≤ 16) : ∀ (d i s : Nat) (po : Nat → Int32), i + d = n → s ≤ i → sc_Pm n po → post (cc, rl, wl, cl, dt, df, ds, ex, lo, uf, us, fi, ki, ef, es, di, we, cf, cs, cm, tx, le, rr, wk, sh, fo, fl, el, ec, ke, kl, em, oe, be, pl, sc_rr pl l d i s po) → wX_reverseRows_5 post (nI n) l (d + 2) (nI s) (nI i) cc rl wl cl dt df ds ex lo uf us fi ki ef es di we cf cs cm tx le rr wk sh fo fl el ec ke kl em oe be pl po := by
  intro d
  induction d with
  | zero =>
    intro i s po hi hs hP h
    obtain rfl : i = n := by omega
    refine br_f (nI_nlt (by omega) (by omega)) (br_t rfl ?_)
    unfold wX_reverseRows_33
    exact x_rv hs hn (nm_r (nI_1 i) (nm_r (nI_1 i) (br_t (nI_lt (by omega) (by omega)) h)))
  | succ d ih =>
    intro i s po hi hs hP h
    have c : (nI i).toNatClampNeg = i := nI_clamp (by omega)
    obtain ⟨q, hq, eq⟩ := hP i (by omega)
    unfold sc_rr at h
    refine br_f (nI_nlt (by omega) (by omega)) (br_f (fun z => by have := (nI_eq (by omega) (by omega)).mp z; omega) ⟨vp_in_nI (by omega) (by decide), by rw [c, eq]; exact vp_in_nI (by omega) (by decide), ?_⟩)
    rw [c]
    refine br_c (fun a => nm_r (nI_1 i) (ih (i + 1) s po (by omega) (by omega) hP ?_)) (fun a => ?_)
    · rw [if_pos a] at h; exact h
    · rw [if_neg a] at h
      unfold wX_reverseRows_33
      exact x_rv hs (by omega) (nm_r (nI_1 i) (nm_r (nI_1 i) (ih (i + 1) (i + 1) _ (by omega) (by omega) (sc_rvP (by omega) _ _ _ (by omega) hP) h)))
theorem x_pg_l {post : Int32 → SX → Prop} {n p : Nat} (hn : n ≤ 16) (hp : p < n) : ∀ (l : Nat) (po : Nat → Int32), l ≤ 8 → sc_Pm n po → post (sc_pg pl n l po p) (cc, rl, wl, cl, dt, df, ds, ex, lo, uf, us, fi, ki, ef, es, di, we, cf, cs, cm, tx, le, rr, wk, sh, fo, fl, el, ec, ke, kl, em, oe, be, pl, sc_pg pl n l po) → wX_onPage_62 post (nI p) (nI n) (l + 1) (nI l) cc rl wl cl dt df ds ex lo uf us fi ki ef es di we cf cs cm tx le rr wk sh fo fl el ec ke kl em oe be pl po := by
  have c : (nI p).toNatClampNeg = p := nI_clamp (by omega)
  intro l
  induction l with
  | zero =>
    intro po hl hP h
    refine br_t (by decide) ⟨vp_in_nI (by omega) (by decide), ?_⟩
    rw [c]; exact h
  | succ l ih =>
    intro po hl hP h
    refine br_f (nI_nlt (b := 1) (by omega) (by omega)) ?_
    unfold wpX_reverseRows
    exact ⟨n + 2, x_rr_l hn n 0 0 po (by omega) (by omega) hP (nm_r (pk_m1 l) (ih _ (by omega) (sc_rrP _ _ _ _ (by omega) hP) h))⟩
theorem x_id_l {post : Int32 → SX → Prop} {n p : Nat} (hn : n ≤ 16) : ∀ (d i : Nat) (po : Nat → Int32), i + d = n → (∃ n62, wX_onPage_62 post (nI p) (nI n) n62 8 cc rl wl cl dt df ds ex lo uf us fi ki ef es di we cf cs cm tx le rr wk sh fo fl el ec ke kl em oe be pl (sc_id d i po)) → wX_onPage_36 post (nI p) (nI n) cc rl wl (d + 1) (nI i) cl dt df ds ex lo uf us fi ki ef es di we cf cs cm tx le rr wk sh fo fl el ec ke kl em oe be pl po := by
  intro d
  induction d with
  | zero => exact fun i po hi h => br_t (nI_le (by omega) (by omega)) h
  | succ d ih => exact fun i po hi h => br_f (nI_ge (by omega) (by omega)) ⟨vp_in_nI (by omega) (by decide), nm_r (e' := upd po i (nI i)) (by rw [nI_clamp (by omega)]) (nm_r (nI_1 i) (ih (i + 1) _ (by omega) h))⟩
end
section
variable {cc rl yn : Int32} {cl dt df pb lo uf us fi ki wt ef eb di ex cf cs cm lg tx le rr ro fm fL ee en ye lv se pg ou : Nat → Int32}
theorem y_rv_l {post : SY → Prop} {s e : Nat} (hs : s ≤ e) (he : e ≤ 16) : ∀ (m i : Nat) (pg : Nat → Int32), i + m = (e - s) / 2 → post (cc, rl, yn, cl, dt, df, pb, lo, uf, us, fi, ki, wt, ef, eb, di, ex, cf, cs, cm, lg, tx, le, rr, ro, fm, fL, ee, en, ye, lv, se, sc_rv s e m i pg, ou) → wY_reverse_7 post cc rl yn (m + 1) (nI (s + i)) (sc_pr (e - i)) cl dt df pb lo uf us fi ki wt ef eb di ex cf cs cm lg tx le rr ro fm fL ee en ye lv se pg ou := by
  intro m
  induction m with
  | zero =>
    intro i pg hi h
    refine br_t ?_ h
    cases hq : e - i with
    | zero =>
      show -1 ≤ nI (s + i)
      exact Int32.le_trans (show (-1 : Int32) ≤ 0 by decide) (nI_pos' (by omega))
    | succ q => exact nI_le (by omega) (by omega)
  | succ m ih =>
    intro i pg hi h
    obtain ⟨q, hq⟩ : ∃ q, e - i = q + 1 := ⟨e - i - 1, by omega⟩
    have e2 : sc_pr (e - i) = nI (e - 1 - i) := by rw [hq, show e - 1 - i = q by omega]; rfl
    have c1 : (nI (s + i)).toNatClampNeg = s + i := nI_clamp (by omega)
    have c2 : (nI (e - 1 - i)).toNatClampNeg = e - 1 - i := nI_clamp (by omega)
    have v1 : vp_in (nI (s + i)) 16 := vp_in_nI (by omega) (by decide)
    have v2 : vp_in (nI (e - 1 - i)) 16 := vp_in_nI (by omega) (by decide)
    rw [e2]
    have e3 : nI (e - 1 - i) + (-1) = sc_pr (e - (i + 1)) := by rw [sc_prA, show e - 1 - i = e - (i + 1) by omega]
    exact br_f (nI_ge (by omega) (by omega)) ⟨v1, nm_r (e' := pg (s + i)) (by rw [c1]) ⟨v2, v1, nm_r (e' := upd pg (s + i) (pg (e - 1 - i))) (by rw [c1, c2]) ⟨v2, nm_r (e' := upd (upd pg (s + i) (pg (e - 1 - i))) (e - 1 - i) (pg (s + i))) (by rw [c2]) (nm_r e3 (nm_r (nI_1 _) (ih (i + 1) _ (by omega) h)))⟩⟩⟩
theorem y_rv {post : SY → Prop} {s e : Nat} (hs : s ≤ e) (he : e ≤ 16) (h : post (cc, rl, yn, cl, dt, df, pb, lo, uf, us, fi, ki, wt, ef, eb, di, ex, cf, cs, cm, lg, tx, le, rr, ro, fm, fL, ee, en, ye, lv, se, sc_rv s e ((e - s) / 2) 0 pg, ou)) : wpY_reverse post (cc, rl, yn, cl, dt, df, pb, lo, uf, us, fi, ki, wt, ef, eb, di, ex, cf, cs, cm, lg, tx, le, rr, ro, fm, fL, ee, en, ye, lv, se, pg, ou) (nI s) (nI e) := by
  unfold wpY_reverse
  exact nm_r (sc_prS e) ⟨_, y_rv_l hs he ((e - s) / 2) 0 pg (by omega) h⟩
theorem y_rr_l {post : SY → Prop} {t n : Nat} {l : Int32} (ht : t < 2) (hl : le t = nI n) (hn : n ≤ 16) : ∀ (d i s m : Nat) (pg : Nat → Int32), i + d = n → s ≤ i → d + 1 ≤ m → sc_Pm n pg → post (cc, rl, yn, cl, dt, df, pb, lo, uf, us, fi, ki, wt, ef, eb, di, ex, cf, cs, cm, lg, tx, le, rr, ro, fm, fL, ee, en, ye, lv, se, sc_rr lv l d i s pg, ou) → wY_turn_15 post (wY_turn_2 post (nI t) l m) (nI t) l (nI s) cc rl yn cl dt df pb lo uf us fi ki wt ef eb di ex cf cs cm lg tx le rr ro fm fL ee en ye lv se pg ou (d + 1) (nI i) := by
  have hL : le (nI t).toNatClampNeg = nI n := by rw [nI_clamp (by omega), hl]
  intro d
  induction d with
  | zero =>
    intro i s m pg hi hs hm hP h
    obtain rfl : i = n := by omega
    obtain ⟨m, rfl⟩ : ∃ q, m = q + 1 := ⟨m - 1, by omega⟩
    refine ⟨vp_in_nI ht (by decide), br_t (by rw [hL]; exact nI_le (by omega) (by omega)) ?_⟩
    unfold wY_turn_48
    exact y_rv hs hn (nm_r (nI_1 i) ⟨vp_in_nI ht (by decide), br_t (by rw [hL]; exact nI_le (by omega) (by omega)) h⟩)
  | succ d ih =>
    intro i s m pg hi hs hm hP h
    obtain ⟨m, rfl⟩ : ∃ q, m = q + 1 := ⟨m - 1, by omega⟩
    have c : (nI i).toNatClampNeg = i := nI_clamp (by omega)
    obtain ⟨q, hq, eq⟩ := hP i (by omega)
    unfold sc_rr at h
    refine ⟨vp_in_nI ht (by decide), br_f (by rw [hL]; exact nI_ge (by omega) (by omega)) ⟨vp_in_nI (by omega) (by decide), by rw [c, eq]; exact vp_in_nI (by omega) (by decide), ?_⟩⟩
    rw [c]
    refine br_c (fun a => ?_) (fun a => nm_r (nI_1 i) (ih (i + 1) s (m + 1) pg (by omega) (by omega) (by omega) hP ?_))
    · rw [if_neg (Int32.not_le.mpr a)] at h
      unfold wY_turn_48
      refine y_rv hs (by omega) (nm_r (nI_1 i) ⟨vp_in_nI ht (by decide), ?_⟩)
      rw [hL]
      have hP' : sc_Pm n (sc_rv s i ((i - s) / 2) 0 pg) := sc_rvP (by omega) _ _ _ (by omega) hP
      by_cases z : i + 1 < n
      · exact br_f (nI_ge z (by omega)) ⟨d + 1, ih (i + 1) (i + 1) m _ (by omega) (by omega) (by omega) hP' h⟩
      · refine br_t (nI_le (by omega) (by omega)) ?_
        obtain rfl : d = 0 := by omega
        have e0 : ∀ pg, sc_rr lv l 0 (i + 1) (i + 1) pg = pg := fun pg => by
          show sc_rv (i + 1) (i + 1) ((i + 1 - (i + 1)) / 2) 0 pg = pg
          rw [Nat.sub_self]; rfl
        rw [e0] at h
        exact h
    · rw [if_pos (Int32.not_lt.mp a)] at h; exact h
theorem y_pg_l {post : Int32 → SY → Prop} {t n p : Nat} (ht : t < 2) (hl : le t = nI n) (hn : n ≤ 16) (hp : p < n) : ∀ (l : Nat) (pg : Nat → Int32), l ≤ 9 → sc_Pm n pg → post (sc_pg lv n l pg p) (cc, rl, yn, cl, dt, df, pb, lo, uf, us, fi, ki, wt, ef, eb, di, ex, cf, cs, cm, lg, tx, le, rr, ro, fm, fL, ee, en, ye, lv, se, sc_pg lv n l pg, ou) → wY_onPage_69 post (nI t) (nI p) (l + 1) (nI l) cc rl yn cl dt df pb lo uf us fi ki wt ef eb di ex cf cs cm lg tx le rr ro fm fL ee en ye lv se pg ou := by
  have hL : le (nI t).toNatClampNeg = nI n := by rw [nI_clamp (by omega), hl]
  have c : (nI p).toNatClampNeg = p := nI_clamp (by omega)
  intro l
  induction l with
  | zero =>
    intro pg hl' hP h
    refine br_t (by decide) ⟨vp_in_nI (by omega) (by decide), ?_⟩
    rw [c]; exact h
  | succ l ih =>
    intro pg hl' hP h
    refine br_f (nI_nle (by omega) (by omega)) ?_
    unfold wpY_turn
    refine ⟨n + 2, ⟨vp_in_nI ht (by decide), br_f (by rw [hL]; exact nI_ge (a := 0) (by omega) (by omega)) ⟨n + 1, ?_⟩⟩⟩
    exact y_rr_l ht hl hn n 0 0 (n + 1) pg (by omega) (by omega) (by omega) hP (nm_r (pk_m1 l) (ih _ (by omega) (sc_rrP _ _ _ _ (by omega) hP) h))
theorem y_id_l {post : Int32 → SY → Prop} {t n p : Nat} (ht : t < 2) (hl : le t = nI n) (hn : n ≤ 16) : ∀ (d i : Nat) (pg : Nat → Int32), i + d = n → (∃ n69, wY_onPage_69 post (nI t) (nI p) n69 9 cc rl yn cl dt df pb lo uf us fi ki wt ef eb di ex cf cs cm lg tx le rr ro fm fL ee en ye lv se (sc_id d i pg) ou) → wY_onPage_39 post (nI t) (nI p) cc rl yn (d + 1) (nI i) cl dt df pb lo uf us fi ki wt ef eb di ex cf cs cm lg tx le rr ro fm fL ee en ye lv se pg ou := by
  have hL : le (nI t).toNatClampNeg = nI n := by rw [nI_clamp (by omega), hl]
  intro d
  induction d with
  | zero => exact fun i pg hi h => ⟨vp_in_nI ht (by decide), br_t (by rw [hL]; exact nI_le (by omega) (by omega)) h⟩
  | succ d ih => exact fun i pg hi h => ⟨vp_in_nI ht (by decide), br_f (by rw [hL]; exact nI_ge (by omega) (by omega)) ⟨vp_in_nI (by omega) (by decide), nm_r (e' := upd pg i (nI i)) (by rw [nI_clamp (by omega)]) (nm_r (nI_1 i) (ih (i + 1) _ (by omega) h))⟩⟩
end
theorem sc_pg9 {pl : Nat → Int32} {n : Nat} {po : Nat → Int32} (hn : n ≤ 16) (hP : sc_Pm n po) (h9 : ∀ j, j < n → vp_in (pl j) 9) : sc_pg pl n 9 po = sc_pg pl n 8 po := by
  show sc_pg pl n 8 (sc_rr pl (nI 9) n 0 0 po) = _
  rw [sc_rr9 (n := n) (fun i hi => ?_) n 0 (by omega)]
  obtain ⟨j, hj, e⟩ := hP i hi
  rw [e, nI_clamp (by omega)]
  obtain ⟨q, hq, eq⟩ := vp_in_of (h9 j hj) (by decide)
  rw [eq]
  exact nI_ge (by omega) (by decide)
theorem i_vc_onPage {k : Nat} {u : SX} {v : SY} (I : i_Rel k u v) (hk : k + 5 ≤ 2560) (v1 : Int32) (v2 : Int32) (v3 : Int32) : wpX_onPage (fun r u' => wpY_onPage (fun r' v' => r' = r ∧ i_Rel (k + 5) u' v') v v1 v2 v3) u v1 v2 v3 := by
  obtain ⟨cc, rl, wl, yn, cl, dt, df, ds, ex, lo, uf, us, fi, ki, ef, es, di, we, cf, cs, cm, tx, le, rr, wk, sh, fo, fl, el, ec, ke, kl, em, oe, be, pl, po, pb, wt, eb, lg, ro, fm, fL, ee, en, rfl, rfl, I⟩ := I
  have I0 := I
  obtain ⟨i1, i2, i3, i4, i5, i6, i7, i8, i9, i10, i11, i12, i13, i14, i15, i16, i17⟩ := I
  unfold wpX_onPage
  rcases sn_text v1 with ⟨t, ht, rfl⟩ | ⟨h0, h1, h2⟩
  rotate_left
  · exact x_has2 h2 (br_t rfl (y_pag_bad (Or.inl ⟨h0, h1⟩) ⟨rfl, sc_mk I0⟩))
  obtain ⟨n, hn, hl⟩ := i3 t ht
  have hL : le (nI t).toNatClampNeg = nI n := by rw [nI_clamp (by omega), hl]
  have bad : (v3 < 0 ∨ ¬ v3 < 0 ∧ nI n ≤ v3) → wpY_onPage (fun r' v' => r' = -1 ∧ i_Rel (k + 5) (cc, rl, wl, cl, dt, df, ds, ex, lo, uf, us, fi, ki, ef, es, di, we, cf, cs, cm, tx, le, rr, wk, sh, fo, fl, el, ec, ke, kl, em, oe, be, pl, po) v') (cc, rl, yn, cl, dt, df, pb, lo, uf, us, fi, ki, wt, ef, eb, di, ex, cf, cs, cm, lg, tx, le, rr, ro, fm, fL, ee, en, em, pl, be, po, oe) (nI t) v2 v3 := by
    intro z
    rcases sn_text v2 with ⟨b, hb, rfl⟩ | ⟨h0, h1, h2⟩
    · exact y_pag_bad (Or.inr ⟨t, n, ht, hn, hl, rfl, Or.inr ⟨b, hb, rfl, z⟩⟩) ⟨rfl, sc_mk I0⟩
    · exact y_pag_bad (Or.inr ⟨t, n, ht, hn, hl, rfl, Or.inl ⟨h0, h1⟩⟩) ⟨rfl, sc_mk I0⟩
  by_cases hp0 : v3 < 0
  · exact x_has0 ht hl (Or.inl hp0) (br_t rfl (bad (Or.inl hp0)))
  obtain ⟨p, hp, rfl⟩ := nI_of hp0
  by_cases hpn : p < n
  · refine x_has1 ht hn hpn hl (br_f (by decide) ?_)
    rcases sn_text v2 with ⟨b, hb, rfl⟩ | ⟨h0, h1, h2⟩
    · have hb7 : vp_in (nI b) 7 := vp_in_nI (by omega) (by decide)
      have P := sc_ebP (dr := sc_dr di tx t) (N := n) (fun i => i11 _) n 0 (nI b) 0 em be oe (by omega) hb7 (fun j hj => absurd hj (by omega)) (fun j hj => absurd hj (by omega))
      have P9 := sc_flP (b := nI b) (fun j hj => (P j hj).1) (n - 1) 1 0 (sc_eb (sc_dr di tx t) n 0 (nI b) 0 em be oe).2.1 pl (by omega) (by omega) (fun j hj => absurd hj (by omega))
      have Q : sc_Pm n (sc_id n 0 po) := by
        have := sc_idP n 0 po (fun j hj => absurd hj (by omega))
        rw [Nat.zero_add] at this
        exact this
      refine xs_base1 hb (br_f (by decide) (x_findLevels ht hb i4 i11 hn (by omega) hl ⟨vp_in_nI ht (by decide), nm_r hL ⟨n + 1, x_id_l hn n 0 po (by omega) ⟨9, x_pg_l hn hpn 8 _ (by omega) Q ?_⟩⟩⟩))
      unfold wpY_onPage
      refine ys_text1 ht (br_f (by decide) (ys_text1 hb (br_f (by decide) (br_f hp0 ⟨vp_in_nI ht (by decide), br_t (by rw [hL]; exact nI_lt hpn (by omega)) ?_⟩))))
      refine y_findLevels ht hb i4 i11 hn (by omega) hl ⟨n + 1, y_id_l ht hl hn n 0 po (by omega) ⟨10, y_pg_l ht hl hn hpn 9 _ (by omega) Q ?_⟩⟩
      rw [sc_pg9 hn Q P9]
      exact ⟨rfl, sc_mk I0⟩
    · exact xs_base0 h0 h1 (br_t rfl (y_pag_bad (Or.inr ⟨t, n, ht, hn, hl, rfl, Or.inl ⟨h0, h1⟩⟩) ⟨rfl, sc_mk I0⟩))
  · have z : nI n ≤ nI p := nI_le (by omega) hp
    exact x_has0 ht hl (Or.inr ⟨hp0, z⟩) (br_t rfl (bad (Or.inr ⟨hp0, z⟩)))
