/-! insert and erase -/
section
variable {cc rl wl : Int32} {cl dt df ds ex lo uf us fi ki ef es di we cf cs cm tx le rr wk sh fo fl el ec ke kl em oe be pl po : Nat → Int32}
theorem x_ins_l {post : Int32 → SX → Prop} {t n p : Nat} {c : Int32} (ht : t < 2) (hn : n < 16) (hp : p ≤ n) : ∀ (d : Nat) (tx : Nat → Int32), p + d ≤ n →
    post 1 (cc, rl, wl, cl, dt, df, ds, ex, lo, uf, us, fi, ki, ef, es, di, we, cf, cs, cm, upd (sc_up (16 * t) d p tx) (16 * t + p) c, upd le t (nI (n + 1)), rr, wk, sh, fo, fl, el, ec, ke, kl, em, oe, be, pl, po) →
    wX_insert_55 post (nI t) (nI p) c (nI n) (nI (16 * t)) cc rl wl (d + 1) (nI (p + d)) cl dt df ds ex lo uf us fi ki ef es di we cf cs cm tx le rr wk sh fo fl el ec ke kl em oe be pl po := by
  intro d
  induction d with
  | zero => exact fun tx hi h => br_t (nI_le (by omega) (by omega)) ⟨pk_in (16 * t + p) 32 (by omega) (nI_add _ _), nm_r (e' := upd tx (16 * t + p) c) (by rw [nI_add, nI_clamp (by omega)]) ⟨vp_in_nI ht (by decide), nm_r (by rw [nI_clamp (by omega), nI_1]) h⟩⟩
  | succ d ih => exact fun tx hi h => br_f (nI_ge (by omega) (by omega)) ⟨pk_in (16 * t + p + d) 32 (by omega) (by rw [nI_add, show 16 * t + (p + (d + 1)) = 16 * t + p + d + 1 by omega]; exact nI_pred _), pk_in (16 * t + p + d + 1) 32 (by omega) (by rw [nI_add]; exact congrArg nI (by omega)),
      nm_r (by rw [nI_add, show 16 * t + (p + (d + 1)) = 16 * t + p + d + 1 by omega, nI_pred, nI_clamp (by omega), nI_clamp (by omega)]) (nm_r (pk_m1 _) (ih _ (by omega) h))⟩
theorem x_ins1 {post : Int32 → SX → Prop} {t n p c : Nat} (ht : t < 2) (hn : n < 16) (hp : p ≤ n) (hc : c < 48) (hl : le t = nI n)
    (h : post 1 (cc, rl, wl, cl, dt, df, ds, ex, lo, uf, us, fi, ki, ef, es, di, we, cf, cs, cm, upd (sc_up (16 * t) (n - p) p tx) (16 * t + p) (nI c), upd le t (nI (n + 1)), rr, wk, sh, fo, fl, el, ec, ke, kl, em, oe, be, pl, po)) : wpX_insert post (cc, rl, wl, cl, dt, df, ds, ex, lo, uf, us, fi, ki, ef, es, di, we, cf, cs, cm, tx, le, rr, wk, sh, fo, fl, el, ec, ke, kl, em, oe, be, pl, po) (nI t) (nI p) (nI c) := by
  have e := x_ins_l (post := post) (c := nI c) ht hn hp (n - p) tx (by omega) h
  rw [show p + (n - p) = n by omega] at e
  unfold wpX_insert
  refine xs_text1 ht (br_f (by decide) (xs_char1 hc (br_f (by decide) ⟨vp_in_nI ht (by decide), nm_r (by rw [nI_clamp (by omega), hl]) ?_⟩)))
  exact br_f (nI_pos (by omega)) (br_f (nI_nlt hp (by omega)) (br_t (nI_lt (b := 16) hn (by decide)) (nm_r (sn_t16 t) ⟨_, e⟩)))
theorem x_ins0 {post : Int32 → SX → Prop} {t n c : Nat} {p : Int32} (ht : t < 2) (hc : c < 48) (hl : le t = nI n) (hp : p < 0 ∨ ¬ p < 0 ∧ (nI n < p ∨ ¬ nI n < p ∧ ¬ nI n < 16))
    (h : post 0 (cc, rl, wl, cl, dt, df, ds, ex, lo, uf, us, fi, ki, ef, es, di, we, cf, cs, cm, tx, le, rr, wk, sh, fo, fl, el, ec, ke, kl, em, oe, be, pl, po)) : wpX_insert post (cc, rl, wl, cl, dt, df, ds, ex, lo, uf, us, fi, ki, ef, es, di, we, cf, cs, cm, tx, le, rr, wk, sh, fo, fl, el, ec, ke, kl, em, oe, be, pl, po) (nI t) p (nI c) := by
  unfold wpX_insert
  refine xs_text1 ht (br_f (by decide) (xs_char1 hc (br_f (by decide) ⟨vp_in_nI ht (by decide), nm_r (by rw [nI_clamp (by omega), hl]) ?_⟩)))
  exact hp.elim (fun z => br_t z h) (fun z => br_f z.1 (z.2.elim (fun z => br_t z h) (fun z => br_f z.1 (br_f z.2 h))))
theorem x_ins2 {post : Int32 → SX → Prop} {t p c : Int32} (ht : t < 0 ∨ ¬ t < 0 ∧ 2 ≤ t) (h : post 0 (cc, rl, wl, cl, dt, df, ds, ex, lo, uf, us, fi, ki, ef, es, di, we, cf, cs, cm, tx, le, rr, wk, sh, fo, fl, el, ec, ke, kl, em, oe, be, pl, po)) : wpX_insert post (cc, rl, wl, cl, dt, df, ds, ex, lo, uf, us, fi, ki, ef, es, di, we, cf, cs, cm, tx, le, rr, wk, sh, fo, fl, el, ec, ke, kl, em, oe, be, pl, po) t p c := by
  unfold wpX_insert
  exact xs_text0 ht (br_t rfl h)
theorem x_ins3 {post : Int32 → SX → Prop} {t : Nat} {p c : Int32} (ht : t < 2) (hc : c < 0 ∨ ¬ c < 0 ∧ 48 ≤ c) (h : post 0 (cc, rl, wl, cl, dt, df, ds, ex, lo, uf, us, fi, ki, ef, es, di, we, cf, cs, cm, tx, le, rr, wk, sh, fo, fl, el, ec, ke, kl, em, oe, be, pl, po)) : wpX_insert post (cc, rl, wl, cl, dt, df, ds, ex, lo, uf, us, fi, ki, ef, es, di, we, cf, cs, cm, tx, le, rr, wk, sh, fo, fl, el, ec, ke, kl, em, oe, be, pl, po) (nI t) p c := by
  unfold wpX_insert
  exact xs_text1 ht (br_f (by decide) (xs_char0 hc (br_t rfl h)))
theorem x_has1 {post : Int32 → Prop} {t n p : Nat} (ht : t < 2) (hn : n ≤ 16) (hp : p < n) (hl : le t = nI n) (h : post 1) : wpX_hasCharacterAt post (cc, rl, wl, cl, dt, df, ds, ex, lo, uf, us, fi, ki, ef, es, di, we, cf, cs, cm, tx, le, rr, wk, sh, fo, fl, el, ec, ke, kl, em, oe, be, pl, po) (nI t) (nI p) := by
  unfold wpX_hasCharacterAt
  exact xs_text1 ht (br_f (by decide) (br_f (nI_pos (by omega)) ⟨vp_in_nI ht (by decide), br_f (by rw [nI_clamp (by omega), hl]; exact nI_ge hp (by omega)) h⟩))
theorem x_has0 {post : Int32 → Prop} {t n : Nat} {p : Int32} (ht : t < 2) (hl : le t = nI n) (hp : p < 0 ∨ ¬ p < 0 ∧ nI n ≤ p) (h : post 0) : wpX_hasCharacterAt post (cc, rl, wl, cl, dt, df, ds, ex, lo, uf, us, fi, ki, ef, es, di, we, cf, cs, cm, tx, le, rr, wk, sh, fo, fl, el, ec, ke, kl, em, oe, be, pl, po) (nI t) p := by
  unfold wpX_hasCharacterAt
  exact xs_text1 ht (br_f (by decide) (hp.elim (fun z => br_t z h) (fun z => br_f z.1 ⟨vp_in_nI ht (by decide), br_t (by rw [nI_clamp (by omega), hl]; exact z.2) h⟩)))
theorem x_has2 {post : Int32 → Prop} {t p : Int32} (ht : t < 0 ∨ ¬ t < 0 ∧ 2 ≤ t) (h : post 0) : wpX_hasCharacterAt post (cc, rl, wl, cl, dt, df, ds, ex, lo, uf, us, fi, ki, ef, es, di, we, cf, cs, cm, tx, le, rr, wk, sh, fo, fl, el, ec, ke, kl, em, oe, be, pl, po) t p := by
  unfold wpX_hasCharacterAt
  exact xs_text0 ht (br_t rfl h)
theorem x_era_l {post : Int32 → SX → Prop} {t n : Nat} (ht : t < 2) (hn : n < 16) : ∀ (d i : Nat) (tx : Nat → Int32), i + d = n →
    post 1 (cc, rl, wl, cl, dt, df, ds, ex, lo, uf, us, fi, ki, ef, es, di, we, cf, cs, cm, sc_dn (16 * t) d i tx, upd le t (nI n), rr, wk, sh, fo, fl, el, ec, ke, kl, em, oe, be, pl, po) → wX_erase_29 post (nI t) (nI (16 * t)) (nI n) cc rl wl (d + 1) (nI i) cl dt df ds ex lo uf us fi ki ef es di we cf cs cm tx le rr wk sh fo fl el ec ke kl em oe be pl po := by
  intro d
  induction d with
  | zero => exact fun i tx hi h => br_t (nI_le (by omega) (by omega)) ⟨vp_in_nI ht (by decide), nm_r (by rw [nI_clamp (by omega)]) h⟩
  | succ d ih => exact fun i tx hi h => br_f (nI_ge (by omega) (by omega)) ⟨pk_in (16 * t + i + 1) 32 (by omega) (by rw [nI_add, nI_1]), pk_in (16 * t + i) 32 (by omega) (nI_add _ _),
      nm_r (by rw [nI_add, nI_1, nI_clamp (by omega), nI_clamp (by omega)]) (nm_r (nI_1 i) (ih (i + 1) _ (by omega) h))⟩
theorem x_era1 {post : Int32 → SX → Prop} {t n p : Nat} (ht : t < 2) (hn : n < 16) (hp : p ≤ n) (hl : le t = nI (n + 1))
    (h : post 1 (cc, rl, wl, cl, dt, df, ds, ex, lo, uf, us, fi, ki, ef, es, di, we, cf, cs, cm, sc_dn (16 * t) (n - p) p tx, upd le t (nI n), rr, wk, sh, fo, fl, el, ec, ke, kl, em, oe, be, pl, po)) : wpX_erase post (cc, rl, wl, cl, dt, df, ds, ex, lo, uf, us, fi, ki, ef, es, di, we, cf, cs, cm, tx, le, rr, wk, sh, fo, fl, el, ec, ke, kl, em, oe, be, pl, po) (nI t) (nI p) := by
  unfold wpX_erase
  refine x_has1 ht (by omega) (by omega : p < n + 1) hl (br_f (by decide) (nm_r (sn_t16 t) ⟨vp_in_nI ht (by decide), nm_r (by rw [nI_clamp (by omega), hl, nI_pred]) ⟨n - p + 1, ?_⟩⟩))
  exact x_era_l ht hn (n - p) p tx (by omega) h
theorem x_era0 {post : Int32 → SX → Prop} {t n : Nat} {p : Int32} (ht : t < 2) (hl : le t = nI n) (hp : p < 0 ∨ ¬ p < 0 ∧ nI n ≤ p) (h : post 0 (cc, rl, wl, cl, dt, df, ds, ex, lo, uf, us, fi, ki, ef, es, di, we, cf, cs, cm, tx, le, rr, wk, sh, fo, fl, el, ec, ke, kl, em, oe, be, pl, po)) : wpX_erase post (cc, rl, wl, cl, dt, df, ds, ex, lo, uf, us, fi, ki, ef, es, di, we, cf, cs, cm, tx, le, rr, wk, sh, fo, fl, el, ec, ke, kl, em, oe, be, pl, po) (nI t) p := by
  unfold wpX_erase
  exact x_has0 ht hl hp (br_t rfl h)
theorem x_era2 {post : Int32 → SX → Prop} {t p : Int32} (ht : t < 0 ∨ ¬ t < 0 ∧ 2 ≤ t) (h : post 0 (cc, rl, wl, cl, dt, df, ds, ex, lo, uf, us, fi, ki, ef, es, di, we, cf, cs, cm, tx, le, rr, wk, sh, fo, fl, el, ec, ke, kl, em, oe, be, pl, po)) : wpX_erase post (cc, rl, wl, cl, dt, df, ds, ex, lo, uf, us, fi, ki, ef, es, di, we, cf, cs, cm, tx, le, rr, wk, sh, fo, fl, el, ec, ke, kl, em, oe, be, pl, po) t p := by
  unfold wpX_erase
  exact x_has2 ht (br_t rfl h)
end
section
variable {cc rl yn : Int32} {cl dt df pb lo uf us fi ki wt ef eb di ex cf cs cm lg tx le rr ro fm fL ee en ye lv se pg ou : Nat → Int32}
theorem y_ins_l {post : Int32 → SY → Prop} {t n p : Nat} {c : Int32} (ht : t < 2) (hn : n < 16) (hp : p ≤ n) (hl : le t = nI n) : ∀ (d : Nat) (tx : Nat → Int32), p + d ≤ n →
    post 1 (cc, rl, yn, cl, dt, df, pb, lo, uf, us, fi, ki, wt, ef, eb, di, ex, cf, cs, cm, lg, upd (sc_up (16 * t) d p tx) (16 * t + p) c, upd le t (nI (n + 1)), rr, ro, fm, fL, ee, en, ye, lv, se, pg, ou) →
    wY_insert_49 post (nI t) (nI p) c cc rl yn (d + 1) (nI (p + d)) cl dt df pb lo uf us fi ki wt ef eb di ex cf cs cm lg tx le rr ro fm fL ee en ye lv se pg ou := by
  intro d
  induction d with
  | zero => exact fun tx hi h => br_t (nI_le (by omega) (by omega)) ⟨pk_in (16 * t + p) 32 (by omega) (sn_16 _ _), nm_r (e' := upd tx (16 * t + p) c) (by rw [sn_16, nI_clamp (by omega)]) ⟨vp_in_nI ht (by decide), vp_in_nI ht (by decide), nm_r (by rw [nI_clamp (by omega), hl, nI_1]) h⟩⟩
  | succ d ih => exact fun tx hi h => br_f (nI_ge (by omega) (by omega)) ⟨pk_in (16 * t + p + d) 32 (by omega) (by rw [sn_16, show 16 * t + (p + (d + 1)) = 16 * t + p + d + 1 by omega]; exact nI_pred _), pk_in (16 * t + p + d + 1) 32 (by omega) (by rw [sn_16]; exact congrArg nI (by omega)),
      nm_r (by rw [sn_16, show 16 * t + (p + (d + 1)) = 16 * t + p + d + 1 by omega, nI_pred, nI_clamp (by omega), nI_clamp (by omega)]) (nm_r (pk_m1 _) (ih _ (by omega) h))⟩
theorem y_ins1 {post : Int32 → SY → Prop} {t n p c : Nat} (ht : t < 2) (hn : n < 16) (hp : p ≤ n) (hc : c < 48) (hl : le t = nI n)
    (h : post 1 (cc, rl, yn, cl, dt, df, pb, lo, uf, us, fi, ki, wt, ef, eb, di, ex, cf, cs, cm, lg, upd (sc_up (16 * t) (n - p) p tx) (16 * t + p) (nI c), upd le t (nI (n + 1)), rr, ro, fm, fL, ee, en, ye, lv, se, pg, ou)) : wpY_insert post (cc, rl, yn, cl, dt, df, pb, lo, uf, us, fi, ki, wt, ef, eb, di, ex, cf, cs, cm, lg, tx, le, rr, ro, fm, fL, ee, en, ye, lv, se, pg, ou) (nI t) (nI p) (nI c) := by
  have e := y_ins_l (post := post) (c := nI c) ht hn hp hl (n - p) tx (by omega) h
  rw [show p + (n - p) = n by omega] at e
  unfold wpY_insert
  refine ys_text1 ht (br_f (by decide) (ys_char1 hc (br_f (by decide) (br_f (nI_pos (by omega)) ⟨vp_in_nI ht (by decide), ?_⟩))))
  have hL : le (nI t).toNatClampNeg = nI n := by rw [nI_clamp (by omega), hl]
  exact br_f (by rw [hL]; exact nI_nlt hp (by omega)) ⟨vp_in_nI ht (by decide), br_f (by rw [hL]; exact fun z => by have := (nI_eq (b := 16) (by omega) (by decide)).mp z; omega) ⟨vp_in_nI ht (by decide), nm_r hL ⟨_, e⟩⟩⟩
theorem y_ins0 {post : Int32 → SY → Prop} {t n c : Nat} {p : Int32} (ht : t < 2) (hn : n ≤ 16) (hc : c < 48) (hl : le t = nI n) (hp : p < 0 ∨ ¬ p < 0 ∧ (nI n < p ∨ ¬ nI n < p ∧ ¬ nI n < 16))
    (h : post 0 (cc, rl, yn, cl, dt, df, pb, lo, uf, us, fi, ki, wt, ef, eb, di, ex, cf, cs, cm, lg, tx, le, rr, ro, fm, fL, ee, en, ye, lv, se, pg, ou)) : wpY_insert post (cc, rl, yn, cl, dt, df, pb, lo, uf, us, fi, ki, wt, ef, eb, di, ex, cf, cs, cm, lg, tx, le, rr, ro, fm, fL, ee, en, ye, lv, se, pg, ou) (nI t) p (nI c) := by
  unfold wpY_insert
  have hL : le (nI t).toNatClampNeg = nI n := by rw [nI_clamp (by omega), hl]
  refine ys_text1 ht (br_f (by decide) (ys_char1 hc (br_f (by decide) (hp.elim (fun z => br_t z h) (fun z => br_f z.1 ⟨vp_in_nI ht (by decide), ?_⟩)))))
  clear hp
  refine z.2.elim (fun z => br_t (by rw [hL]; exact z) h) (fun z => br_f (by rw [hL]; exact z.1) ⟨vp_in_nI ht (by decide), br_t ?_ h⟩)
  rw [hL]
  have : ¬ n < 16 := fun w => z.2 (nI_lt (b := 16) w (by decide))
  rw [show n = 16 by omega]; rfl
theorem y_ins2 {post : Int32 → SY → Prop} {t p c : Int32} (h0 : ¬ t = 0) (h1 : ¬ t = 1) (h : post 0 (cc, rl, yn, cl, dt, df, pb, lo, uf, us, fi, ki, wt, ef, eb, di, ex, cf, cs, cm, lg, tx, le, rr, ro, fm, fL, ee, en, ye, lv, se, pg, ou)) : wpY_insert post (cc, rl, yn, cl, dt, df, pb, lo, uf, us, fi, ki, wt, ef, eb, di, ex, cf, cs, cm, lg, tx, le, rr, ro, fm, fL, ee, en, ye, lv, se, pg, ou) t p c := by
  unfold wpY_insert
  exact ys_text0 h0 h1 (br_t rfl h)
theorem y_ins3 {post : Int32 → SY → Prop} {t : Nat} {p c : Int32} (ht : t < 2) (hc : c < 0 ∨ ¬ c < 0 ∧ 48 ≤ c) (h : post 0 (cc, rl, yn, cl, dt, df, pb, lo, uf, us, fi, ki, wt, ef, eb, di, ex, cf, cs, cm, lg, tx, le, rr, ro, fm, fL, ee, en, ye, lv, se, pg, ou)) : wpY_insert post (cc, rl, yn, cl, dt, df, pb, lo, uf, us, fi, ki, wt, ef, eb, di, ex, cf, cs, cm, lg, tx, le, rr, ro, fm, fL, ee, en, ye, lv, se, pg, ou) (nI t) p c := by
  unfold wpY_insert
  exact ys_text1 ht (br_f (by decide) (ys_char0 hc (br_t rfl h)))
theorem y_era_l {post : Int32 → SY → Prop} {t n : Nat} (ht : t < 2) (hn : n < 16) : ∀ (d i : Nat) (tx : Nat → Int32), i + d = n → le t = nI n →
    post 1 (cc, rl, yn, cl, dt, df, pb, lo, uf, us, fi, ki, wt, ef, eb, di, ex, cf, cs, cm, lg, sc_dn (16 * t) d i tx, le, rr, ro, fm, fL, ee, en, ye, lv, se, pg, ou) → wY_erase_35 post (nI t) cc rl yn (d + 1) (nI i) cl dt df pb lo uf us fi ki wt ef eb di ex cf cs cm lg tx le rr ro fm fL ee en ye lv se pg ou := by
  intro d
  induction d with
  | zero => exact fun i tx hi hl h => ⟨vp_in_nI ht (by decide), br_t (by rw [nI_clamp (by omega), hl]; exact nI_le (by omega) (by omega)) h⟩
  | succ d ih => exact fun i tx hi hl h => ⟨vp_in_nI ht (by decide), br_f (by rw [nI_clamp (by omega), hl]; exact nI_ge (by omega) (by omega)) ⟨pk_in (16 * t + i + 1) 32 (by omega) (by rw [sn_16, nI_1]), pk_in (16 * t + i) 32 (by omega) (sn_16 _ _),
      nm_r (by rw [sn_16, nI_1, nI_clamp (by omega), nI_clamp (by omega)]) (nm_r (nI_1 i) (ih (i + 1) _ (by omega) hl h))⟩⟩
theorem y_era1 {post : Int32 → SY → Prop} {t n p : Nat} (ht : t < 2) (hn : n < 16) (hp : p ≤ n) (hl : le t = nI (n + 1))
    (h : post 1 (cc, rl, yn, cl, dt, df, pb, lo, uf, us, fi, ki, wt, ef, eb, di, ex, cf, cs, cm, lg, sc_dn (16 * t) (n - p) p tx, upd le t (nI n), rr, ro, fm, fL, ee, en, ye, lv, se, pg, ou)) : wpY_erase post (cc, rl, yn, cl, dt, df, pb, lo, uf, us, fi, ki, wt, ef, eb, di, ex, cf, cs, cm, lg, tx, le, rr, ro, fm, fL, ee, en, ye, lv, se, pg, ou) (nI t) (nI p) := by
  unfold wpY_erase
  have hL : le (nI t).toNatClampNeg = nI (n + 1) := by rw [nI_clamp (by omega), hl]
  refine ys_text1 ht (br_f (by decide) (br_f (nI_pos (by omega)) ⟨vp_in_nI ht (by decide), br_t (by rw [hL]; exact nI_lt (by omega) (by omega)) ⟨vp_in_nI ht (by decide), vp_in_nI ht (by decide), nm_r (e' := upd le t (nI n)) (by rw [hL, nI_pred, nI_clamp (by omega)]) ⟨n - p + 1, ?_⟩⟩⟩))
  exact y_era_l ht hn (n - p) p tx (by omega) pk_us h
theorem y_era0 {post : Int32 → SY → Prop} {t n : Nat} {p : Int32} (ht : t < 2) (hl : le t = nI n) (hp : p < 0 ∨ ¬ p < 0 ∧ nI n ≤ p) (h : post 0 (cc, rl, yn, cl, dt, df, pb, lo, uf, us, fi, ki, wt, ef, eb, di, ex, cf, cs, cm, lg, tx, le, rr, ro, fm, fL, ee, en, ye, lv, se, pg, ou)) : wpY_erase post (cc, rl, yn, cl, dt, df, pb, lo, uf, us, fi, ki, wt, ef, eb, di, ex, cf, cs, cm, lg, tx, le, rr, ro, fm, fL, ee, en, ye, lv, se, pg, ou) (nI t) p := by
  unfold wpY_erase
  exact ys_text1 ht (br_f (by decide) (hp.elim (fun z => br_t z h) (fun z => br_f z.1 ⟨vp_in_nI ht (by decide), br_f (by rw [nI_clamp (by omega), hl]; exact Int32.not_lt.mpr z.2) h⟩)))
theorem y_era2 {post : Int32 → SY → Prop} {t p : Int32} (h0 : ¬ t = 0) (h1 : ¬ t = 1) (h : post 0 (cc, rl, yn, cl, dt, df, pb, lo, uf, us, fi, ki, wt, ef, eb, di, ex, cf, cs, cm, lg, tx, le, rr, ro, fm, fL, ee, en, ye, lv, se, pg, ou)) : wpY_erase post (cc, rl, yn, cl, dt, df, pb, lo, uf, us, fi, ki, wt, ef, eb, di, ex, cf, cs, cm, lg, tx, le, rr, ro, fm, fL, ee, en, ye, lv, se, pg, ou) t p := by
  unfold wpY_erase
  exact ys_text0 h0 h1 (br_t rfl h)
end
theorem i_vc_insert {k : Nat} {u : SX} {v : SY} (I : i_Rel k u v) (hk : k + 5 ≤ 2560) (v1 : Int32) (v2 : Int32) (v3 : Int32) : wpX_insert (fun r u' => wpY_insert (fun r' v' => r' = r ∧ i_Rel (k + 5) u' v') v v1 v2 v3) u v1 v2 v3 := by
  obtain ⟨cc, rl, wl, yn, cl, dt, df, ds, ex, lo, uf, us, fi, ki, ef, es, di, we, cf, cs, cm, tx, le, rr, wk, sh, fo, fl, el, ec, ke, kl, em, oe, be, pl, po, pb, wt, eb, lg, ro, fm, fL, ee, en, rfl, rfl, I⟩ := I
  rcases sn_text v1 with ⟨t, ht, rfl⟩ | ⟨h0, h1, h2⟩
  · rcases sn_char v3 with ⟨c, hc, rfl⟩ | h
    · have I0 := I
      obtain ⟨i1, i2, i3, i4, ir⟩ := I
      obtain ⟨n, hn, hl⟩ := i3 t ht
      by_cases hp0 : v2 < 0
      · exact x_ins0 ht hc hl (Or.inl hp0) (y_ins0 ht hn hc hl (Or.inl hp0) ⟨rfl, sc_mk I0⟩)
      · obtain ⟨p, hp, rfl⟩ := nI_of hp0
        by_cases hpn : p ≤ n ∧ n < 16
        · exact x_ins1 ht hpn.2 hpn.1 hc hl (y_ins1 ht hpn.2 hpn.1 hc hl ⟨rfl, sc_mk ⟨i1, i2, sc_leU i3 (by omega), sc_updC (sc_upC _ _ _ _ i4) _ (vp_in_nI hc (by decide)), ir⟩⟩)
        · have z : nI n < nI p ∨ ¬ nI n < nI p ∧ ¬ nI n < 16 := by
            by_cases w : n < p
            · exact Or.inl (nI_lt w hp)
            · exact Or.inr ⟨nI_nlt (by omega) (by omega), nI_nlt (b := 16) (by omega) (by omega)⟩
          exact x_ins0 ht hc hl (Or.inr ⟨hp0, z⟩) (y_ins0 ht hn hc hl (Or.inr ⟨hp0, z⟩) ⟨rfl, sc_mk I0⟩)
    · exact x_ins3 ht h (y_ins3 ht h ⟨rfl, sc_mk I⟩)
  · exact x_ins2 h2 (y_ins2 h0 h1 ⟨rfl, sc_mk I⟩)
theorem i_vc_erase {k : Nat} {u : SX} {v : SY} (I : i_Rel k u v) (hk : k + 5 ≤ 2560) (v1 : Int32) (v2 : Int32) : wpX_erase (fun r u' => wpY_erase (fun r' v' => r' = r ∧ i_Rel (k + 5) u' v') v v1 v2) u v1 v2 := by
  obtain ⟨cc, rl, wl, yn, cl, dt, df, ds, ex, lo, uf, us, fi, ki, ef, es, di, we, cf, cs, cm, tx, le, rr, wk, sh, fo, fl, el, ec, ke, kl, em, oe, be, pl, po, pb, wt, eb, lg, ro, fm, fL, ee, en, rfl, rfl, I⟩ := I
  rcases sn_text v1 with ⟨t, ht, rfl⟩ | ⟨h0, h1, h2⟩
  · have I0 := I
    obtain ⟨i1, i2, i3, i4, ir⟩ := I
    obtain ⟨n, hn, hl⟩ := i3 t ht
    by_cases hp0 : v2 < 0
    · exact x_era0 ht hl (Or.inl hp0) (y_era0 ht hl (Or.inl hp0) ⟨rfl, sc_mk I0⟩)
    · obtain ⟨p, hp, rfl⟩ := nI_of hp0
      by_cases hpn : p < n
      · obtain ⟨m, rfl⟩ : ∃ m, n = m + 1 := ⟨n - 1, by omega⟩
        exact x_era1 ht (by omega) (by omega) hl (y_era1 ht (by omega) (by omega) hl ⟨rfl, sc_mk ⟨i1, i2, sc_leU i3 (by omega), sc_dnC _ _ _ _ i4, ir⟩⟩)
      · have z : nI n ≤ nI p := nI_le (by omega) hp
        exact x_era0 ht hl (Or.inr ⟨hp0, z⟩) (y_era0 ht hl (Or.inr ⟨hp0, z⟩) ⟨rfl, sc_mk I0⟩)
  · exact x_era2 h2 (y_era2 h0 h1 ⟨rfl, sc_mk I⟩)
