/-! result, take, insert, erase: the same stores in the same order -/
def sc_cp (f : Nat → Int32) (o : Nat) : Nat → Nat → (Nat → Int32) → Nat → Int32
  | 0, _, a => a
  | d + 1, i, a => sc_cp f o d (i + 1) (upd a (o + i) (f i))
def sc_up (o : Nat) : Nat → Nat → (Nat → Int32) → Nat → Int32
  | 0, _, a => a
  | d + 1, k, a => sc_up o d k (upd a (o + k + d + 1) (a (o + k + d)))
def sc_dn (o : Nat) : Nat → Nat → (Nat → Int32) → Nat → Int32
  | 0, _, a => a
  | d + 1, i, a => sc_dn o d (i + 1) (upd a (o + i) (a (o + i + 1)))
theorem sc_updC {N : Nat} {a : Nat → Int32} (h : ∀ i, vp_in (a i) N) (k : Nat) {x : Int32} (hx : vp_in x N) : ∀ i, vp_in (upd a k x i) N := by
  intro i
  unfold upd
  by_cases e : i = k
  · rw [if_pos e]; exact hx
  · rw [if_neg e]; exact h i
theorem sc_cpC {f : Nat → Int32} (hf : sc_Chr f) (o : Nat) : ∀ d i a, sc_Chr a → sc_Chr (sc_cp f o d i a) := by
  intro d
  induction d with
  | zero => exact fun i a h => h
  | succ d ih => exact fun i a h => ih (i + 1) _ (sc_updC h _ (hf i))
theorem sc_upC (o : Nat) : ∀ d k a, sc_Chr a → sc_Chr (sc_up o d k a) := by
  intro d
  induction d with
  | zero => exact fun i a h => h
  | succ d ih => exact fun k a h => ih k _ (sc_updC h _ (h _))
theorem sc_dnC (o : Nat) : ∀ d i a, sc_Chr a → sc_Chr (sc_dn o d i a) := by
  intro d
  induction d with
  | zero => exact fun i a h => h
  | succ d ih => exact fun i a h => ih (i + 1) _ (sc_updC h _ (h _))
theorem sc_leU {le : Nat → Int32} (h : ∀ t, t < 2 → ∃ n : Nat, n ≤ 16 ∧ le t = nI n) {s m : Nat} (hm : m ≤ 16) : ∀ t, t < 2 → ∃ n : Nat, n ≤ 16 ∧ upd le s (nI m) t = nI n := by
  intro t ht
  by_cases e : t = s
  · exact ⟨m, hm, if_pos e⟩
  · obtain ⟨n, h1, h2⟩ := h t ht
    exact ⟨n, h1, (if_neg e).trans h2⟩
section
variable {cc rl wl : Int32} {cl dt df ds ex lo uf us fi ki ef es di we cf cs cm tx le rr wk sh fo fl el ec ke kl em oe be pl po : Nat → Int32}
theorem x_take_l {post : Int32 → SX → Prop} {t r : Nat} (ht : t < 2) (hr : r ≤ 16) : ∀ (d i : Nat) (tx : Nat → Int32), i + d = r →
    post 1 (cc, nI r, wl, cl, dt, df, ds, ex, lo, uf, us, fi, ki, ef, es, di, we, cf, cs, cm, sc_cp rr (16 * t) d i tx, upd le t (nI r), rr, wk, sh, fo, fl, el, ec, ke, kl, em, oe, be, pl, po) → wX_take_26 post (nI t) (nI (16 * t)) cc (nI r) wl (d + 1) (nI i) cl dt df ds ex lo uf us fi ki ef es di we cf cs cm tx le rr wk sh fo fl el ec ke kl em oe be pl po := by
  intro d
  induction d with
  | zero => exact fun i tx hi h => br_t (nI_le (by omega) (by omega)) ⟨vp_in_nI ht (by decide), nm_r (by rw [nI_clamp (by omega)]) h⟩
  | succ d ih => exact fun i tx hi h => br_f (nI_ge (by omega) (by omega)) ⟨vp_in_nI (by omega) (by decide), pk_in (16 * t + i) 32 (by omega) (nI_add _ _),
      nm_r (by rw [nI_add, nI_clamp (by omega), nI_clamp (by omega)]) (nm_r (nI_1 i) (ih (i + 1) _ (by omega) h))⟩
theorem x_take1 {post : Int32 → SX → Prop} {t r : Nat} (ht : t < 2) (hr : r ≤ 16) (h : post 1 (cc, nI r, wl, cl, dt, df, ds, ex, lo, uf, us, fi, ki, ef, es, di, we, cf, cs, cm, sc_cp rr (16 * t) r 0 tx, upd le t (nI r), rr, wk, sh, fo, fl, el, ec, ke, kl, em, oe, be, pl, po)) : wpX_take post (cc, nI r, wl, cl, dt, df, ds, ex, lo, uf, us, fi, ki, ef, es, di, we, cf, cs, cm, tx, le, rr, wk, sh, fo, fl, el, ec, ke, kl, em, oe, be, pl, po) (nI t) := by
  unfold wpX_take
  refine xs_text1 ht (br_f (by decide) (br_t (nI_le (b := 16) hr (by decide)) (nm_r (sn_t16 t) ⟨r + 1, ?_⟩)))
  exact x_take_l ht hr r 0 tx (by omega) h
theorem x_take0 {post : Int32 → SX → Prop} {t r : Nat} (ht : t < 2) (hr : 16 < r) (hr2 : r ≤ 64) (h : post 0 (cc, nI r, wl, cl, dt, df, ds, ex, lo, uf, us, fi, ki, ef, es, di, we, cf, cs, cm, tx, le, rr, wk, sh, fo, fl, el, ec, ke, kl, em, oe, be, pl, po)) : wpX_take post (cc, nI r, wl, cl, dt, df, ds, ex, lo, uf, us, fi, ki, ef, es, di, we, cf, cs, cm, tx, le, rr, wk, sh, fo, fl, el, ec, ke, kl, em, oe, be, pl, po) (nI t) := by
  unfold wpX_take
  exact xs_text1 ht (br_f (by decide) (br_f (nI_ge (a := 16) hr (by omega)) h))
theorem x_take2 {post : Int32 → SX → Prop} {t : Int32} (ht : t < 0 ∨ ¬ t < 0 ∧ 2 ≤ t) (h : post 0 (cc, rl, wl, cl, dt, df, ds, ex, lo, uf, us, fi, ki, ef, es, di, we, cf, cs, cm, tx, le, rr, wk, sh, fo, fl, el, ec, ke, kl, em, oe, be, pl, po)) : wpX_take post (cc, rl, wl, cl, dt, df, ds, ex, lo, uf, us, fi, ki, ef, es, di, we, cf, cs, cm, tx, le, rr, wk, sh, fo, fl, el, ec, ke, kl, em, oe, be, pl, po) t := by
  unfold wpX_take
  exact xs_text0 ht (br_t rfl h)
end
section
variable {cc rl yn : Int32} {cl dt df pb lo uf us fi ki wt ef eb di ex cf cs cm lg tx le rr ro fm fL ee en ye lv se pg ou : Nat → Int32}
theorem y_take_l {post : Int32 → SY → Prop} {t r : Nat} (ht : t < 2) (hr : r ≤ 16) : ∀ (d i : Nat) (tx : Nat → Int32), i + d = r →
    post 1 (cc, nI r, yn, cl, dt, df, pb, lo, uf, us, fi, ki, wt, ef, eb, di, ex, cf, cs, cm, lg, sc_cp rr (16 * t) d i tx, le, rr, ro, fm, fL, ee, en, ye, lv, se, pg, ou) → wY_take_30 post (nI t) cc (nI r) yn (d + 1) (nI i) cl dt df pb lo uf us fi ki wt ef eb di ex cf cs cm lg tx le rr ro fm fL ee en ye lv se pg ou := by
  intro d
  induction d with
  | zero => exact fun i tx hi h => br_t (nI_le (by omega) (by omega)) h
  | succ d ih => exact fun i tx hi h => br_f (nI_ge (by omega) (by omega)) ⟨vp_in_nI (by omega) (by decide), pk_in (16 * t + i) 32 (by omega) (sn_16 _ _),
      nm_r (by rw [sn_16, nI_clamp (by omega), nI_clamp (by omega)]) (nm_r (nI_1 i) (ih (i + 1) _ (by omega) h))⟩
theorem y_take1 {post : Int32 → SY → Prop} {t r : Nat} (ht : t < 2) (hr : r ≤ 16) (h : post 1 (cc, nI r, yn, cl, dt, df, pb, lo, uf, us, fi, ki, wt, ef, eb, di, ex, cf, cs, cm, lg, sc_cp rr (16 * t) r 0 tx, upd le t (nI r), rr, ro, fm, fL, ee, en, ye, lv, se, pg, ou)) : wpY_take post (cc, nI r, yn, cl, dt, df, pb, lo, uf, us, fi, ki, wt, ef, eb, di, ex, cf, cs, cm, lg, tx, le, rr, ro, fm, fL, ee, en, ye, lv, se, pg, ou) (nI t) := by
  unfold wpY_take
  refine ys_text1 ht (br_f (by decide) (br_t (nI_le (b := 16) hr (by decide)) ⟨vp_in_nI ht (by decide), nm_r (by rw [nI_clamp (by omega)]) ⟨r + 1, ?_⟩⟩))
  exact y_take_l ht hr r 0 tx (by omega) h
theorem y_take0 {post : Int32 → SY → Prop} {t r : Nat} (ht : t < 2) (hr : 16 < r) (hr2 : r ≤ 64) (h : post 0 (cc, nI r, yn, cl, dt, df, pb, lo, uf, us, fi, ki, wt, ef, eb, di, ex, cf, cs, cm, lg, tx, le, rr, ro, fm, fL, ee, en, ye, lv, se, pg, ou)) : wpY_take post (cc, nI r, yn, cl, dt, df, pb, lo, uf, us, fi, ki, wt, ef, eb, di, ex, cf, cs, cm, lg, tx, le, rr, ro, fm, fL, ee, en, ye, lv, se, pg, ou) (nI t) := by
  unfold wpY_take
  exact ys_text1 ht (br_f (by decide) (br_f (nI_ge (a := 16) hr (by omega)) h))
theorem y_take2 {post : Int32 → SY → Prop} {t : Int32} (h0 : ¬ t = 0) (h1 : ¬ t = 1) (h : post 0 (cc, rl, yn, cl, dt, df, pb, lo, uf, us, fi, ki, wt, ef, eb, di, ex, cf, cs, cm, lg, tx, le, rr, ro, fm, fL, ee, en, ye, lv, se, pg, ou)) : wpY_take post (cc, rl, yn, cl, dt, df, pb, lo, uf, us, fi, ki, wt, ef, eb, di, ex, cf, cs, cm, lg, tx, le, rr, ro, fm, fL, ee, en, ye, lv, se, pg, ou) t := by
  unfold wpY_take
  exact ys_text0 h0 h1 (br_t rfl h)
end
theorem i_vc_take {k : Nat} {u : SX} {v : SY} (I : i_Rel k u v) (hk : k + 5 ≤ 2560) (v1 : Int32) : wpX_take (fun r u' => wpY_take (fun r' v' => r' = r ∧ i_Rel (k + 5) u' v') v v1) u v1 := by
  obtain ⟨cc, rl, wl, yn, cl, dt, df, ds, ex, lo, uf, us, fi, ki, ef, es, di, we, cf, cs, cm, tx, le, rr, wk, sh, fo, fl, el, ec, ke, kl, em, oe, be, pl, po, pb, wt, eb, lg, ro, fm, fL, ee, en, rfl, rfl, I⟩ := I
  rcases sn_text v1 with ⟨t, ht, rfl⟩ | ⟨h0, h1, h2⟩
  · have I0 := I
    obtain ⟨i1, ⟨r, hr, rfl⟩, i3, i4, i5, ir⟩ := I
    by_cases h16 : r ≤ 16
    · exact x_take1 ht h16 (y_take1 ht h16 ⟨rfl, sc_mk ⟨i1, ⟨r, hr, rfl⟩, sc_leU i3 h16, sc_cpC i5 _ _ _ _ i4, i5, ir⟩⟩)
    · exact x_take0 ht (by omega) hr (y_take0 ht (by omega) hr ⟨rfl, sc_mk I0⟩)
  · exact x_take2 h2 (y_take2 h0 h1 ⟨rfl, sc_mk I⟩)
theorem i_vc_result {k : Nat} {u : SX} {v : SY} (I : i_Rel k u v) (hk : k + 5 ≤ 2560) (v1 : Int32) : wpX_result (fun r => wpY_result (fun r' => r' = r ∧ i_Rel (k + 5) u v) v v1) u v1 := by
  obtain ⟨cc, rl, wl, yn, cl, dt, df, ds, ex, lo, uf, us, fi, ki, ef, es, di, we, cf, cs, cm, tx, le, rr, wk, sh, fo, fl, el, ec, ke, kl, em, oe, be, pl, po, pb, wt, eb, lg, ro, fm, fL, ee, en, rfl, rfl, I⟩ := I
  have I0 := I
  obtain ⟨i1, ⟨r, hr, rfl⟩, -⟩ := I
  by_cases h : v1 < 0
  · exact br_t h (br_t h ⟨rfl, sc_mk I0⟩)
  · obtain ⟨j, hj, rfl⟩ := nI_of h
    by_cases h2 : j < r
    · exact br_f h (br_f (nI_ge h2 (by omega)) ⟨vp_in_nI (by omega) (by decide), br_f h (br_t (nI_lt h2 (by omega)) ⟨vp_in_nI (by omega) (by decide), rfl, sc_mk I0⟩)⟩)
    · exact br_f h (br_t (nI_le (by omega) (by omega)) (br_f h (br_f (nI_nlt (by omega) (by omega)) ⟨rfl, sc_mk I0⟩)))
