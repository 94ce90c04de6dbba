/-! contractions -/
def sc_fc (cf cs : Nat → Int32) (x y : Int32) : Nat → Nat → Int32
  | 0, _ => -1
  | d + 1, i => if cf i = x ∧ cs i = y then nI i else sc_fc cf cs x y d (i + 1)
theorem sc_fcR (cf cs : Nat → Int32) (x y : Int32) : ∀ d i, sc_fc cf cs x y d i = -1 ∨ ∃ j, j < i + d ∧ sc_fc cf cs x y d i = nI j := by
  intro d
  induction d with
  | zero => exact fun i => Or.inl rfl
  | succ d ih =>
    intro i
    unfold sc_fc
    by_cases h : cf i = x ∧ cs i = y
    · rw [if_pos h]; exact Or.inr ⟨i, by omega, rfl⟩
    · rw [if_neg h]
      rcases ih (i + 1) with e | ⟨j, hj, e⟩
      · exact Or.inl e
      · exact Or.inr ⟨j, by omega, e⟩
section
variable {cc rl wl : Int32} {cl dt df ds ex lo uf us fi ki ef es di we cf cs cm tx le rr wk sh fo fl el ec ke kl em oe be pl po : Nat → Int32}
theorem x_fc_l {post : Int32 → Prop} {m : Nat} {x y : Int32} (hm : m ≤ 6) : ∀ d i, i + d = m → post (sc_fc cf cs x y d i) → wX_findContraction_2 post x y (nI m) rl wl cl dt df ds ex lo uf us fi ki ef es di we cf cs cm tx le rr wk sh fo fl el ec ke kl em oe be pl po (d + 1) (nI i) := by
  intro d
  induction d with
  | zero => exact fun i hi h => br_t (nI_le (by omega) (by omega)) h
  | succ d ih =>
    intro i hi h
    have c : (nI i).toNatClampNeg = i := nI_clamp (by omega)
    have v : vp_in (nI i) 6 := vp_in_nI (by omega) (by decide)
    unfold sc_fc at h
    refine br_f (nI_ge (by omega) (by omega)) ⟨v, br_c (fun z => ⟨v, br_c (fun w => ?_) (fun w => nm_r (nI_1 i) (ih (i + 1) (by omega) ?_))⟩) (fun z => nm_r (nI_1 i) (ih (i + 1) (by omega) ?_))⟩
    · rw [c] at z w; rw [if_pos ⟨z, w⟩] at h; exact h
    · rw [c] at z w; rw [if_neg (fun q => w q.2)] at h; exact h
    · rw [c] at z; rw [if_neg (fun q => z q.1)] at h; exact h
theorem x_fc {post : Int32 → Prop} {m : Nat} {x y : Int32} (hm : m ≤ 6) (h : post (sc_fc cf cs x y m 0)) : wpX_findContraction post (nI m, rl, wl, cl, dt, df, ds, ex, lo, uf, us, fi, ki, ef, es, di, we, cf, cs, cm, tx, le, rr, wk, sh, fo, fl, el, ec, ke, kl, em, oe, be, pl, po) x y := ⟨m + 1, x_fc_l hm m 0 (by omega) h⟩
theorem x_sc41 {post : Int32 → SX → Prop} {k : Nat} {x y z : Int32} (hk : k < 6) (h : post 1 (cc, rl, wl, cl, dt, df, ds, ex, lo, uf, us, fi, ki, ef, es, di, we, upd cf k x, upd cs k y, upd cm k z, tx, le, rr, wk, sh, fo, fl, el, ec, ke, kl, em, oe, be, pl, po)) : wX_setContraction_41 post x y z (nI k) cc rl wl cl dt df ds ex lo uf us fi ki ef es di we cf cs cm tx le rr wk sh fo fl el ec ke kl em oe be pl po := by
  have v : vp_in (nI k) 6 := vp_in_nI hk (by decide)
  have e : (nI k).toNatClampNeg = k := nI_clamp (by omega)
  exact ⟨v, nm_r (by rw [e]) ⟨v, nm_r (by rw [e]) ⟨v, nm_r (by rw [e]) h⟩⟩⟩
theorem x_sc {post : Int32 → SX → Prop} {m : Nat} {x y z : Int32} (hm : m ≤ 6)
    (hn : sc_fc cf cs x y m 0 = -1 → m < 6 → post 1 (nI (m + 1), rl, wl, cl, dt, df, ds, ex, lo, uf, us, fi, ki, ef, es, di, we, upd cf m x, upd cs m y, upd cm m z, tx, le, rr, wk, sh, fo, fl, el, ec, ke, kl, em, oe, be, pl, po))
    (h0 : sc_fc cf cs x y m 0 = -1 → m = 6 → post 0 (nI m, rl, wl, cl, dt, df, ds, ex, lo, uf, us, fi, ki, ef, es, di, we, cf, cs, cm, tx, le, rr, wk, sh, fo, fl, el, ec, ke, kl, em, oe, be, pl, po))
    (ho : ∀ k, k < m → sc_fc cf cs x y m 0 = nI k → post 1 (nI m, rl, wl, cl, dt, df, ds, ex, lo, uf, us, fi, ki, ef, es, di, we, upd cf k x, upd cs k y, upd cm k z, tx, le, rr, wk, sh, fo, fl, el, ec, ke, kl, em, oe, be, pl, po)) : wpX_setContraction post (nI m, rl, wl, cl, dt, df, ds, ex, lo, uf, us, fi, ki, ef, es, di, we, cf, cs, cm, tx, le, rr, wk, sh, fo, fl, el, ec, ke, kl, em, oe, be, pl, po) x y z := by
  unfold wpX_setContraction
  refine x_fc hm ?_
  rcases sc_fcR cf cs x y m 0 with e | ⟨j, hj, e⟩
  · refine br_t e ?_
    by_cases h6 : m < 6
    · exact br_t (nI_lt (b := 6) h6 (by decide)) (nm_r (nI_1 m) (x_sc41 h6 (hn e h6)))
    · exact br_f (nI_nlt (b := 6) (by omega) (by omega)) (h0 e (by omega))
  · rw [e]
    exact br_f (fun z => absurd (z ▸ nI_pos (n := j) (by omega)) (by decide)) (x_sc41 (by omega) (ho j (by omega) e))
theorem x_rc {post : SX → Prop} {m : Nat} {x y : Int32} (hm : m ≤ 6)
    (hn : sc_fc cf cs x y m 0 = -1 → post (nI m, rl, wl, cl, dt, df, ds, ex, lo, uf, us, fi, ki, ef, es, di, we, cf, cs, cm, tx, le, rr, wk, sh, fo, fl, el, ec, ke, kl, em, oe, be, pl, po))
    (ho : ∀ k, k < m → sc_fc cf cs x y m 0 = nI k → post (nI (m - 1), rl, wl, cl, dt, df, ds, ex, lo, uf, us, fi, ki, ef, es, di, we, upd cf k (cf (m - 1)), upd cs k (cs (m - 1)), upd cm k (cm (m - 1)), tx, le, rr, wk, sh, fo, fl, el, ec, ke, kl, em, oe, be, pl, po)) : wpX_removeContraction post (nI m, rl, wl, cl, dt, df, ds, ex, lo, uf, us, fi, ki, ef, es, di, we, cf, cs, cm, tx, le, rr, wk, sh, fo, fl, el, ec, ke, kl, em, oe, be, pl, po) x y := by
  unfold wpX_removeContraction
  refine x_fc hm ?_
  rcases sc_fcR cf cs x y m 0 with e | ⟨j, hj, e⟩
  · exact br_t e (hn e)
  · rw [e]
    obtain ⟨m, rfl⟩ : ∃ q, m = q + 1 := ⟨m - 1, by omega⟩
    have v : vp_in (nI j) 6 := vp_in_nI (by omega) (by decide)
    have c : (nI j).toNatClampNeg = j := nI_clamp (by omega)
    have v' : vp_in (nI m) 6 := vp_in_nI (by omega) (by decide)
    have c' : (nI m).toNatClampNeg = m := nI_clamp (by omega)
    exact br_f (fun z => absurd (z ▸ nI_pos (n := j) (by omega)) (by decide)) (nm_r (nI_pred m) ⟨v', v, nm_r (by rw [c, c', Nat.add_sub_cancel]) ⟨v', v, nm_r (by rw [c, c', Nat.add_sub_cancel]) ⟨v', v, nm_r (by rw [c, c', Nat.add_sub_cancel]) (ho j (by omega) e)⟩⟩⟩)
theorem x_d12 {post : Int32 → SX → Prop} {c : Nat} {a b : Int32} {m : Nat} (hm : m ≤ 6) (hc : c < 48)
    (hn : sc_W a 0 47 ∧ sc_W b 0 47 → sc_fc cf cs (nI c) a m 0 = -1 → m < 6 → post 1 (nI (m + 1), rl, wl, cl, dt, df, ds, ex, lo, uf, us, fi, ki, ef, es, di, we, upd cf m (nI c), upd cs m a, upd cm m b, tx, le, rr, wk, sh, fo, fl, el, ec, ke, kl, em, oe, be, pl, po))
    (hf : sc_W a 0 47 ∧ sc_W b 0 47 → sc_fc cf cs (nI c) a m 0 = -1 → m = 6 → post 0 (nI m, rl, wl, cl, dt, df, ds, ex, lo, uf, us, fi, ki, ef, es, di, we, cf, cs, cm, tx, le, rr, wk, sh, fo, fl, el, ec, ke, kl, em, oe, be, pl, po))
    (ho : sc_W a 0 47 ∧ sc_W b 0 47 → ∀ k, k < m → sc_fc cf cs (nI c) a m 0 = nI k → post 1 (nI m, rl, wl, cl, dt, df, ds, ex, lo, uf, us, fi, ki, ef, es, di, we, upd cf k (nI c), upd cs k a, upd cm k b, tx, le, rr, wk, sh, fo, fl, el, ec, ke, kl, em, oe, be, pl, po))
    (h0 : ¬ (sc_W a 0 47 ∧ sc_W b 0 47) → post 0 (nI m, rl, wl, cl, dt, df, ds, ex, lo, uf, us, fi, ki, ef, es, di, we, cf, cs, cm, tx, le, rr, wk, sh, fo, fl, el, ec, ke, kl, em, oe, be, pl, po)) : wpX_describe post (nI m, rl, wl, cl, dt, df, ds, ex, lo, uf, us, fi, ki, ef, es, di, we, cf, cs, cm, tx, le, rr, wk, sh, fo, fl, el, ec, ke, kl, em, oe, be, pl, po) (nI c) 12 a b := by
  unfold wpX_describe
  refine xs_char1 hc (br_f (by decide) (x_fit12 (fun z => br_f (by decide) (br_f (by decide) (br_f (by decide) (br_t rfl ?_)))) (fun z => br_t rfl (h0 z))))
  exact x_sc hm (fun p q => ⟨rfl, hn z p q⟩) (fun p q => ⟨rfl, hf z p q⟩) (fun k p q => ⟨rfl, ho z k p q⟩)
theorem x_d13 {post : Int32 → SX → Prop} {c : Nat} {a b : Int32} {m : Nat} (hm : m ≤ 6) (hc : c < 48)
    (hn : sc_W a 0 47 → sc_fc cf cs (nI c) a m 0 = -1 → post 1 (nI m, rl, wl, cl, dt, df, ds, ex, lo, uf, us, fi, ki, ef, es, di, we, cf, cs, cm, tx, le, rr, wk, sh, fo, fl, el, ec, ke, kl, em, oe, be, pl, po))
    (ho : sc_W a 0 47 → ∀ k, k < m → sc_fc cf cs (nI c) a m 0 = nI k → post 1 (nI (m - 1), rl, wl, cl, dt, df, ds, ex, lo, uf, us, fi, ki, ef, es, di, we, upd cf k (cf (m - 1)), upd cs k (cs (m - 1)), upd cm k (cm (m - 1)), tx, le, rr, wk, sh, fo, fl, el, ec, ke, kl, em, oe, be, pl, po))
    (h0 : ¬ sc_W a 0 47 → post 0 (nI m, rl, wl, cl, dt, df, ds, ex, lo, uf, us, fi, ki, ef, es, di, we, cf, cs, cm, tx, le, rr, wk, sh, fo, fl, el, ec, ke, kl, em, oe, be, pl, po)) : wpX_describe post (nI m, rl, wl, cl, dt, df, ds, ex, lo, uf, us, fi, ki, ef, es, di, we, cf, cs, cm, tx, le, rr, wk, sh, fo, fl, el, ec, ke, kl, em, oe, be, pl, po) (nI c) 13 a b := by
  unfold wpX_describe
  refine xs_char1 hc (br_f (by decide) (x_fit13 (fun z => br_f (by decide) (br_f (by decide) (br_f (by decide) (br_f (by decide) (br_t rfl ?_))))) (fun z => br_t rfl (h0 z))))
  exact x_rc hm (fun p => hn z p) (fun k p q => ho z k p q)
end
section
variable {cc rl yn : Int32} {cl dt df pb lo uf us fi ki wt ef eb di ex cf cs cm lg tx le rr ro fm fL ee en ye lv se pg ou : Nat → Int32}
theorem y_fc_l {post : Int32 → Prop} {m : Nat} {x y : Int32} (hm : m ≤ 6) : ∀ d i, i + d = m → post (sc_fc cf cs x y d i) → wY_contraction_2 post x y (nI m) rl yn cl dt df pb lo uf us fi ki wt ef eb di ex cf cs cm lg tx le rr ro fm fL ee en ye lv se pg ou (d + 1) (nI i) := by
  intro d
  induction d with
  | zero => exact fun i hi h => br_t (nI_le (by omega) (by omega)) h
  | succ d ih =>
    intro i hi h
    have c : (nI i).toNatClampNeg = i := nI_clamp (by omega)
    have v : vp_in (nI i) 6 := vp_in_nI (by omega) (by decide)
    unfold sc_fc at h
    refine br_f (nI_ge (by omega) (by omega)) ⟨v, br_c (fun z => ⟨v, br_c (fun w => ?_) (fun w => nm_r (nI_1 i) (ih (i + 1) (by omega) ?_))⟩) (fun z => nm_r (nI_1 i) (ih (i + 1) (by omega) ?_))⟩
    · rw [c] at z w; rw [if_pos ⟨z, w⟩] at h; exact h
    · rw [c] at z w; rw [if_neg (fun q => w q.2)] at h; exact h
    · rw [c] at z; rw [if_neg (fun q => z q.1)] at h; exact h
theorem y_fc {post : Int32 → Prop} {m : Nat} {x y : Int32} (hm : m ≤ 6) (h : post (sc_fc cf cs x y m 0)) : wpY_contraction post (nI m, rl, yn, cl, dt, df, pb, lo, uf, us, fi, ki, wt, ef, eb, di, ex, cf, cs, cm, lg, tx, le, rr, ro, fm, fL, ee, en, ye, lv, se, pg, ou) x y := ⟨m + 1, y_fc_l hm m 0 (by omega) h⟩
theorem y_c52 {post : Int32 → SY → Prop} {k : Nat} {x y z : Int32} (hk : k < 6) (h : post 1 (cc, rl, yn, cl, dt, df, pb, lo, uf, us, fi, ki, wt, ef, eb, di, ex, upd cf k x, upd cs k y, upd cm k z, lg, tx, le, rr, ro, fm, fL, ee, en, ye, lv, se, pg, ou)) : wY_contract_52 post x y z 1 (nI k) cc rl yn cl dt df pb lo uf us fi ki wt ef eb di ex cf cs cm lg tx le rr ro fm fL ee en ye lv se pg ou := by
  have v : vp_in (nI k) 6 := vp_in_nI hk (by decide)
  have e : (nI k).toNatClampNeg = k := nI_clamp (by omega)
  exact br_f (by decide) ⟨v, nm_r (by rw [e]) ⟨v, nm_r (by rw [e]) ⟨v, nm_r (by rw [e]) h⟩⟩⟩
theorem y_sc {post : Int32 → SY → Prop} {m : Nat} {x y z : Int32} (hm : m ≤ 6)
    (hn : sc_fc cf cs x y m 0 = -1 → m < 6 → post 1 (nI (m + 1), rl, yn, cl, dt, df, pb, lo, uf, us, fi, ki, wt, ef, eb, di, ex, upd cf m x, upd cs m y, upd cm m z, lg, tx, le, rr, ro, fm, fL, ee, en, ye, lv, se, pg, ou))
    (h0 : sc_fc cf cs x y m 0 = -1 → m = 6 → post 0 (nI m, rl, yn, cl, dt, df, pb, lo, uf, us, fi, ki, wt, ef, eb, di, ex, cf, cs, cm, lg, tx, le, rr, ro, fm, fL, ee, en, ye, lv, se, pg, ou))
    (ho : ∀ k, k < m → sc_fc cf cs x y m 0 = nI k → post 1 (nI m, rl, yn, cl, dt, df, pb, lo, uf, us, fi, ki, wt, ef, eb, di, ex, upd cf k x, upd cs k y, upd cm k z, lg, tx, le, rr, ro, fm, fL, ee, en, ye, lv, se, pg, ou)) : wpY_contract post (nI m, rl, yn, cl, dt, df, pb, lo, uf, us, fi, ki, wt, ef, eb, di, ex, cf, cs, cm, lg, tx, le, rr, ro, fm, fL, ee, en, ye, lv, se, pg, ou) x y z 1 := by
  unfold wpY_contract
  refine y_fc hm ?_
  rcases sc_fcR cf cs x y m 0 with e | ⟨j, hj, e⟩
  · rw [e]
    refine br_f (by decide) (br_f (by decide) ?_)
    by_cases h6 : m < 6
    · exact br_f (fun z => by have := (nI_eq (b := 6) (by omega) (by decide)).mp z; omega) (br_f (by decide) (br_f (by decide) (nm_r (nI_1 m) (y_c52 h6 (hn e h6)))))
    · exact br_t (by rw [show m = 6 by omega]; rfl) (h0 e (by omega))
  · rw [e]
    exact br_f (by decide) (br_t (nI_pos' (by omega)) (br_f (by decide) (br_t (nI_pos' (by omega)) (y_c52 (by omega) (ho j (by omega) e)))))
theorem y_rc {post : Int32 → SY → Prop} {m : Nat} {x y z : Int32} (hm : m ≤ 6)
    (hn : sc_fc cf cs x y m 0 = -1 → post 1 (nI m, rl, yn, cl, dt, df, pb, lo, uf, us, fi, ki, wt, ef, eb, di, ex, cf, cs, cm, lg, tx, le, rr, ro, fm, fL, ee, en, ye, lv, se, pg, ou))
    (ho : ∀ k, k < m → sc_fc cf cs x y m 0 = nI k → post 1 (nI (m - 1), rl, yn, cl, dt, df, pb, lo, uf, us, fi, ki, wt, ef, eb, di, ex, upd cf k (cf (m - 1)), upd cs k (cs (m - 1)), upd cm k (cm (m - 1)), lg, tx, le, rr, ro, fm, fL, ee, en, ye, lv, se, pg, ou)) : wpY_contract post (nI m, rl, yn, cl, dt, df, pb, lo, uf, us, fi, ki, wt, ef, eb, di, ex, cf, cs, cm, lg, tx, le, rr, ro, fm, fL, ee, en, ye, lv, se, pg, ou) x y z 0 := by
  unfold wpY_contract
  refine y_fc hm ?_
  rcases sc_fcR cf cs x y m 0 with e | ⟨j, hj, e⟩
  · rw [e]
    exact br_t rfl (br_t rfl (br_t rfl (br_t (by decide) (hn e))))
  · rw [e]
    obtain ⟨m, rfl⟩ : ∃ q, m = q + 1 := ⟨m - 1, by omega⟩
    have v : vp_in (nI j) 6 := vp_in_nI (by omega) (by decide)
    have c : (nI j).toNatClampNeg = j := nI_clamp (by omega)
    have v' : vp_in (nI m) 6 := vp_in_nI (by omega) (by decide)
    have c' : (nI m).toNatClampNeg = m := nI_clamp (by omega)
    exact br_t rfl (br_t rfl (br_t rfl (br_f (nI_pos (by omega)) (nm_r (nI_pred m) ⟨v', v, nm_r (by rw [c, c', Nat.add_sub_cancel]) ⟨v', v, nm_r (by rw [c, c', Nat.add_sub_cancel]) ⟨v', v, nm_r (by rw [c, c', Nat.add_sub_cancel]) (ho j (by omega) e)⟩⟩⟩))))
theorem y_d12 {post : Int32 → SY → Prop} {c : Nat} {a b : Int32} {m : Nat} (hm : m ≤ 6) (hc : c < 48)
    (hn : sc_W a 0 47 ∧ sc_W b 0 47 → sc_fc cf cs (nI c) a m 0 = -1 → m < 6 → post 1 (nI (m + 1), rl, yn, cl, dt, df, pb, lo, uf, us, fi, ki, wt, ef, eb, di, ex, upd cf m (nI c), upd cs m a, upd cm m b, lg, tx, le, rr, ro, fm, fL, ee, en, ye, lv, se, pg, ou))
    (hf : sc_W a 0 47 ∧ sc_W b 0 47 → sc_fc cf cs (nI c) a m 0 = -1 → m = 6 → post 0 (nI m, rl, yn, cl, dt, df, pb, lo, uf, us, fi, ki, wt, ef, eb, di, ex, cf, cs, cm, lg, tx, le, rr, ro, fm, fL, ee, en, ye, lv, se, pg, ou))
    (ho : sc_W a 0 47 ∧ sc_W b 0 47 → ∀ k, k < m → sc_fc cf cs (nI c) a m 0 = nI k → post 1 (nI m, rl, yn, cl, dt, df, pb, lo, uf, us, fi, ki, wt, ef, eb, di, ex, upd cf k (nI c), upd cs k a, upd cm k b, lg, tx, le, rr, ro, fm, fL, ee, en, ye, lv, se, pg, ou))
    (h0 : ¬ (sc_W a 0 47 ∧ sc_W b 0 47) → post 0 (nI m, rl, yn, cl, dt, df, pb, lo, uf, us, fi, ki, wt, ef, eb, di, ex, cf, cs, cm, lg, tx, le, rr, ro, fm, fL, ee, en, ye, lv, se, pg, ou)) : wpY_describe post (nI m, rl, yn, cl, dt, df, pb, lo, uf, us, fi, ki, wt, ef, eb, di, ex, cf, cs, cm, lg, tx, le, rr, ro, fm, fL, ee, en, ye, lv, se, pg, ou) (nI c) 12 a b := by
  refine y_fit12 hc (fun z => br_f (by decide) (br_f (by decide) (br_t rfl (br_t rfl ?_)))) h0
  unfold wY_describe_233
  exact y_sc hm (fun p q => ⟨rfl, hn z p q⟩) (fun p q => ⟨rfl, hf z p q⟩) (fun k p q => ⟨rfl, ho z k p q⟩)
theorem y_d13 {post : Int32 → SY → Prop} {c : Nat} {a b : Int32} {m : Nat} (hm : m ≤ 6) (hc : c < 48)
    (hn : sc_W a 0 47 → sc_fc cf cs (nI c) a m 0 = -1 → post 1 (nI m, rl, yn, cl, dt, df, pb, lo, uf, us, fi, ki, wt, ef, eb, di, ex, cf, cs, cm, lg, tx, le, rr, ro, fm, fL, ee, en, ye, lv, se, pg, ou))
    (ho : sc_W a 0 47 → ∀ k, k < m → sc_fc cf cs (nI c) a m 0 = nI k → post 1 (nI (m - 1), rl, yn, cl, dt, df, pb, lo, uf, us, fi, ki, wt, ef, eb, di, ex, upd cf k (cf (m - 1)), upd cs k (cs (m - 1)), upd cm k (cm (m - 1)), lg, tx, le, rr, ro, fm, fL, ee, en, ye, lv, se, pg, ou))
    (h0 : ¬ sc_W a 0 47 → post 0 (nI m, rl, yn, cl, dt, df, pb, lo, uf, us, fi, ki, wt, ef, eb, di, ex, cf, cs, cm, lg, tx, le, rr, ro, fm, fL, ee, en, ye, lv, se, pg, ou)) : wpY_describe post (nI m, rl, yn, cl, dt, df, pb, lo, uf, us, fi, ki, wt, ef, eb, di, ex, cf, cs, cm, lg, tx, le, rr, ro, fm, fL, ee, en, ye, lv, se, pg, ou) (nI c) 13 a b := by
  refine y_fit13 hc (fun z => br_f (by decide) (br_f (by decide) (br_f (by decide) (br_t rfl (br_f (by decide) ?_))))) h0
  unfold wY_describe_233
  exact y_rc hm (fun p => ⟨rfl, hn z p⟩) (fun k p q => ⟨rfl, ho z k p q⟩)
end
