/-! case: pure pictures, and the single appends -/
def sc_lb (g : Nat → Int32) : Nat → Prop
  | 0 => False
  | k + 1 => if g k = 6 ∨ g k = 2 then sc_lb g k else g k = 4
def sc_lh (g : Nat → Int32) : Nat → Nat → Prop
  | 0, _ => False
  | d + 1, i => if g i = 6 ∨ g i = 2 then sc_lh g d (i + 1) else g i = 4
def sc_Fi (g : Nat → Int32) (n k : Nat) : Prop := sc_lb g k ∧ ¬ sc_lh g (n - (k + 1)) (k + 1)
noncomputable def sc_lw (ki lo fi tx : Nat → Int32) (t n k : Nat) : Int32 :=
  @ite _ (¬ fi (tx (16 * t + k)).toNatClampNeg = -1 ∧ sc_Fi (sc_kd ki tx t) n k) (Classical.propDecidable _) (fi (tx (16 * t + k)).toNatClampNeg) (lo (tx (16 * t + k)).toNatClampNeg)
def sc_uL (uf us : Nat → Int32) (c : Int32) : List Int32 := uf c.toNatClampNeg :: (if us c.toNatClampNeg = -1 then [] else [us c.toNatClampNeg])
theorem sc_uLl (uf us : Nat → Int32) (c : Int32) : (sc_uL uf us c).length ≤ 2 := by
  unfold sc_uL
  split <;> simp
theorem sc_uLA {uf us : Nat → Int32} (h1 : sc_Chr uf) (h2 : sc_Opt us) (c : Int32) : sc_All (sc_uL uf us c) := by
  unfold sc_uL
  refine sc_All_cons.mpr ⟨h1 _, ?_⟩
  split
  · exact sc_All_nil
  · rename_i z
    exact sc_All_cons.mpr ⟨(h2 _).elim (fun e => absurd e z) id, sc_All_nil⟩
theorem sc_lwC {ki lo fi tx : Nat → Int32} (h1 : sc_Chr lo) (h2 : sc_Opt fi) (t n k : Nat) : vp_in (sc_lw ki lo fi tx t n k) 48 := by
  unfold sc_lw
  split
  · rename_i z
    exact (h2 _).elim (fun e => absurd e z.1) id
  · exact h1 _
section
variable {cc rl wl : Int32} {cl dt df ds ex lo uf us fi ki ef es di we cf cs cm tx le rr wk sh fo fl el ec ke kl em oe be pl po : Nat → Int32}
theorem x_lb_l {post : Int32 → Prop} {t : Nat} (ht : t < 2) (htx : sc_Chr tx) : ∀ k, k ≤ 16 → (sc_lb (sc_kd ki tx t) k → post 1) → (¬ sc_lb (sc_kd ki tx t) k → post 0) → wX_isLetterBefore_4 post (nI t) cc rl wl cl dt df ds ex lo uf us fi ki ef es di we cf cs cm tx le rr wk sh fo fl el ec ke kl em oe be pl po (k + 1) (sc_pr k) := by
  intro k
  induction k with
  | zero => exact fun hk h1 h0 => br_t (by decide) (h0 id)
  | succ k ih =>
    intro hk h1 h0
    unfold sc_lb at h1 h0
    refine br_f (nI_pos (by omega)) (x_kindAt ht (by omega) htx (br_c (fun a => ?_) (fun a => br_c (fun b => ?_) (fun b => br_c (fun c => ?_) (fun c => ?_)))))
    · rw [if_pos (Or.inl a)] at h1 h0
      exact nm_r (sc_prA k) (ih (by omega) h1 h0)
    · rw [if_pos (Or.inr b)] at h1 h0
      exact nm_r (sc_prA k) (ih (by omega) h1 h0)
    · rw [if_neg (fun z => z.elim a b)] at h1; exact h1 c
    · rw [if_neg (fun z => z.elim a b)] at h0; exact h0 c
theorem x_lb {post : Int32 → Prop} {t k : Nat} (ht : t < 2) (htx : sc_Chr tx) (hk : k ≤ 16) (h1 : sc_lb (sc_kd ki tx t) k → post 1) (h0 : ¬ sc_lb (sc_kd ki tx t) k → post 0) : wpX_isLetterBefore post (cc, rl, wl, cl, dt, df, ds, ex, lo, uf, us, fi, ki, ef, es, di, we, cf, cs, cm, tx, le, rr, wk, sh, fo, fl, el, ec, ke, kl, em, oe, be, pl, po) (nI t) (nI k) := by
  unfold wpX_isLetterBefore
  exact nm_r (sc_prS k) ⟨k + 1, x_lb_l ht htx k hk h1 h0⟩
theorem x_lh_l {post : Int32 → Prop} {t n : Nat} (ht : t < 2) (htx : sc_Chr tx) (hn : n ≤ 16) (hl : le t = nI n) : ∀ d i, i + d = n → (sc_lh (sc_kd ki tx t) d i → post 1) → (¬ sc_lh (sc_kd ki tx t) d i → post 0) → wX_isLetterBehind_4 post (nI t) cc rl wl cl dt df ds ex lo uf us fi ki ef es di we cf cs cm tx le rr wk sh fo fl el ec ke kl em oe be pl po (d + 1) (nI i) := by
  have hL : le (nI t).toNatClampNeg = nI n := by rw [nI_clamp (by omega), hl]
  intro d
  induction d with
  | zero => exact fun i hi h1 h0 => ⟨vp_in_nI ht (by decide), br_t (by rw [hL]; exact nI_le (by omega) (by omega)) (h0 id)⟩
  | succ d ih =>
    intro i hi h1 h0
    unfold sc_lh at h1 h0
    refine ⟨vp_in_nI ht (by decide), br_f (by rw [hL]; exact nI_ge (by omega) (by omega)) (x_kindAt ht (by omega) htx (br_c (fun a => ?_) (fun a => br_c (fun b => ?_) (fun b => br_c (fun c => ?_) (fun c => ?_)))))⟩
    · rw [if_pos (Or.inl a)] at h1 h0
      exact nm_r (nI_1 i) (ih (i + 1) (by omega) h1 h0)
    · rw [if_pos (Or.inr b)] at h1 h0
      exact nm_r (nI_1 i) (ih (i + 1) (by omega) h1 h0)
    · rw [if_neg (fun z => z.elim a b)] at h1; exact h1 c
    · rw [if_neg (fun z => z.elim a b)] at h0; exact h0 c
theorem x_fin {post : Int32 → Prop} {t n k : Nat} (ht : t < 2) (htx : sc_Chr tx) (hn : n ≤ 16) (hl : le t = nI n) (hk : k < n) (h1 : sc_Fi (sc_kd ki tx t) n k → post 1) (h0 : ¬ sc_Fi (sc_kd ki tx t) n k → post 0) : wpX_standsFinally post (cc, rl, wl, cl, dt, df, ds, ex, lo, uf, us, fi, ki, ef, es, di, we, cf, cs, cm, tx, le, rr, wk, sh, fo, fl, el, ec, ke, kl, em, oe, be, pl, po) (nI t) (nI k) := by
  unfold wpX_standsFinally
  refine x_lb ht htx (by omega) (fun a => br_f (by decide) ?_) (fun a => br_t rfl (h0 (fun z => a z.1)))
  unfold wpX_isLetterBehind
  exact nm_r (nI_1 k) ⟨n - (k + 1) + 1, x_lh_l ht htx hn hl _ (k + 1) (by omega) (fun b => br_f (by decide) (h0 (fun z => z.2 b))) (fun b => br_t rfl (h1 ⟨a, b⟩))⟩
theorem x_appLower {post : SX → Prop} {t n k : Nat} {acc : List Int32} (ht : t < 2) (htx : sc_Chr tx) (hn : n ≤ 16) (hl : le t = nI n) (hk : k < n) (ha : acc.length < 64) (hr : sc_Rp wk acc)
    (h : ∀ wk, sc_Rp wk (acc ++ [sc_lw ki lo fi tx t n k]) → post (cc, rl, nI (acc.length + 1), cl, dt, df, ds, ex, lo, uf, us, fi, ki, ef, es, di, we, cf, cs, cm, tx, le, rr, wk, sh, fo, fl, el, ec, ke, kl, em, oe, be, pl, po)) : wpX_appendLower post (cc, rl, nI acc.length, cl, dt, df, ds, ex, lo, uf, us, fi, ki, ef, es, di, we, cf, cs, cm, tx, le, rr, wk, sh, fo, fl, el, ec, ke, kl, em, oe, be, pl, po) (nI t) (nI k) := by
  have e : nI t * 16 + nI k = nI (16 * t + k) := by rw [sn_t16, nI_add]
  have c : (nI t * 16 + nI k).toNatClampNeg = 16 * t + k := by rw [e, nI_clamp (by omega)]
  unfold wpX_appendLower
  refine ⟨pk_in (16 * t + k) 32 (by omega) e, nm_r (e' := tx (16 * t + k)) (by rw [c]) ⟨htx _, ?_⟩⟩
  unfold sc_lw at h
  refine br_c (fun a => ?_) (fun a => x_fin ht htx hn hl hk (fun b => br_f (by decide) ⟨htx _, ?_⟩) (fun b => br_t rfl ?_))
  · rw [if_neg (fun z => z.1 a)] at h
    exact ⟨htx _, x_append ha (h _ (sc_Rp_snoc _ hr))⟩
  · rw [if_pos ⟨a, b⟩] at h
    exact x_append ha (h _ (sc_Rp_snoc _ hr))
  · rw [if_neg (fun z => b z.2)] at h
    exact ⟨htx _, x_append ha (h _ (sc_Rp_snoc _ hr))⟩
theorem x_appUpper {post : SX → Prop} {t k : Nat} {acc : List Int32} (ht : t < 2) (htx : sc_Chr tx) (hk : k < 16) (ha : acc.length + 2 ≤ 64) (hr : sc_Rp wk acc)
    (h : ∀ wk, sc_Rp wk (acc ++ sc_uL uf us (tx (16 * t + k))) → post (cc, rl, nI (acc ++ sc_uL uf us (tx (16 * t + k))).length, cl, dt, df, ds, ex, lo, uf, us, fi, ki, ef, es, di, we, cf, cs, cm, tx, le, rr, wk, sh, fo, fl, el, ec, ke, kl, em, oe, be, pl, po)) : wpX_appendUpper post (cc, rl, nI acc.length, cl, dt, df, ds, ex, lo, uf, us, fi, ki, ef, es, di, we, cf, cs, cm, tx, le, rr, wk, sh, fo, fl, el, ec, ke, kl, em, oe, be, pl, po) (nI t) (nI k) := by
  have e : nI t * 16 + nI k = nI (16 * t + k) := by rw [sn_t16, nI_add]
  have c : (nI t * 16 + nI k).toNatClampNeg = 16 * t + k := by rw [e, nI_clamp (by omega)]
  unfold wpX_appendUpper
  refine ⟨pk_in (16 * t + k) 32 (by omega) e, nm_r (e' := tx (16 * t + k)) (by rw [c]) ⟨htx _, x_append (by omega) ⟨htx _, ?_⟩⟩⟩
  unfold sc_uL at h
  have hr1 := sc_Rp_snoc (uf (tx (16 * t + k)).toNatClampNeg) hr
  refine br_c (fun a => ?_) (fun a => ⟨htx _, x_append (by omega) ?_⟩)
  · rw [if_pos a] at h
    have h' := h _ hr1
    rw [List.length_append] at h'
    exact h'
  · rw [if_neg a] at h
    have hr2 := sc_Rp_snoc (us (tx (16 * t + k)).toNatClampNeg) hr1
    rw [List.length_append (as := acc), List.append_assoc] at hr2
    have h' := h _ hr2
    rw [List.length_append] at h'
    exact h'
end
section
variable {cc rl yn : Int32} {cl dt df pb lo uf us fi ki wt ef eb di ex cf cs cm lg tx le rr ro fm fL ee en ye lv se pg ou : Nat → Int32}
theorem y_b53 {post : Int32 → Prop} {t n : Nat} {x : Int32} (ht : t < 2) (hl : le t = nI n) (h1 : nI n ≤ x → post (-1)) (h0 : ¬ nI n ≤ x → post x) : wY_beside_53 post (nI t) x cc rl yn cl dt df pb lo uf us fi ki wt ef eb di ex cf cs cm lg tx le rr ro fm fL ee en ye lv se pg ou := by
  have hL : le (nI t).toNatClampNeg = nI n := by rw [nI_clamp (by omega), hl]
  refine ⟨vp_in_nI ht (by decide), ?_⟩
  rw [hL]
  exact br_c h1 h0
theorem y_bb_l {post : Int32 → Prop} {t n : Nat} (ht : t < 2) (htx : sc_Chr tx) (hn : n ≤ 16) (hl : le t = nI n) :
    ∀ k, k ≤ n → (∀ r, r = -1 ∧ ¬ sc_lb (sc_kd ki tx t) k ∨ (∃ s, s < k ∧ r = nI s ∧ (sc_kd ki tx t s = 4 ↔ sc_lb (sc_kd ki tx t) k)) → post r) → wY_beside_5 post (nI t) (-1) cc rl yn cl dt df pb lo uf us fi ki wt ef eb di ex cf cs cm lg tx le rr ro fm fL ee en ye lv se pg ou (k + 1) (sc_pr k) := by
  have hL : le (nI t).toNatClampNeg = nI n := by rw [nI_clamp (by omega), hl]
  intro k
  induction k with
  | zero =>
    intro hk h
    refine br_t (by decide) (y_b53 ht hl (fun z => absurd z ?_) (fun _ => h _ (Or.inl ⟨rfl, id⟩)))
    show ¬ nI n ≤ -1
    rw [Int32.le_iff_toInt_le, nI_toInt (by omega), show (-1 : Int32).toInt = -1 from by decide]
    omega
  | succ k ih =>
    intro hk h
    unfold sc_lb at h
    have next : (sc_kd ki tx t k = 6 ∨ sc_kd ki tx t k = 2) → wY_beside_5 post (nI t) (-1) cc rl yn cl dt df pb lo uf us fi ki wt ef eb di ex cf cs cm lg tx le rr ro fm fL ee en ye lv se pg ou (k + 1) (sc_pr k) := by
      intro z
      rw [if_pos z] at h
      exact ih (by omega) (fun r hr => h r (hr.elim Or.inl (fun ⟨s, hs, e, i⟩ => Or.inr ⟨s, by omega, e, i⟩)))
    refine br_f (nI_pos (by omega)) ⟨vp_in_nI ht (by decide), br_f (by rw [hL]; exact nI_ge (by omega) (by omega)) (y_kindAt ht (by omega) htx (br_c (fun a => nm_r (sc_prA k) (next (Or.inl a))) (fun a => y_kindAt ht (by omega) htx (br_c (fun b => nm_r (sc_prA k) (next (Or.inr b))) (fun b => ?_)))))⟩
    rw [if_neg (fun z => z.elim a b)] at h
    exact y_b53 ht hl (fun z => absurd z (nI_ge (by omega) (by omega))) (fun _ => h _ (Or.inr ⟨k, by omega, rfl, Iff.rfl⟩))
theorem y_bh_l {post : Int32 → Prop} {t n : Nat} (ht : t < 2) (htx : sc_Chr tx) (hn : n ≤ 16) (hl : le t = nI n) :
    ∀ d i, i + d = n → (∀ r, r = -1 ∧ ¬ sc_lh (sc_kd ki tx t) d i ∨ (∃ s, s < n ∧ r = nI s ∧ (sc_kd ki tx t s = 4 ↔ sc_lh (sc_kd ki tx t) d i)) → post r) → wY_beside_5 post (nI t) 1 cc rl yn cl dt df pb lo uf us fi ki wt ef eb di ex cf cs cm lg tx le rr ro fm fL ee en ye lv se pg ou (d + 1) (nI i) := by
  have hL : le (nI t).toNatClampNeg = nI n := by rw [nI_clamp (by omega), hl]
  intro d
  induction d with
  | zero =>
    intro i hi h
    exact br_f (nI_pos (by omega)) ⟨vp_in_nI ht (by decide), br_t (by rw [hL]; exact nI_le (by omega) (by omega)) (y_b53 ht hl (fun z => h _ (Or.inl ⟨rfl, id⟩)) (fun z => absurd (nI_le (by omega) (by omega)) z))⟩
  | succ d ih =>
    intro i hi h
    unfold sc_lh at h
    have next : (sc_kd ki tx t i = 6 ∨ sc_kd ki tx t i = 2) → wY_beside_5 post (nI t) 1 cc rl yn cl dt df pb lo uf us fi ki wt ef eb di ex cf cs cm lg tx le rr ro fm fL ee en ye lv se pg ou (d + 1) (nI (i + 1)) := by
      intro z
      rw [if_pos z] at h
      exact ih (i + 1) (by omega) h
    refine br_f (nI_pos (by omega)) ⟨vp_in_nI ht (by decide), br_f (by rw [hL]; exact nI_ge (by omega) (by omega)) (y_kindAt ht (by omega) htx (br_c (fun a => nm_r (nI_1 i) (next (Or.inl a))) (fun a => y_kindAt ht (by omega) htx (br_c (fun b => nm_r (nI_1 i) (next (Or.inr b))) (fun b => ?_)))))⟩
    rw [if_neg (fun z => z.elim a b)] at h
    exact y_b53 ht hl (fun z => absurd z (nI_ge (by omega) (by omega))) (fun _ => h _ (Or.inr ⟨i, by omega, rfl, Iff.rfl⟩))
theorem y_fin {post : Int32 → Prop} {t n k : Nat} (ht : t < 2) (htx : sc_Chr tx) (hn : n ≤ 16) (hl : le t = nI n) (hk : k < n) (h1 : sc_Fi (sc_kd ki tx t) n k → post 1) (h0 : ¬ sc_Fi (sc_kd ki tx t) n k → post 0) : wpY_isFinal post (cc, rl, yn, cl, dt, df, pb, lo, uf, us, fi, ki, wt, ef, eb, di, ex, cf, cs, cm, lg, tx, le, rr, ro, fm, fL, ee, en, ye, lv, se, pg, ou) (nI t) (nI k) := by
  unfold wpY_isFinal
  unfold wpY_beside
  refine nm_r (sc_prA k) ⟨k + 1, y_bb_l ht htx hn hl k (by omega) (fun r hr => nm_r (nI_1 k) ⟨n - (k + 1) + 1, y_bh_l ht htx hn hl _ (k + 1) (by omega) (fun q hq => ?_)⟩)⟩
  rcases hr with ⟨rfl, nb⟩ | ⟨s, hs, rfl, ib⟩
  · exact br_t (by decide) (h0 (fun z => nb z.1))
  · refine br_f (nI_pos (by omega)) (y_kindAt ht (by omega) htx (br_c (fun a => ?_) (fun a => h0 (fun z => a (ib.mpr z.1)))))
    rcases hq with ⟨rfl, nh⟩ | ⟨q, hq, rfl, ih⟩
    · exact br_t (by decide) (h1 ⟨ib.mp a, nh⟩)
    · exact br_f (nI_pos (by omega)) (y_kindAt ht (by omega) htx (br_c (fun b => h0 (fun z => z.2 (ih.mp b))) (fun b => h1 ⟨ib.mp a, fun z => b (ih.mpr z)⟩)))
theorem y_add {post : SY → Prop} {acc : List Int32} {c : Int32} (ha : acc.length < 64) (hr : sc_Rp ro acc) (h : ∀ ro, sc_Rp ro (acc ++ [c]) → post (cc, rl, nI (acc.length + 1), cl, dt, df, pb, lo, uf, us, fi, ki, wt, ef, eb, di, ex, cf, cs, cm, lg, tx, le, rr, ro, fm, fL, ee, en, ye, lv, se, pg, ou)) : wpY_add post (cc, rl, nI acc.length, cl, dt, df, pb, lo, uf, us, fi, ki, wt, ef, eb, di, ex, cf, cs, cm, lg, tx, le, rr, ro, fm, fL, ee, en, ye, lv, se, pg, ou) c := by
  unfold wpY_add
  exact ⟨vp_in_nI ha (by decide), nm_r (e' := upd ro acc.length c) (by rw [nI_clamp (by omega)]) (nm_r (nI_1 _) (h _ (sc_Rp_snoc c hr)))⟩
theorem y_addLower {post : SY → Prop} {t n k : Nat} {acc : List Int32} (ht : t < 2) (htx : sc_Chr tx) (hfi : sc_Opt fi) (hn : n ≤ 16) (hl : le t = nI n) (hk : k < n) (ha : acc.length < 64) (hr : sc_Rp ro acc)
    (h : ∀ ro, sc_Rp ro (acc ++ [sc_lw ki lo fi tx t n k]) → post (cc, rl, nI (acc.length + 1), cl, dt, df, pb, lo, uf, us, fi, ki, wt, ef, eb, di, ex, cf, cs, cm, lg, tx, le, rr, ro, fm, fL, ee, en, ye, lv, se, pg, ou)) : wpY_addLower post (cc, rl, nI acc.length, cl, dt, df, pb, lo, uf, us, fi, ki, wt, ef, eb, di, ex, cf, cs, cm, lg, tx, le, rr, ro, fm, fL, ee, en, ye, lv, se, pg, ou) (nI t) (nI k) := by
  have e : 16 * nI t + nI k = nI (16 * t + k) := sn_16 t k
  have c : (16 * nI t + nI k).toNatClampNeg = 16 * t + k := by rw [e, nI_clamp (by omega)]
  have ng : ∀ j, fi j < 0 ↔ fi j = -1 := fun j => ⟨fun z => (hfi j).elim id (fun w => absurd z (sn_pos w)), fun z => by rw [z]; decide⟩
  unfold wpY_addLower
  refine ⟨pk_in (16 * t + k) 32 (by omega) e, nm_r (e' := tx (16 * t + k)) (by rw [c]) ⟨htx _, ?_⟩⟩
  unfold sc_lw at h
  refine br_c (fun a => ?_) (fun a => y_fin ht htx hn hl hk (fun b => br_f (by decide) ⟨htx _, ?_⟩) (fun b => br_t rfl ?_))
  · rw [if_neg (fun z => z.1 ((ng _).mp a))] at h
    exact ⟨htx _, y_add ha hr h⟩
  · rw [if_pos ⟨fun z => a ((ng _).mpr z), b⟩] at h
    exact y_add ha hr h
  · rw [if_neg (fun z => b z.2)] at h
    exact ⟨htx _, y_add ha hr h⟩
theorem y_addUpper0 {post : SY → Prop} {acc : List Int32} {c : Int32} (hc : vp_in c 48) (hus : sc_Opt us) (ha : acc.length + 2 ≤ 64) (hr : sc_Rp ro acc)
    (h : ∀ ro, sc_Rp ro (acc ++ sc_uL uf us c) → post (cc, rl, nI (acc ++ sc_uL uf us c).length, cl, dt, df, pb, lo, uf, us, fi, ki, wt, ef, eb, di, ex, cf, cs, cm, lg, tx, le, rr, ro, fm, fL, ee, en, ye, lv, se, pg, ou)) : wpY_addUpper post (cc, rl, nI acc.length, cl, dt, df, pb, lo, uf, us, fi, ki, wt, ef, eb, di, ex, cf, cs, cm, lg, tx, le, rr, ro, fm, fL, ee, en, ye, lv, se, pg, ou) c 0 := by
  have ng : ∀ j, us j < 0 ↔ us j = -1 := fun j => ⟨fun z => (hus j).elim id (fun w => absurd z (sn_pos w)), fun z => by rw [z]; decide⟩
  unfold wpY_addUpper
  refine br_t rfl ⟨hc, ?_⟩
  unfold wY_addUpper_25
  refine y_add (by omega) hr (fun ro1 hr1 => ⟨hc, ?_⟩)
  unfold sc_uL at h
  refine br_c (fun a => ?_) (fun a => br_t rfl ⟨hc, ?_⟩)
  · rw [if_pos ((ng _).mp a)] at h
    have h' := h _ hr1
    rw [List.length_append] at h'
    exact h'
  · rw [if_neg (fun z => a ((ng _).mpr z))] at h
    have e1 : nI (acc.length + 1) = nI (acc ++ [uf c.toNatClampNeg]).length := by rw [List.length_append]; rfl
    rw [e1]
    refine y_add (by rw [List.length_append]; show acc.length + 1 < 64; omega) hr1 (fun ro2 hr2 => ?_)
    rw [List.append_assoc] at hr2
    have h' := h _ hr2
    rw [List.length_append] at h' ⊢
    exact h'
theorem y_addUpper1 {post : SY → Prop} {acc : List Int32} {c : Int32} (hc : vp_in c 48) (huf : sc_Chr uf) (hus : sc_Opt us) (ha : acc.length + 2 ≤ 64) (hr : sc_Rp ro acc)
    (h : ∀ ro, sc_Rp ro (acc ++ (sc_uL uf us c).map (fun x => lo x.toNatClampNeg)) → post (cc, rl, nI (acc ++ (sc_uL uf us c).map (fun x => lo x.toNatClampNeg)).length, cl, dt, df, pb, lo, uf, us, fi, ki, wt, ef, eb, di, ex, cf, cs, cm, lg, tx, le, rr, ro, fm, fL, ee, en, ye, lv, se, pg, ou)) : wpY_addUpper post (cc, rl, nI acc.length, cl, dt, df, pb, lo, uf, us, fi, ki, wt, ef, eb, di, ex, cf, cs, cm, lg, tx, le, rr, ro, fm, fL, ee, en, ye, lv, se, pg, ou) c 1 := by
  have ng : ∀ j, us j < 0 ↔ us j = -1 := fun j => ⟨fun z => (hus j).elim id (fun w => absurd z (sn_pos w)), fun z => by rw [z]; decide⟩
  unfold wpY_addUpper
  refine br_f (by decide) ⟨hc, huf _, ?_⟩
  unfold wY_addUpper_25
  refine y_add (by omega) hr (fun ro1 hr1 => ⟨hc, ?_⟩)
  unfold sc_uL at h
  refine br_c (fun a => ?_) (fun a => br_f (by decide) ⟨hc, (hus _).elim (fun z => absurd ((ng _).mpr z) a) id, ?_⟩)
  · rw [if_pos ((ng _).mp a)] at h
    have h' := h _ hr1
    rw [List.length_append] at h'
    exact h'
  · rw [if_neg (fun z => a ((ng _).mpr z))] at h
    have e1 : nI (acc.length + 1) = nI (acc ++ [lo (uf c.toNatClampNeg).toNatClampNeg]).length := by rw [List.length_append]; rfl
    rw [e1]
    refine y_add (by rw [List.length_append]; show acc.length + 1 < 64; omega) hr1 (fun ro2 hr2 => ?_)
    rw [List.append_assoc] at hr2
    have h' := h _ hr2
    rw [List.length_append] at h' ⊢
    exact h'
end
