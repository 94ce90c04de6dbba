/-! breaks as bits -/
noncomputable def sc_q (g : Nat → Int32) (n : Nat) (kd : Int32) (p : Nat) : Int32 :=
  if p = 0 ∨ p = n then (if n = 0 then 0 else 1) else if kd = 0 then sc_cb (g (p - 1)) (g p) else sc_wb g n p
def sc_bm (q : Nat → Int32) : Nat → Nat
  | 0 => 0
  | p + 1 => sc_bm q p + (if q p = 0 then 0 else 2 ^ p)
theorem sc_bm_lt (q : Nat → Int32) : ∀ p, sc_bm q p < 2 ^ p := by
  intro p
  induction p with
  | zero => exact Nat.one_pos
  | succ p ih =>
    unfold sc_bm
    rw [Nat.pow_succ]
    by_cases h : q p = 0
    · rw [if_pos h]; omega
    · rw [if_neg h]; omega
theorem sc_bm_bit (q : Nat → Int32) : ∀ p i, (sc_bm q p).testBit i = decide (i < p ∧ ¬ q i = 0) := by
  intro p
  induction p with
  | zero => intro i; unfold sc_bm; simp
  | succ p ih =>
    intro i
    unfold sc_bm
    have hl := sc_bm_lt q p
    by_cases h : q p = 0
    · rw [if_pos h, Nat.add_zero, ih i]
      apply decide_eq_decide.mpr
      constructor
      · exact fun z => ⟨by omega, z.2⟩
      · intro z
        refine ⟨?_, z.2⟩
        rcases Nat.lt_or_ge i p with y | y
        · exact y
        · have : i = p := by omega
          subst this; exact absurd h z.2
    · rw [if_neg h, Nat.add_comm]
      rcases Nat.lt_trichotomy i p with y | y | y
      · rw [Nat.testBit_two_pow_add_gt y, ih i]
        apply decide_eq_decide.mpr
        exact ⟨fun z => ⟨by omega, z.2⟩, fun z => ⟨y, z.2⟩⟩
      · subst y
        rw [Nat.testBit_two_pow_add_eq, ih i]
        simp [h]
      · rw [Nat.testBit_lt_two_pow (Nat.lt_of_lt_of_le (show 2 ^ p + sc_bm q p < 2 ^ (p + 1) by rw [Nat.pow_succ]; omega) (Nat.pow_le_pow_right (by decide) y))]
        symm
        apply decide_eq_false
        intro z
        omega
theorem sc_btN {m i : Nat} (hi : i < 32) : bt (nI m) i = m.testBit i := by
  show (BitVec.ofNat 32 m).getLsbD i = _
  rw [BitVec.getLsbD_ofNat]
  simp [hi]
theorem sc_bt1 {p i : Nat} (hp : p < 32) (hi : i < 32) : bt ((1 : Int32) <<< (nI p &&& 31)) i = decide (i = p) := by
  rw [b_shl p hp _ hi, show (1 : Int32) = nI 1 from rfl, sc_btN (by omega)]
  by_cases h : p ≤ i
  · by_cases e : i = p
    · subst e; simp
    · obtain ⟨d, hd⟩ : ∃ d, i - p = d + 1 := ⟨i - p - 1, by omega⟩
      rw [hd, Nat.testBit_succ]
      simp [h, e]
  · have e : ¬ i = p := by omega
    simp [h, e]
theorem sc_shlN {p : Nat} (hp : p < 31) : (1 : Int32) <<< (nI p &&& 31) = nI (2 ^ p) := by
  have := pk_shlN (n := 1) (nI p &&& 31) p (s_l p (by omega)) (by rw [Nat.one_mul]; exact Nat.pow_lt_pow_right (by decide) (by omega))
  rw [Nat.one_mul] at this
  exact this
theorem sc_isin {m p : Nat} (hp : p < 31) (hm : m < 2 ^ 31) : ((nI m >>> (nI p &&& 31)) &&& 1) = 1 ↔ m.testBit p = true := by
  rw [pk_shrN hm _ p (s_l p (by omega)), pk_andN (n := m / 2 ^ p) (Nat.lt_of_le_of_lt (Nat.div_le_self _ _) (by omega)) (m := 1) 1 (by decide)]
  rw [Nat.testBit_eq_decide_div_mod_eq, decide_eq_true_iff]
  have h2 : m / 2 ^ p % 2 ^ 1 < 2 := Nat.mod_lt _ (by decide)
  rw [show (1 : Int32) = nI 1 from rfl, nI_eq (by omega) (by omega)]
theorem sc_wd1 (w z : Int32) : sc_Wd w 1 2 z := ⟨fun h => absurd h.1 (by decide), fun h => absurd h.1 (by decide), fun h => absurd h.1 (by decide)⟩
theorem sc_ca1 {g : Nat → Int32} {p : Nat} (h : g p = 1) : sc_ca g p = p := by
  cases p with
  | zero => rfl
  | succ p => unfold sc_ca; rw [if_neg (by rw [h]; decide)]
section
variable {cc rl yn : Int32} {cl dt df pb lo uf us fi ki wt ef eb di ex cf cs cm lg tx le rr ro fm fL ee en ye lv se pg ou : Nat → Int32}
theorem y_cb14 {post : Int32 → Prop} {t n : Nat} (ht : t < 2) (hn : n ≤ 16) (hl : le t = nI n) (h : post (if n = 0 then 0 else 1)) : wY_clusterBreak_14 post (nI t) cc rl yn cl dt df pb lo uf us fi ki wt ef eb di ex cf cs cm lg tx le rr ro fm fL ee en ye lv se pg ou := by
  have hL : le (nI t).toNatClampNeg = nI n := by rw [nI_clamp (by omega), hl]
  refine ⟨vp_in_nI ht (by decide), ?_⟩
  rw [hL]
  by_cases c : n = 0
  · subst c; exact br_t (by decide) h
  · rw [if_neg c] at h; exact br_f (nI_nle (by omega) (by omega)) h
theorem y_wb14 {post : Int32 → Prop} {t n : Nat} (ht : t < 2) (hn : n ≤ 16) (hl : le t = nI n) (h : post (if n = 0 then 0 else 1)) : wY_wordBreak_14 post (nI t) cc rl yn cl dt df pb lo uf us fi ki wt ef eb di ex cf cs cm lg tx le rr ro fm fL ee en ye lv se pg ou := by
  have hL : le (nI t).toNatClampNeg = nI n := by rw [nI_clamp (by omega), hl]
  refine ⟨vp_in_nI ht (by decide), ?_⟩
  rw [hL]
  by_cases c : n = 0
  · subst c; exact br_t (by decide) h
  · rw [if_neg c] at h; exact br_f (nI_nle (by omega) (by omega)) h
theorem y_cluster {post : Int32 → Prop} {t n p : Nat} (ht : t < 2) (htx : sc_Chr tx) (hn : n ≤ 16) (hl : le t = nI n) (hp : p ≤ n) (h : post (sc_q (sc_kd ki tx t) n 0 p)) : wpY_clusterBreak post (cc, rl, yn, cl, dt, df, pb, lo, uf, us, fi, ki, wt, ef, eb, di, ex, cf, cs, cm, lg, tx, le, rr, ro, fm, fL, ee, en, ye, lv, se, pg, ou) (nI t) (nI p) := by
  have hL : le (nI t).toNatClampNeg = nI n := by rw [nI_clamp (by omega), hl]
  unfold sc_q at h
  unfold wpY_clusterBreak
  cases p with
  | zero => rw [if_pos (Or.inl rfl)] at h; exact br_t rfl (y_cb14 ht hn hl h)
  | succ p =>
    refine br_f (nI_ne0 (by omega) (by omega)) ⟨vp_in_nI ht (by decide), ?_⟩
    rw [hL]
    by_cases c : p + 1 = n
    · rw [if_pos (Or.inr c)] at h; exact br_t (by rw [c]) (y_cb14 ht hn hl h)
    · rw [if_neg (fun z => z.elim (by omega) c), if_pos rfl, Nat.add_sub_cancel] at h
      refine br_f (fun z => c ((nI_eq (by omega) (by omega)).mp z)) ?_
      rw [nI_pred]
      refine y_kindAt ht (by omega) htx (y_kindAt ht (by omega) htx ?_)
      unfold sc_cb at h
      refine br_c (fun a => br_c (fun b => br_f (by rw [b]; decide) ?_) (fun b => ?_)) (fun a => br_c (fun b => br_c (fun c => ?_) (fun c => ?_)) (fun b => ?_))
      · rw [if_pos a, if_pos b] at h; exact h
      · rw [if_pos a, if_neg b] at h; exact h
      · rw [if_neg a, if_pos b, if_pos c] at h; exact h
      · rw [if_neg a, if_pos b, if_neg c] at h; exact h
      · rw [if_neg a, if_neg b] at h; exact h
theorem y_word {post : Int32 → Prop} {t n p : Nat} {kd : Int32} (hkd : ¬ kd = 0) (ht : t < 2) (htx : sc_Chr tx) (hn : n ≤ 16) (hl : le t = nI n) (hp : p ≤ n) (h : post (sc_q (sc_kd ki tx t) n kd p)) : wpY_wordBreak post (cc, rl, yn, cl, dt, df, pb, lo, uf, us, fi, ki, wt, ef, eb, di, ex, cf, cs, cm, lg, tx, le, rr, ro, fm, fL, ee, en, ye, lv, se, pg, ou) (nI t) (nI p) := by
  have hL : le (nI t).toNatClampNeg = nI n := by rw [nI_clamp (by omega), hl]
  unfold sc_q at h
  unfold wpY_wordBreak
  cases p with
  | zero => rw [if_pos (Or.inl rfl)] at h; exact br_t rfl (y_wb14 ht hn hl h)
  | succ p =>
    refine br_f (nI_ne0 (by omega) (by omega)) ⟨vp_in_nI ht (by decide), ?_⟩
    rw [hL]
    by_cases c : p + 1 = n
    · rw [if_pos (Or.inr c)] at h; exact br_t (by rw [c]) (y_wb14 ht hn hl h)
    · rw [if_neg (fun z => z.elim (by omega) c), if_neg hkd] at h
      refine br_f (fun z => c ((nI_eq (by omega) (by omega)).mp z)) ?_
      rw [nI_pred]
      refine y_kindAt ht (by omega) htx (y_kindAt ht (by omega) htx ?_)
      unfold sc_wb at h
      rw [Nat.add_sub_cancel] at h
      refine br_c (fun a => br_c (fun b => y_wb59 ht htx hn hl (by omega) ?_) (fun b => ?_)) (fun a => y_wb59 ht htx hn hl (by omega) ?_)
      · rw [if_pos a, if_pos b] at h
        rw [sc_ca1 b, b, a, sc_bt (sc_wd1 _ _)]
        exact h
      · rw [if_pos a, if_neg b] at h; exact h
      · rw [if_neg a] at h; exact h
theorem y_breaks_l {post : Int32 → Prop} {t n : Nat} {kd : Int32} (ht : t < 2) (htx : sc_Chr tx) (hn : n ≤ 16) (hl : le t = nI n) (h : post (nI (sc_bm (sc_q (sc_kd ki tx t) n kd) (n + 1)))) :
    ∀ d p, p + d = n + 1 → wY_breaks_21 post (nI t) kd cc rl yn cl dt df pb lo uf us fi ki wt ef eb di ex cf cs cm lg tx le rr ro fm fL ee en ye lv se pg ou (d + 1) (nI (sc_bm (sc_q (sc_kd ki tx t) n kd) p)) (nI p) := by
  have hL : le (nI t).toNatClampNeg = nI n := by rw [nI_clamp (by omega), hl]
  intro d
  induction d with
  | zero =>
    intro p hp
    obtain rfl : p = n + 1 := by omega
    exact ⟨vp_in_nI ht (by decide), br_t (by rw [hL]; exact nI_lt (by omega) (by omega)) h⟩
  | succ d ih =>
    intro p hp
    have step : ∀ r, r = sc_q (sc_kd ki tx t) n kd p → wY_breaks_53 post (wY_breaks_21 post (nI t) kd cc rl yn cl dt df pb lo uf us fi ki wt ef eb di ex cf cs cm lg tx le rr ro fm fL ee en ye lv se pg ou (d + 1)) (nI t) kd (nI (sc_bm (sc_q (sc_kd ki tx t) n kd) p)) (nI p) r cc rl yn cl dt df pb lo uf us fi ki wt ef eb di ex cf cs cm lg tx le rr ro fm fL ee en ye lv se pg ou := by
      intro r er
      have g := ih (p + 1) (by omega)
      unfold sc_bm at g
      refine br_c (fun a => nm_r (nI_1 p) ?_) (fun a => nm_r (e' := nI (sc_bm (sc_q (sc_kd ki tx t) n kd) p + 2 ^ p)) ?_ (nm_r (nI_1 p) ?_))
      · rw [if_pos (er ▸ a), Nat.add_zero] at g; exact g
      · rw [sc_shlN (by omega), nI_add]
      · rw [if_neg (er ▸ a)] at g; exact g
    refine ⟨vp_in_nI ht (by decide), br_f (by rw [hL]; exact nI_nlt (by omega) (by omega)) (br_c (fun a => ?_) (fun a => ?_))⟩
    · exact y_cluster ht htx hn hl (by omega) (step _ (by rw [a]))
    · exact y_word a ht htx hn hl (by omega) (step _ rfl)
theorem y_breaks {post : Int32 → Prop} {t n w : Nat} (ht : t < 2) (hw : w < 2) (htx : sc_Chr tx) (hn : n ≤ 16) (hl : le t = nI n) (h : post (nI (sc_bm (sc_q (sc_kd ki tx t) n (nI w)) (n + 1)))) : wpY_breaks post (cc, rl, yn, cl, dt, df, pb, lo, uf, us, fi, ki, wt, ef, eb, di, ex, cf, cs, cm, lg, tx, le, rr, ro, fm, fL, ee, en, ye, lv, se, pg, ou) (nI t) (nI w) := by
  unfold wpY_breaks
  exact ys_text1 ht (br_f (by decide) (ys_text1 hw (br_f (by decide) ⟨_, y_breaks_l ht htx hn hl h (n + 1) 0 (by omega)⟩)))
end
section
variable {cc rl wl : Int32} {cl dt df ds ex lo uf us fi ki ef es di we cf cs cm tx le rr wk sh fo fl el ec ke kl em oe be pl po : Nat → Int32}
theorem x_fb_l {post : Int32 → Prop} {t n : Nat} {kd : Int32} (ht : t < 2) (htx : sc_Chr tx) (hn : n ≤ 16) (hn0 : 0 < n) (hl : le t = nI n) (h : post (nI (sc_bm (sc_q (sc_kd ki tx t) n kd) (n + 1)))) :
    ∀ d p m, p + 1 + d = n → (∀ i, i < 32 → bt m i = decide (i = 0 ∨ i = n ∨ i < p + 1 ∧ ¬ sc_q (sc_kd ki tx t) n kd i = 0)) → wX_findBreaks_25 post (nI t) kd (nI n) cc rl wl cl dt df ds ex lo uf us fi ki ef es di we cf cs cm tx le rr wk sh fo fl el ec ke kl em oe be pl po (d + 1) m (nI (p + 1)) := by
  intro d
  induction d with
  | zero =>
    intro p m hp hm
    refine br_t (nI_le (by omega) (by omega)) ?_
    have e : m = nI (sc_bm (sc_q (sc_kd ki tx t) n kd) (n + 1)) := by
      apply b_ext
      intro i hi
      rw [hm i hi, sc_btN hi, sc_bm_bit]
      apply decide_eq_decide.mpr
      have q0 : ∀ j, j = 0 ∨ j = n → ¬ sc_q (sc_kd ki tx t) n kd j = 0 := by
        intro j hj
        unfold sc_q
        rw [if_pos hj, if_neg (by omega)]
        decide
      constructor
      · rintro (z | z | z)
        · exact ⟨by omega, q0 i (Or.inl z)⟩
        · exact ⟨by omega, q0 i (Or.inr z)⟩
        · exact ⟨by omega, z.2⟩
      · intro z
        by_cases y : i = n
        · exact Or.inr (Or.inl y)
        · exact Or.inr (Or.inr ⟨by omega, z.2⟩)
    rw [e]; exact h
  | succ d ih =>
    intro p m hp hm
    have step : ∀ r, r = sc_q (sc_kd ki tx t) n kd (p + 1) → wX_findBreaks_52 post (wX_findBreaks_25 post (nI t) kd (nI n) cc rl wl cl dt df ds ex lo uf us fi ki ef es di we cf cs cm tx le rr wk sh fo fl el ec ke kl em oe be pl po (d + 1)) (nI t) kd (nI n) m (nI (p + 1)) r cc rl wl cl dt df ds ex lo uf us fi ki ef es di we cf cs cm tx le rr wk sh fo fl el ec ke kl em oe be pl po := by
      intro r er
      refine br_c (fun a => nm_r (nI_1 (p + 1)) (ih (p + 1) m (by omega) ?_)) (fun a => nm_e (nm_r (nI_1 (p + 1)) (ih (p + 1) _ (by omega) ?_)))
      · intro i hi
        rw [hm i hi]
        apply decide_eq_decide.mpr
        rw [er] at a
        constructor
        · rintro (z | z | z)
          · exact Or.inl z
          · exact Or.inr (Or.inl z)
          · exact Or.inr (Or.inr ⟨by omega, z.2⟩)
        · rintro (z | z | z)
          · exact Or.inl z
          · exact Or.inr (Or.inl z)
          · by_cases y : i = p + 1
            · subst y; exact absurd a z.2
            · exact Or.inr (Or.inr ⟨by omega, z.2⟩)
      · intro i hi
        rw [b_or, hm i hi, sc_bt1 (by omega) hi, ← Bool.decide_or]
        apply decide_eq_decide.mpr
        rw [er] at a
        constructor
        · rintro ((z | z | z) | z)
          · exact Or.inl z
          · exact Or.inr (Or.inl z)
          · exact Or.inr (Or.inr ⟨by omega, z.2⟩)
          · subst z; exact Or.inr (Or.inr ⟨by omega, a⟩)
        · rintro (z | z | z)
          · exact Or.inl (Or.inl z)
          · exact Or.inl (Or.inr (Or.inl z))
          · by_cases y : i = p + 1
            · exact Or.inr y
            · exact Or.inl (Or.inr (Or.inr ⟨by omega, z.2⟩))
    have eq : sc_q (sc_kd ki tx t) n kd (p + 1) = if kd = 0 then sc_cb (sc_kd ki tx t p) (sc_kd ki tx t (p + 1)) else sc_wb (sc_kd ki tx t) n (p + 1) := by
      unfold sc_q
      rw [if_neg (by omega), Nat.add_sub_cancel]
    refine br_f (nI_ge (by omega) (by omega)) (br_c (fun a => x_breaksCluster ht (by omega) htx (step _ ?_)) (fun a => x_breaksWord ht htx hn hl (by omega) (step _ ?_)))
    · rw [eq, if_pos a]
    · rw [eq, if_neg a]
theorem x_findBreaks {post : Int32 → Prop} {t n : Nat} {kd : Int32} (ht : t < 2) (htx : sc_Chr tx) (hn : n ≤ 16) (hl : le t = nI n) (h : post (nI (sc_bm (sc_q (sc_kd ki tx t) n kd) (n + 1)))) : wpX_findBreaks post (cc, rl, wl, cl, dt, df, ds, ex, lo, uf, us, fi, ki, ef, es, di, we, cf, cs, cm, tx, le, rr, wk, sh, fo, fl, el, ec, ke, kl, em, oe, be, pl, po) (nI t) kd := by
  have hL : le (nI t).toNatClampNeg = nI n := by rw [nI_clamp (by omega), hl]
  unfold wpX_findBreaks
  refine ⟨vp_in_nI ht (by decide), nm_r hL ?_⟩
  by_cases c : n = 0
  · subst c
    refine br_t (by decide) ⟨1, br_t (by decide) ?_⟩
    unfold sc_bm sc_bm sc_q at h
    exact h
  · refine br_f (nI_nle (by omega) (by omega)) (nm_e ⟨n - 1 + 1, x_fb_l ht htx hn (by omega) hl h (n - 1) 0 _ (by omega) ?_⟩)
    intro i hi
    rw [b_or, show (1 : Int32) = nI 1 from rfl, sc_btN hi]
    rw [show nI 1 = (1 : Int32) from rfl, sc_bt1 (by omega) hi]
    by_cases z : i = 0
    · subst z; simp
    · obtain ⟨j, rfl⟩ : ∃ j, i = j + 1 := ⟨i - 1, by omega⟩
      rw [Nat.testBit_succ]
      simp
theorem x_isIn {post : Int32 → Prop} {m p : Nat} (hp : p < 31) (hm : m < 2 ^ 31) (h1 : m.testBit p = true → post 1) (h0 : m.testBit p = false → post 0) : wpX_isIn post (cc, rl, wl, cl, dt, df, ds, ex, lo, uf, us, fi, ki, ef, es, di, we, cf, cs, cm, tx, le, rr, wk, sh, fo, fl, el, ec, ke, kl, em, oe, be, pl, po) (nI m) (nI p) := by
  refine br_c (fun a => h1 ((sc_isin hp hm).mp a)) (fun a => h0 ?_)
  cases e : m.testBit p
  · rfl
  · exact absurd ((sc_isin hp hm).mpr e) a
end
theorem i_vc_breaks {k : Nat} {u : SX} {v : SY} (I : i_Rel k u v) (hk : k + 5 ≤ 2560) (v1 : Int32) (v2 : Int32) : wpX_breaks (fun r => wpY_breaks (fun r' => r' = r ∧ i_Rel (k + 5) u v) v v1 v2) u v1 v2 := by
  obtain ⟨cc, rl, wl, yn, cl, dt, df, ds, ex, lo, uf, us, fi, ki, ef, es, di, we, cf, cs, cm, tx, le, rr, wk, sh, fo, fl, el, ec, ke, kl, em, oe, be, pl, po, pb, wt, eb, lg, ro, fm, fL, ee, en, rfl, rfl, I⟩ := I
  have I0 := I
  obtain ⟨i1, i2, i3, i4, -⟩ := I
  unfold wpX_breaks
  rcases sn_text v1 with ⟨t, ht, rfl⟩ | ⟨h0, h1, h2⟩
  · obtain ⟨n, hn, hl⟩ := i3 t ht
    refine xs_text1 ht (br_f (by decide) ?_)
    rcases sn_text v2 with ⟨w, hw, rfl⟩ | ⟨h0, h1, h2⟩
    · rcases Nat.lt_or_ge w 1 with z | z
      · obtain rfl : w = 0 := by omega
        exact br_t rfl (x_findBreaks ht i4 hn hl (y_breaks ht hw i4 hn hl ⟨rfl, sc_mk I0⟩))
      · obtain rfl : w = 1 := by omega
        exact br_f (by decide) (br_t rfl (x_findBreaks ht i4 hn hl (y_breaks ht hw i4 hn hl ⟨rfl, sc_mk I0⟩)))
    · refine br_f h0 (br_f h1 ?_)
      unfold wpY_breaks
      exact ys_text1 ht (br_f (by decide) (ys_text0 h0 h1 (br_t rfl ⟨rfl, sc_mk I0⟩)))
  · refine xs_text0 h2 (br_t rfl ?_)
    unfold wpY_breaks
    exact ys_text0 h0 h1 (br_t rfl ⟨rfl, sc_mk I0⟩)
