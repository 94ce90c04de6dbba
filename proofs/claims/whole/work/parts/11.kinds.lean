/-! clusters and words: one pure picture for both sides -/
def sc_kd (ki tx : Nat → Int32) (t k : Nat) : Int32 := ki (tx (16 * t + k)).toNatClampNeg
def sc_cb (x y : Int32) : Int32 := if y = 2 then (if x = 1 then 1 else 0) else if x = 3 then (if y = 1 then 1 else 0) else 1
def sc_ca (g : Nat → Int32) : Nat → Nat
  | 0 => 0
  | k + 1 => if g (k + 1) = 2 then (if g k = 1 then k + 1 else sc_ca g k) else k + 1
def sc_kb (g : Nat → Int32) : Nat → Nat → Int32
  | 0, _ => -1
  | d + 1, i => if g i = 2 then sc_kb g d (i + 1) else g i
def sc_Jn (x y : Int32) : Prop := (x = 4 ∨ x = 5 ∨ x = 7) ∧ (y = 4 ∨ y = 5 ∨ y = 7)
def sc_Br (b m e : Int32) : Prop := m = 6 ∧ b = e ∧ (b = 4 ∨ b = 5)
def sc_Wd (w x y z : Int32) : Prop := ¬ sc_Jn x y ∧ ¬ sc_Br x y z ∧ ¬ sc_Br w x y
noncomputable def sc_b (P : Prop) : Int32 := @ite Int32 P (Classical.propDecidable P) 1 0
theorem sc_bt {P : Prop} (h : P) : sc_b P = 1 := by unfold sc_b; rw [if_pos h]
theorem sc_bf {P : Prop} (h : ¬ P) : sc_b P = 0 := by unfold sc_b; rw [if_neg h]
theorem sc_b0 {P : Prop} : sc_b P = 0 ↔ ¬ P := ⟨fun z h => by rw [sc_bt h] at z; exact absurd z (by decide), sc_bf⟩
noncomputable def sc_wb (g : Nat → Int32) (n p : Nat) : Int32 :=
  if g p = 2 then (if g (p - 1) = 1 then 1 else 0)
  else sc_b (sc_Wd (if sc_ca g (p - 1) = 0 then -1 else g (sc_ca g (sc_ca g (p - 1) - 1))) (g (sc_ca g (p - 1))) (g p) (sc_kb g (n - (p + 1)) (p + 1)))
theorem sc_ca_le (g : Nat → Int32) : ∀ k, sc_ca g k ≤ k := by
  intro k
  induction k with
  | zero => exact Nat.le_refl 0
  | succ k ih =>
    unfold sc_ca
    by_cases h : g (k + 1) = 2
    · rw [if_pos h]
      by_cases h1 : g k = 1
      · rw [if_pos h1]; omega
      · rw [if_neg h1]; omega
    · rw [if_neg h]; omega
section
variable {cc rl wl : Int32} {cl dt df ds ex lo uf us fi ki ef es di we cf cs cm tx le rr wk sh fo fl el ec ke kl em oe be pl po : Nat → Int32}
theorem x_kindAt {post : Int32 → Prop} {t k : Nat} (ht : t < 2) (hk : k < 16) (htx : sc_Chr tx) (h : post (sc_kd ki tx t k)) : wpX_kindAt post (cc, rl, wl, cl, dt, df, ds, ex, lo, uf, us, fi, ki, ef, es, di, we, cf, cs, cm, tx, le, rr, wk, sh, fo, fl, el, ec, ke, kl, em, oe, be, pl, po) (nI t) (nI k) := by
  have e : nI t * 16 + nI k = nI (16 * t + k) := by rw [sn_t16, nI_add]
  have c : (nI t * 16 + nI k).toNatClampNeg = 16 * t + k := by rw [e, nI_clamp (by omega)]
  exact ⟨pk_in (16 * t + k) 32 (by omega) e, htx _, by rw [c]; exact h⟩
theorem x_breaksCluster {post : Int32 → Prop} {t p : Nat} (ht : t < 2) (hp : p + 1 < 16) (htx : sc_Chr tx) (h : post (sc_cb (sc_kd ki tx t p) (sc_kd ki tx t (p + 1)))) : wpX_breaksCluster post (cc, rl, wl, cl, dt, df, ds, ex, lo, uf, us, fi, ki, ef, es, di, we, cf, cs, cm, tx, le, rr, wk, sh, fo, fl, el, ec, ke, kl, em, oe, be, pl, po) (nI t) (nI (p + 1)) := by
  unfold wpX_breaksCluster
  rw [nI_pred]
  refine x_kindAt ht (by omega) htx (x_kindAt ht hp htx ?_)
  unfold sc_cb at h
  refine br_c (fun a => br_c (fun b => ?_) (fun b => ?_)) (fun a => br_c (fun b => br_c (fun c => ?_) (fun c => ?_)) (fun b => ?_))
  · rw [if_pos a, if_pos b] at h; exact h
  · rw [if_pos a, if_neg b] at h; exact h
  · rw [if_neg a, if_pos b, if_pos c] at h; exact h
  · rw [if_neg a, if_pos b, if_neg c] at h; exact h
  · rw [if_neg a, if_neg b] at h; exact h
theorem x_ca_l {post : Int32 → Prop} {t : Nat} (ht : t < 2) (htx : sc_Chr tx) : ∀ k, k < 16 → post (nI (sc_ca (sc_kd ki tx t) k)) → wX_wordCharacterUpTo_2 post (nI t) cc rl wl cl dt df ds ex lo uf us fi ki ef es di we cf cs cm tx le rr wk sh fo fl el ec ke kl em oe be pl po (k + 1) (nI k) := by
  intro k
  induction k with
  | zero => exact fun hk h => br_t (by decide) h
  | succ k ih =>
    intro hk h
    unfold sc_ca at h
    refine br_f (nI_nle (by omega) (by omega)) (x_kindAt ht hk htx (br_c (fun a => ?_) (fun a => ?_)))
    · rw [nI_pred]
      refine x_kindAt ht (by omega) htx (br_c (fun b => ?_) (fun b => nm_r (pk_m1 k) (ih (by omega) ?_)))
      · rw [if_pos a, if_pos b] at h; exact h
      · rw [if_pos a, if_neg b] at h; exact h
    · rw [if_neg a] at h; exact h
theorem x_ca {post : Int32 → Prop} {t k : Nat} (ht : t < 2) (htx : sc_Chr tx) (hk : k < 16) (h : post (nI (sc_ca (sc_kd ki tx t) k))) : wpX_wordCharacterUpTo post (cc, rl, wl, cl, dt, df, ds, ex, lo, uf, us, fi, ki, ef, es, di, we, cf, cs, cm, tx, le, rr, wk, sh, fo, fl, el, ec, ke, kl, em, oe, be, pl, po) (nI t) (nI k) := ⟨k + 1, x_ca_l ht htx k hk h⟩
theorem x_kb_l {post : Int32 → Prop} {t n : Nat} (ht : t < 2) (htx : sc_Chr tx) (hn : n ≤ 16) (hl : le t = nI n) : ∀ d i, i + d = n → post (sc_kb (sc_kd ki tx t) d i) → wX_kindBehind_4 post (nI t) cc rl wl cl dt df ds ex lo uf us fi ki ef es di we cf cs cm tx le rr wk sh fo fl el ec ke kl em oe be pl po (d + 1) (nI i) := by
  intro d
  have hL : le (nI t).toNatClampNeg = nI n := by rw [nI_clamp (by omega), hl]
  induction d with
  | zero => exact fun i hi h => ⟨vp_in_nI ht (by decide), br_t (by rw [hL]; exact nI_le (by omega) (by omega)) h⟩
  | succ d ih =>
    intro i hi h
    unfold sc_kb at h
    refine ⟨vp_in_nI ht (by decide), br_f (by rw [hL]; exact nI_ge (by omega) (by omega)) (x_kindAt ht (by omega) htx (br_c (fun a => nm_r (nI_1 i) (ih (i + 1) (by omega) ?_)) (fun a => ?_)))⟩
    · rw [if_pos a] at h; exact h
    · rw [if_neg a] at h; exact h
theorem x_kb {post : Int32 → Prop} {t n p : Nat} (ht : t < 2) (htx : sc_Chr tx) (hn : n ≤ 16) (hl : le t = nI n) (hp : p < n) (h : post (sc_kb (sc_kd ki tx t) (n - (p + 1)) (p + 1))) : wpX_kindBehind post (cc, rl, wl, cl, dt, df, ds, ex, lo, uf, us, fi, ki, ef, es, di, we, cf, cs, cm, tx, le, rr, wk, sh, fo, fl, el, ec, ke, kl, em, oe, be, pl, po) (nI t) (nI p) := by
  unfold wpX_kindBehind
  exact nm_r (nI_1 p) ⟨n - (p + 1) + 1, x_kb_l ht htx hn hl _ (p + 1) (by omega) h⟩
theorem x_joined {post : Int32 → Prop} {x y : Int32} (h1 : sc_Jn x y → post 1) (h0 : ¬ sc_Jn x y → post 0) : wpX_isJoined post (cc, rl, wl, cl, dt, df, ds, ex, lo, uf, us, fi, ki, ef, es, di, we, cf, cs, cm, tx, le, rr, wk, sh, fo, fl, el, ec, ke, kl, em, oe, be, pl, po) x y := by
  unfold sc_Jn at h1 h0
  unfold wpX_isJoined wX_isJoined_10 wX_isJoined_15 wX_isJoined_26 wX_isJoined_31
  dsimp only
  repeat' (refine br_c (fun _ => ?_) (fun _ => ?_))
  all_goals first | (refine h1 ?_; simp_all) | (refine h0 ?_; simp_all) | simp_all
theorem x_bridged {post : Int32 → Prop} {x y z : Int32} (h1 : sc_Br x y z → post 1) (h0 : ¬ sc_Br x y z → post 0) : wpX_isBridged post (cc, rl, wl, cl, dt, df, ds, ex, lo, uf, us, fi, ki, ef, es, di, we, cf, cs, cm, tx, le, rr, wk, sh, fo, fl, el, ec, ke, kl, em, oe, be, pl, po) x y z := by
  unfold sc_Br at h1 h0
  unfold wpX_isBridged
  dsimp only
  repeat' (refine br_c (fun _ => ?_) (fun _ => ?_))
  all_goals first | (refine h1 ?_; simp_all) | (refine h0 ?_; simp_all) | simp_all
theorem x_bw77 {post : Int32 → Prop} {t n p : Nat} {y x w : Int32} (ht : t < 2) (htx : sc_Chr tx) (hn : n ≤ 16) (hl : le t = nI n) (hp : p < n) (h : post (sc_b (sc_Wd w x y (sc_kb (sc_kd ki tx t) (n - (p + 1)) (p + 1))))) : wX_breaksWord_77 post (nI t) (nI p) y x w cc rl wl cl dt df ds ex lo uf us fi ki ef es di we cf cs cm tx le rr wk sh fo fl el ec ke kl em oe be pl po := by
  unfold wX_breaksWord_77
  refine x_kb ht htx hn hl hp (x_joined (fun j => br_f (by decide) ?_) (fun j => br_t rfl (x_bridged (fun b => br_f (by decide) ?_) (fun b => br_t rfl (x_bridged (fun b' => br_f (by decide) ?_) (fun b' => br_t rfl ?_))))))
  · rw [sc_bf (fun z => z.1 j)] at h; exact h
  · rw [sc_bf (fun z => z.2.1 b)] at h; exact h
  · rw [sc_bf (fun z => z.2.2 b')] at h; exact h
  · rw [sc_bt ⟨j, b, b'⟩] at h; exact h
theorem x_breaksWord {post : Int32 → Prop} {t n p : Nat} (ht : t < 2) (htx : sc_Chr tx) (hn : n ≤ 16) (hl : le t = nI n) (hp : p + 1 < n) (h : post (sc_wb (sc_kd ki tx t) n (p + 1))) : wpX_breaksWord post (cc, rl, wl, cl, dt, df, ds, ex, lo, uf, us, fi, ki, ef, es, di, we, cf, cs, cm, tx, le, rr, wk, sh, fo, fl, el, ec, ke, kl, em, oe, be, pl, po) (nI t) (nI (p + 1)) := by
  unfold wpX_breaksWord
  unfold sc_wb at h
  rw [Nat.add_sub_cancel] at h
  have hc := sc_ca_le (sc_kd ki tx t) p
  rw [nI_pred]
  refine x_kindAt ht (by omega) htx (br_c (fun a => x_kindAt ht (by omega) htx (br_c (fun b => ?_) (fun b => ?_))) (fun a => x_ca ht htx (by omega) (x_kindAt ht (by omega) htx ?_)))
  · rw [if_pos a, if_pos b] at h; exact h
  · rw [if_pos a, if_neg b] at h; exact h
  · rw [if_neg a] at h
    by_cases c0 : sc_ca (sc_kd ki tx t) p = 0
    · rw [if_pos c0] at h
      exact br_t (by rw [c0]; decide) (x_bw77 ht htx hn hl hp h)
    · rw [if_neg c0] at h
      obtain ⟨q, hq⟩ : ∃ q, sc_ca (sc_kd ki tx t) p = q + 1 := ⟨_, (Nat.succ_pred c0).symm⟩
      have hc2 := sc_ca_le (sc_kd ki tx t) q
      refine br_f (nI_nle (by omega) (by omega)) ?_
      rw [hq, Nat.add_sub_cancel] at h
      rw [hq, nI_pred]
      exact x_ca ht htx (by omega) (x_kindAt ht (by omega) htx (x_bw77 ht htx hn hl hp h))
end
section
variable {cc rl yn : Int32} {cl dt df pb lo uf us fi ki wt ef eb di ex cf cs cm lg tx le rr ro fm fL ee en ye lv se pg ou : Nat → Int32}
theorem y_kindAt {post : Int32 → Prop} {t k : Nat} (ht : t < 2) (hk : k < 16) (htx : sc_Chr tx) (h : post (sc_kd ki tx t k)) : wpY_kindAt post (cc, rl, yn, cl, dt, df, pb, lo, uf, us, fi, ki, wt, ef, eb, di, ex, cf, cs, cm, lg, tx, le, rr, ro, fm, fL, ee, en, ye, lv, se, pg, ou) (nI t) (nI k) := by
  have e : 16 * nI t + nI k = nI (16 * t + k) := sn_16 t k
  have c : (16 * nI t + nI k).toNatClampNeg = 16 * t + k := by rw [e, nI_clamp (by omega)]
  exact ⟨pk_in (16 * t + k) 32 (by omega) e, htx _, by rw [c]; exact h⟩
theorem y_ca_l {post : Int32 → Prop} {t : Nat} (ht : t < 2) (htx : sc_Chr tx) : ∀ k, k < 16 → post (nI (sc_ca (sc_kd ki tx t) k)) → wY_carrier_2 post (nI t) cc rl yn cl dt df pb lo uf us fi ki wt ef eb di ex cf cs cm lg tx le rr ro fm fL ee en ye lv se pg ou (k + 1) (nI k) := by
  intro k
  induction k with
  | zero => exact fun hk h => br_t (by decide) h
  | succ k ih =>
    intro hk h
    unfold sc_ca at h
    refine br_f (nI_nle (by omega) (by omega)) (y_kindAt ht hk htx (br_c (fun a => ?_) (fun a => ?_)))
    · rw [nI_pred]
      refine y_kindAt ht (by omega) htx (br_c (fun b => ?_) (fun b => nm_r (pk_m1 k) (ih (by omega) ?_)))
      · rw [if_pos a, if_pos b] at h; exact h
      · rw [if_pos a, if_neg b] at h; exact h
    · rw [if_neg a] at h; exact h
theorem y_ca {post : Int32 → Prop} {t k : Nat} (ht : t < 2) (htx : sc_Chr tx) (hk : k < 16) (h : post (nI (sc_ca (sc_kd ki tx t) k))) : wpY_carrier post (cc, rl, yn, cl, dt, df, pb, lo, uf, us, fi, ki, wt, ef, eb, di, ex, cf, cs, cm, lg, tx, le, rr, ro, fm, fL, ee, en, ye, lv, se, pg, ou) (nI t) (nI k) := ⟨k + 1, y_ca_l ht htx k hk h⟩
theorem y_wl {post : Int32 → Prop} {x : Int32} (h1 : x = 4 ∨ x = 5 → post 1) (h0 : ¬ (x = 4 ∨ x = 5) → post 0) : wpY_wordLike post x :=
  br_c (fun a => h1 (Or.inl a)) (fun a => br_c (fun b => h1 (Or.inr b)) (fun b => h0 (fun z => z.elim a b)))
theorem y_wb239 {post : Int32 → Prop} {x y w z : Int32} (hj : ¬ sc_Jn x y) (hb : ¬ sc_Br x y z) (h : post (sc_b (sc_Wd w x y z))) : wY_wordBreak_239 post x y w cc rl yn cl dt df pb lo uf us fi ki wt ef eb di ex cf cs cm lg tx le rr ro fm fL ee en ye lv se pg ou := by
  unfold wY_wordBreak_239
  refine y_wl (fun a => br_f (by decide) (br_c (fun b => br_c (fun c => ?_) (fun c => ?_)) (fun b => ?_))) (fun a => br_t rfl ?_)
  · rw [sc_bf (fun q => q.2.2 ⟨b, c, by rw [c]; exact a⟩)] at h; exact h
  · rw [sc_bt ⟨hj, hb, fun q => c q.2.1⟩] at h; exact h
  · rw [sc_bt ⟨hj, hb, fun q => b q.1⟩] at h; exact h
  · rw [sc_bt ⟨hj, hb, fun q => a (by rw [← q.2.1]; exact q.2.2)⟩] at h; exact h
theorem y_wb217 {post : Int32 → Prop} {x y w z : Int32} (hj : ¬ sc_Jn x y) (h : post (sc_b (sc_Wd w x y z))) : wY_wordBreak_217 post x y w z cc rl yn cl dt df pb lo uf us fi ki wt ef eb di ex cf cs cm lg tx le rr ro fm fL ee en ye lv se pg ou := by
  unfold wY_wordBreak_217
  refine y_wl (fun a => br_f (by decide) (br_c (fun b => br_c (fun c => ?_) (fun c => ?_)) (fun b => ?_))) (fun a => br_t rfl ?_)
  · rw [sc_bf (fun q => q.2.1 ⟨b, c.symm, a⟩)] at h; exact h
  · exact y_wb239 hj (fun q => c q.2.1.symm) h
  · exact y_wb239 hj (fun q => b q.1) h
  · exact y_wb239 hj (fun q => a q.2.2) h
theorem y_wb194 {post : Int32 → Prop} {x y w z : Int32} (hj : ¬ (x = 4 ∨ x = 5) ∨ ¬ (y = 4 ∨ y = 5 ∨ y = 7)) (h : post (sc_b (sc_Wd w x y z))) : wY_wordBreak_194 post x y w z cc rl yn cl dt df pb lo uf us fi ki wt ef eb di ex cf cs cm lg tx le rr ro fm fL ee en ye lv se pg ou := by
  unfold wY_wordBreak_194
  refine br_c (fun a => y_wl (fun b => br_f (by decide) ?_) (fun b => br_t rfl (br_c (fun c => ?_) (fun c => y_wb217 ?_ h)))) (fun a => y_wb217 ?_ h)
  · rw [sc_bf (fun q => q.1 ⟨Or.inr (Or.inr a), b.elim Or.inl (fun e => Or.inr (Or.inl e))⟩)] at h; exact h
  · rw [sc_bf (fun q => q.1 ⟨Or.inr (Or.inr a), Or.inr (Or.inr c)⟩)] at h; exact h
  · exact fun q => q.2.elim (fun e => b (Or.inl e)) (fun e => e.elim (fun e => b (Or.inr e)) c)
  · exact fun q => hj.elim (fun e => q.1.elim (fun f => e (Or.inl f)) (fun f => f.elim (fun f => e (Or.inr f)) a)) (fun e => e q.2)
theorem y_wb162 {post : Int32 → Prop} {t i : Nat} {y w z : Int32} (ht : t < 2) (htx : sc_Chr tx) (hi : i < 16) (h : post (sc_b (sc_Wd w (sc_kd ki tx t i) y z))) : wY_wordBreak_162 post (nI t) y (nI i) w z cc rl yn cl dt df pb lo uf us fi ki wt ef eb di ex cf cs cm lg tx le rr ro fm fL ee en ye lv se pg ou := by
  unfold wY_wordBreak_162
  refine y_kindAt ht hi htx (y_wl (fun a => br_f (by decide) (y_wl (fun b => br_f (by decide) ?_) (fun b => br_t rfl (br_c (fun c => ?_) (fun c => y_wb194 (Or.inr ?_) h))))) (fun a => br_t rfl (y_wb194 (Or.inl a) h)))
  · rw [sc_bf (fun q => q.1 ⟨a.elim Or.inl (fun e => Or.inr (Or.inl e)), b.elim Or.inl (fun e => Or.inr (Or.inl e))⟩)] at h; exact h
  · rw [sc_bf (fun q => q.1 ⟨a.elim Or.inl (fun e => Or.inr (Or.inl e)), Or.inr (Or.inr c)⟩)] at h; exact h
  · exact fun q => q.elim (fun e => b (Or.inl e)) (fun e => e.elim (fun e => b (Or.inr e)) c)
theorem y_wb138 {post : Int32 → Prop} {t n i j : Nat} {y w : Int32} (ht : t < 2) (htx : sc_Chr tx) (hn : n ≤ 16) (hl : le t = nI n) (hi : i < 16) (hj : j ≤ n) (h : post (sc_b (sc_Wd w (sc_kd ki tx t i) y (if j < n then sc_kd ki tx t j else -1)))) : wY_wordBreak_138 post (nI t) y (nI i) (nI j) w cc rl yn cl dt df pb lo uf us fi ki wt ef eb di ex cf cs cm lg tx le rr ro fm fL ee en ye lv se pg ou := by
  have hL : le (nI t).toNatClampNeg = nI n := by rw [nI_clamp (by omega), hl]
  refine ⟨vp_in_nI ht (by decide), ?_⟩
  rw [hL]
  by_cases c : j < n
  · rw [if_pos c] at h
    exact br_f (nI_ge c (by omega)) (y_kindAt ht (by omega) htx (y_wb162 ht htx hi h))
  · rw [if_neg c] at h
    exact br_t (nI_le (by omega) (by omega)) (y_wb162 ht htx hi h)
theorem y_wb94 {post : Int32 → Prop} {t n i : Nat} {y q : Int32} (ht : t < 2) (htx : sc_Chr tx) (hn : n ≤ 16) (hl : le t = nI n) :
    ∀ d j, j + d = n → (∀ j', j' ≤ n → (if j' < n then sc_kd ki tx t j' else -1) = sc_kb (sc_kd ki tx t) d j → wY_wordBreak_122 post (nI t) y (nI i) q (nI j') cc rl yn cl dt df pb lo uf us fi ki wt ef eb di ex cf cs cm lg tx le rr ro fm fL ee en ye lv se pg ou) → wY_wordBreak_94 post (nI t) y (nI i) q cc rl yn cl dt df pb lo uf us fi ki wt ef eb di ex cf cs cm lg tx le rr ro fm fL ee en ye lv se pg ou (d + 1) (nI j) := by
  have hL : le (nI t).toNatClampNeg = nI n := by rw [nI_clamp (by omega), hl]
  intro d
  induction d with
  | zero => exact fun j hj h => ⟨vp_in_nI ht (by decide), br_t (by rw [hL]; exact nI_le (by omega) (by omega)) (h j (by omega) (if_neg (by omega)))⟩
  | succ d ih =>
    intro j hj h
    unfold sc_kb at h
    refine ⟨vp_in_nI ht (by decide), br_f (by rw [hL]; exact nI_ge (by omega) (by omega)) (y_kindAt ht (by omega) htx (br_c (fun a => nm_r (nI_1 j) (ih (j + 1) (by omega) ?_)) (fun a => ?_)))⟩
    · rw [if_pos a] at h; exact h
    · rw [if_neg a] at h; exact h j (by omega) (if_pos (by omega))
theorem y_wb59 {post : Int32 → Prop} {t n p : Nat} {y : Int32} (ht : t < 2) (htx : sc_Chr tx) (hn : n ≤ 16) (hl : le t = nI n) (hp : p + 1 < n)
    (h : post (sc_b (sc_Wd (if sc_ca (sc_kd ki tx t) p = 0 then -1 else sc_kd ki tx t (sc_ca (sc_kd ki tx t) (sc_ca (sc_kd ki tx t) p - 1))) (sc_kd ki tx t (sc_ca (sc_kd ki tx t) p)) y (sc_kb (sc_kd ki tx t) (n - (p + 1 + 1)) (p + 1 + 1))))) : wY_wordBreak_59 post (nI t) (nI (p + 1)) y cc rl yn cl dt df pb lo uf us fi ki wt ef eb di ex cf cs cm lg tx le rr ro fm fL ee en ye lv se pg ou := by
  unfold wY_wordBreak_59
  have hc := sc_ca_le (sc_kd ki tx t) p
  rw [nI_pred]
  refine y_ca ht htx (by omega) ?_
  by_cases c0 : sc_ca (sc_kd ki tx t) p = 0
  · rw [if_pos c0] at h
    refine br_t (by rw [c0]; decide) (nm_r (nI_1 _) ⟨_, y_wb94 ht htx hn hl (n - (p + 1 + 1)) (p + 1 + 1) (by omega) (fun j hj e => br_f (by decide) (y_wb138 ht htx hn hl (by omega) hj ?_))⟩)
    rw [e]; exact h
  · rw [if_neg c0] at h
    obtain ⟨q, hq⟩ : ∃ q, sc_ca (sc_kd ki tx t) p = q + 1 := ⟨_, (Nat.succ_pred c0).symm⟩
    have hc2 := sc_ca_le (sc_kd ki tx t) q
    refine br_f (nI_nle (by omega) (by omega)) ?_
    rw [hq, Nat.add_sub_cancel] at h
    rw [hq, nI_pred]
    refine y_ca ht htx (by omega) (nm_r (nI_1 _) ⟨_, y_wb94 ht htx hn hl (n - (p + 1 + 1)) (p + 1 + 1) (by omega) (fun j hj e => br_t (nI_pos' (by omega)) (y_kindAt ht (by omega) htx (y_wb138 ht htx hn hl (by omega) hj ?_)))⟩)
    rw [e]; exact h
end
