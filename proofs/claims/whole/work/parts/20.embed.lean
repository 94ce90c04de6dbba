/-! embeddings: the same stores on both sides -/
theorem sc_uu (f : Nat → Int32) (i : Nat) (x y : Int32) : upd (upd f i x) i y = upd f i y := by
  funext j
  unfold upd
  by_cases e : j = i
  · rw [if_pos e, if_pos e]
  · rw [if_neg e, if_neg e, if_neg e]
theorem sc_par {c : Nat} (hc : c < 2 ^ 31) : nI c - nI c / 2 * 2 = nI (c % 2) := pk_rem hc (by decide) (by decide)
theorem sc_par2 {x : Int32} {N : Nat} (hN : N < 2 ^ 31) (h : vp_in x N) : x - x / 2 * 2 = 0 ∨ x - x / 2 * 2 = 1 := by
  obtain ⟨c, hc, rfl⟩ := vp_in_of h hN
  rw [sc_par (by omega)]
  rcases Nat.mod_two_eq_zero_or_one c with e | e
  · rw [e]; exact Or.inl rfl
  · rw [e]; exact Or.inr rfl
def sc_inn (x d : Int32) : Int32 := if x - x / 2 * 2 = 1 then (if d = 4 then x + 2 else x + 1) else (if d = 4 then x + 1 else x + 2)
def sc_in (x d : Int32) : Int32 := if sc_inn x d ≤ 6 then sc_inn x d else x
theorem sc_in7 {x : Int32} (h : vp_in x 7) (d : Int32) : vp_in (sc_in x d) 7 := by
  unfold sc_in
  by_cases z : sc_inn x d ≤ 6
  · rw [if_pos z]
    obtain ⟨c, hc, rfl⟩ := vp_in_of h (by decide)
    have key : ∀ y, y = sc_inn (nI c) d → y ≤ 6 → vp_in y 7 := by
      intro y ey y6
      have : y = nI (c + 1) ∨ y = nI (c + 2) := by
        rw [ey]
        unfold sc_inn
        split <;> split
        · exact Or.inr (nI_add c 2)
        · exact Or.inl (nI_1 c)
        · exact Or.inl (nI_1 c)
        · exact Or.inr (nI_add c 2)
      rcases this with e | e
      · rw [e] at y6 ⊢
        exact vp_in_nI (by have := (nI_leI (b := 6) (by omega) (by decide)).mp y6; omega) (by decide)
      · rw [e] at y6 ⊢
        exact vp_in_nI (by have := (nI_leI (b := 6) (by omega) (by decide)).mp y6; omega) (by decide)
    exact key _ rfl z
  · rw [if_neg z]; exact h
def sc_b3 (d : Int32) : Int32 := if 3 ≤ d then 3 else d
def sc_dr (di tx : Nat → Int32) (t k : Nat) : Int32 := di (tx (16 * t + k)).toNatClampNeg
def sc_eb (dr : Nat → Int32) : Nat → Nat → Int32 → Nat → (Nat → Int32) → (Nat → Int32) → (Nat → Int32) → (Nat → Int32) × (Nat → Int32) × (Nat → Int32)
  | 0, _, _, _, em, be, oe => (em, be, oe)
  | d + 1, i, x, k, em, be, oe =>
    if dr i = 4 ∨ dr i = 5 then sc_eb dr d (i + 1) (sc_in x (dr i)) (k + 1) (upd em i x) (upd be i (sc_b3 (dr i))) (upd oe k x)
    else if dr i = 6 ∧ 0 < k then sc_eb dr d (i + 1) (oe (k - 1)) (k - 1) (upd em i (oe (k - 1))) (upd be i (sc_b3 (dr i))) oe
    else sc_eb dr d (i + 1) x k (upd em i x) (upd be i (sc_b3 (dr i))) oe
theorem sc_b34 {d : Int32} (h : vp_in d 7) : vp_in (sc_b3 d) 4 := by
  obtain ⟨c, hc, rfl⟩ := vp_in_of h (by decide)
  unfold sc_b3
  by_cases z : (3 : Int32) ≤ nI c
  · rw [if_pos z]; exact vp_in_nI (n := 3) (by decide) (by decide)
  · rw [if_neg z]
    have : ¬ 3 ≤ c := fun y => z (nI_le (a := 3) y (by omega))
    exact vp_in_nI (by omega) (by decide)
theorem sc_ebP {dr : Nat → Int32} (hd : ∀ i, vp_in (dr i) 7) {N : Nat} : ∀ d i x k em be oe, i + d = N → vp_in x 7 → (∀ j, j < k → vp_in (oe j) 7) → (∀ j, j < i → vp_in (em j) 7 ∧ vp_in (be j) 4) →
    ∀ j, j < N → vp_in ((sc_eb dr d i x k em be oe).1 j) 7 ∧ vp_in ((sc_eb dr d i x k em be oe).2.1 j) 4 := by
  intro d
  induction d with
  | zero => intro i x k em be oe hi hx ho hj j hjn; exact hj j (by omega)
  | succ d ih =>
    intro i x k em be oe hi hx ho hj
    have stp : ∀ y, vp_in y 7 → ∀ j, j < i + 1 → vp_in (upd em i y j) 7 ∧ vp_in (upd be i (sc_b3 (dr i)) j) 4 := by
      intro y hy j hj1
      by_cases e : j = i
      · rw [e, pk_us, pk_us]; exact ⟨hy, sc_b34 (hd i)⟩
      · rw [pk_un e, pk_un e]; exact hj j (by omega)
    unfold sc_eb
    split
    · refine ih (i + 1) _ (k + 1) _ _ _ (by omega) (sc_in7 hx _) ?_ (stp x hx)
      intro j hjk
      by_cases e : j = k
      · rw [e, pk_us]; exact hx
      · rw [pk_un e]; exact ho j (by omega)
    · split
      · rename_i z
        exact ih (i + 1) _ (k - 1) _ _ _ (by omega) (ho _ (by omega)) (fun j hjk => ho j (by omega)) (stp _ (ho _ (by omega)))
      · exact ih (i + 1) x k _ _ _ (by omega) hx ho (stp x hx)
section
variable {cc rl wl : Int32} {cl dt df ds ex lo uf us fi ki ef es di we cf cs cm tx le rr wk sh fo fl el ec ke kl em oe be pl po : Nat → Int32}
theorem x_inner {post : Int32 → Prop} {x d : Int32} (hx : vp_in x 7) (h : post (sc_in x d)) : wpX_innerEmbedding post (cc, rl, wl, cl, dt, df, ds, ex, lo, uf, us, fi, ki, ef, es, di, we, cf, cs, cm, tx, le, rr, wk, sh, fo, fl, el, ec, ke, kl, em, oe, be, pl, po) x d := by
  have fin : ∀ y, y = sc_inn x d → wX_innerEmbedding_40 post x y cc rl wl cl dt df ds ex lo uf us fi ki ef es di we cf cs cm tx le rr wk sh fo fl el ec ke kl em oe be pl po := by
    intro y ey
    unfold sc_in at h
    rw [← ey] at h
    refine br_c (fun a => ?_) (fun a => ?_)
    · rw [if_pos a] at h; exact h
    · rw [if_neg a] at h; exact h
  unfold wpX_innerEmbedding
  refine br_c (fun a => ⟨by decide, br_c (fun b => br_t rfl (fin _ ?_)) (fun b => br_f (by decide) (fin _ ?_))⟩) (fun a => ⟨by decide, br_c (fun b => br_f (by decide) (fin _ ?_)) (fun b => br_t rfl (fin _ ?_))⟩)
  · unfold sc_inn; rw [if_pos b, if_pos a]
  · unfold sc_inn; rw [if_neg b, if_pos a]
  · unfold sc_inn; rw [if_pos b, if_neg a]
  · unfold sc_inn; rw [if_neg b, if_neg a]
theorem x_emb_l {post : SX → Prop} {t n : Nat} (ht : t < 2) (htx : sc_Chr tx) (hn : n ≤ 16) (hl : le t = nI n) :
    ∀ (d i k : Nat) (x : Int32) (em be oe : Nat → Int32), i + d = n → k ≤ i → vp_in x 7 → (∀ j, j < k → vp_in (oe j) 7) →
    post (cc, rl, wl, cl, dt, df, ds, ex, lo, uf, us, fi, ki, ef, es, di, we, cf, cs, cm, tx, le, rr, wk, sh, fo, fl, el, ec, ke, kl, (sc_eb (sc_dr di tx t) d i x k em be oe).1, (sc_eb (sc_dr di tx t) d i x k em be oe).2.2, (sc_eb (sc_dr di tx t) d i x k em be oe).2.1, pl, po) →
    wX_findEmbeddings_8 post (nI t) cc rl wl (d + 1) x (nI k) (nI i) cl dt df ds ex lo uf us fi ki ef es di we cf cs cm tx le rr wk sh fo fl el ec ke kl em oe be pl po := by
  have hL : le (nI t).toNatClampNeg = nI n := by rw [nI_clamp (by omega), hl]
  intro d
  induction d with
  | zero => exact fun i k x em be oe hi hk hx ho h => ⟨vp_in_nI ht (by decide), br_t (by rw [hL]; exact nI_le (by omega) (by omega)) h⟩
  | succ d ih =>
    intro i k x em be oe hi hk hx ho h
    have e : nI t * 16 + nI i = nI (16 * t + i) := by rw [sn_t16, nI_add]
    have c : (nI t * 16 + nI i).toNatClampNeg = 16 * t + i := by rw [e, nI_clamp (by omega)]
    have ci : (nI i).toNatClampNeg = i := nI_clamp (by omega)
    have ck : (nI k).toNatClampNeg = k := nI_clamp (by omega)
    have vi : vp_in (nI i) 16 := vp_in_nI (by omega) (by decide)
    have step : ∀ z, z = sc_b3 (sc_dr di tx t i) → wX_findEmbeddings_64 post (wX_findEmbeddings_8 post (nI t) cc rl wl (d + 1)) (nI t) x (nI k) (nI i) (sc_dr di tx t i) z (nI i) cc rl wl cl dt df ds ex lo uf us fi ki ef es di we cf cs cm tx le rr wk sh fo fl el ec ke kl (upd em i x) oe be pl po := by
      intro z ez
      have beg : (sc_dr di tx t i = 4 ∨ sc_dr di tx t i = 5) → wX_findEmbeddings_77 post (wX_findEmbeddings_8 post (nI t) cc rl wl (d + 1)) (nI t) x (nI k) (nI i) (sc_dr di tx t i) cc rl wl cl dt df ds ex lo uf us fi ki ef es di we cf cs cm tx le rr wk sh fo fl el ec ke kl (upd em i x) oe (upd be i z) pl po := by
        intro q
        unfold sc_eb at h
        rw [if_pos q, ← ez] at h
        refine ⟨vp_in_nI (by omega) (by decide), nm_r (e' := upd oe k x) (by rw [ck]) (nm_r (nI_1 k) (x_inner hx (nm_r (nI_1 i) (ih (i + 1) (k + 1) _ _ _ _ (by omega) (by omega) (sc_in7 hx _) ?_ h))))⟩
        intro j hj
        by_cases e : j = k
        · rw [e, pk_us]; exact hx
        · rw [pk_un e]; exact ho j (by omega)
      refine ⟨vi, nm_r (e' := upd be i z) (by rw [ci]) (br_c (fun a => beg (Or.inl a)) (fun a => br_c (fun b => beg (Or.inr b)) (fun b => br_c (fun q => ?_) (fun q => ?_))))⟩
      · unfold sc_eb at h
        rw [if_neg (fun w => w.elim a b), ← ez] at h
        cases k with
        | zero =>
          rw [if_neg (fun w => absurd w.2 (by omega))] at h
          exact br_t (by decide) (nm_r (nI_1 i) (ih (i + 1) 0 _ _ _ _ (by omega) (by omega) hx (fun j hj => absurd hj (by omega)) h))
        | succ k =>
          rw [if_pos ⟨q, by omega⟩, Nat.add_sub_cancel] at h
          refine br_f (nI_nle (by omega) (by omega)) (nm_r (pk_m1 k) ⟨vp_in_nI (by omega) (by decide), nm_r (e' := oe k) (by rw [nI_clamp (by omega)]) ⟨vi, nm_r (e' := upd em i (oe k)) (by rw [ci, sc_uu]) (nm_r (nI_1 i) (ih (i + 1) k _ _ _ _ (by omega) (by omega) (ho k (by omega)) (fun j hj => ho j (by omega)) h))⟩⟩)
      · unfold sc_eb at h
        rw [if_neg (fun w => w.elim a b), if_neg (fun w => q w.1), ← ez] at h
        exact nm_r (nI_1 i) (ih (i + 1) k _ _ _ _ (by omega) (by omega) hx ho h)
    refine ⟨vp_in_nI ht (by decide), br_f (by rw [hL]; exact nI_ge (by omega) (by omega)) ⟨pk_in (16 * t + i) 32 (by omega) e, htx _, nm_r (e' := sc_dr di tx t i) (by rw [c]; rfl) ⟨vi, nm_r (e' := upd em i x) (by rw [ci]) (br_c (fun a => step _ ?_) (fun a => step _ ?_))⟩⟩⟩
    · unfold sc_b3; rw [if_pos a]
    · unfold sc_b3; rw [if_neg a]
end
section
variable {cc rl yn : Int32} {cl dt df pb lo uf us fi ki wt ef eb di ex cf cs cm lg tx le rr ro fm fL ee en ye lv se pg ou : Nat → Int32}
theorem sc_six (x : Int32) : (¬ 6 < x) ↔ x ≤ 6 := Int32.not_lt
theorem y_117 {post : SY → Prop} {J : _} {p1 x : Int32} {k i : Nat} {a : Int32} {d : Int32} (e : x + a = sc_inn x d) (h : J (sc_in x d) (nI k) (nI (i + 1)) cl dt df pb lo uf us fi ki wt ef eb di ex cf cs cm lg tx le rr ro fm fL ee en ye lv se pg ou) : wY_embed_117 post J p1 x (nI k) (nI i) a x cc rl yn cl dt df pb lo uf us fi ki wt ef eb di ex cf cs cm lg tx le rr ro fm fL ee en ye lv se pg ou := by
  unfold sc_in at h
  refine nm_r e (br_c (fun q => nm_r (nI_1 i) ?_) (fun q => nm_r (nI_1 i) ?_))
  · rw [if_neg (Int32.not_le.mpr q)] at h; exact h
  · rw [if_pos (Int32.not_lt.mp q)] at h; exact h
theorem y_emb_l {post : SY → Prop} {t n : Nat} (ht : t < 2) (htx : sc_Chr tx) (hdi : ∀ i, vp_in (di i) 7) (hn : n ≤ 16) (hl : le t = nI n) :
    ∀ (d i k : Nat) (x : Int32) (ye se ou : Nat → Int32), i + d = n → k ≤ i → vp_in x 7 → (∀ j, j < k → vp_in (ou j) 7) →
    post (cc, rl, yn, cl, dt, df, pb, lo, uf, us, fi, ki, wt, ef, eb, di, ex, cf, cs, cm, lg, tx, le, rr, ro, fm, fL, ee, en, (sc_eb (sc_dr di tx t) d i x k ye se ou).1, lv, (sc_eb (sc_dr di tx t) d i x k ye se ou).2.1, pg, (sc_eb (sc_dr di tx t) d i x k ye se ou).2.2) →
    wY_embed_8 post (nI t) cc rl yn (d + 1) x (nI k) (nI i) cl dt df pb lo uf us fi ki wt ef eb di ex cf cs cm lg tx le rr ro fm fL ee en ye lv se pg ou := by
  have hL : le (nI t).toNatClampNeg = nI n := by rw [nI_clamp (by omega), hl]
  intro d
  induction d with
  | zero => exact fun i k x ye se ou hi hk hx ho h => ⟨vp_in_nI ht (by decide), br_t (by rw [hL]; exact nI_le (by omega) (by omega)) h⟩
  | succ d ih =>
    intro i k x ye se ou hi hk hx ho h
    have e : 16 * nI t + nI i = nI (16 * t + i) := sn_16 t i
    have c : (16 * nI t + nI i).toNatClampNeg = 16 * t + i := by rw [e, nI_clamp (by omega)]
    have ci : (nI i).toNatClampNeg = i := nI_clamp (by omega)
    have ck : (nI k).toNatClampNeg = k := nI_clamp (by omega)
    have vi : vp_in (nI i) 16 := vp_in_nI (by omega) (by decide)
    -- the stores at one place, for the embedding x' that holds there
    have step : ∀ (x' : Int32) (k' : Nat), (∀ z, z = sc_b3 (sc_dr di tx t i) → wY_embed_77 post (wY_embed_8 post (nI t) cc rl yn (d + 1)) (nI t) x' (nI k') (nI i) (sc_dr di tx t i) z (nI i) cc rl yn cl dt df pb lo uf us fi ki wt ef eb di ex cf cs cm lg tx le rr ro fm fL ee en (upd ye i x') lv se pg ou) → wY_embed_51 post (wY_embed_8 post (nI t) cc rl yn (d + 1)) (nI t) x' (nI k') (nI i) (sc_dr di tx t i) cc rl yn cl dt df pb lo uf us fi ki wt ef eb di ex cf cs cm lg tx le rr ro fm fL ee en ye lv se pg ou := by
      intro x' k' hz
      refine ⟨vi, nm_r (e' := upd ye i x') (by rw [ci]) (br_c (fun a => hz _ ?_) (fun a => hz _ ?_))⟩
      · unfold sc_b3
        by_cases q : 3 ≤ sc_dr di tx t i
        · rw [if_pos q]; exact Int32.le_antisymm a q
        · rw [if_neg q]
      · unfold sc_b3; rw [if_pos (Int32.le_of_lt (Int32.not_le.mp a))]
    refine ⟨vp_in_nI ht (by decide), br_f (by rw [hL]; exact nI_ge (by omega) (by omega)) ⟨pk_in (16 * t + i) 32 (by omega) e, htx _, ?_⟩⟩
    rw [c]
    show (sc_dr di tx t i = 6 → _) ∧ (¬ sc_dr di tx t i = 6 → _)
    unfold sc_eb at h
    refine br_c (fun q => ?_) (fun q => step x k (fun z ez => ?_))
    · have n4 : ¬ sc_dr di tx t i = 4 := by rw [q]; decide
      have n5 : ¬ sc_dr di tx t i = 5 := by rw [q]; decide
      rw [if_neg (fun w => w.elim n4 n5)] at h
      cases k with
      | zero =>
        rw [if_neg (fun w => absurd w.2 (by omega))] at h
        refine br_t (by decide) (step x 0 (fun z ez => ⟨vi, nm_r (e' := upd se i z) (by rw [ci]) (br_f n4 (br_f n5 (nm_r (nI_1 i) (ih (i + 1) 0 _ _ _ _ (by omega) (by omega) hx (fun j hj => absurd hj (by omega)) ?_))))⟩))
        rw [ez]; exact h
      | succ k =>
        rw [if_pos ⟨q, by omega⟩, Nat.add_sub_cancel] at h
        refine br_f (nI_nle (by omega) (by omega)) (nm_r (pk_m1 k) ⟨vp_in_nI (by omega) (by decide), nm_r (e' := ou k) (by rw [nI_clamp (by omega)]) (step (ou k) k (fun z ez => ⟨vi, nm_r (e' := upd se i z) (by rw [ci]) (br_f n4 (br_f n5 (nm_r (nI_1 i) (ih (i + 1) k _ _ _ _ (by omega) (by omega) (ho k (by omega)) (fun j hj => ho j (by omega)) ?_))))⟩))⟩)
        rw [ez]; exact h
    · have beg : (sc_dr di tx t i = 4 ∨ sc_dr di tx t i = 5) → wY_embed_90 post (wY_embed_8 post (nI t) cc rl yn (d + 1)) (nI t) x (nI k) (nI i) (sc_dr di tx t i) cc rl yn cl dt df pb lo uf us fi ki wt ef eb di ex cf cs cm lg tx le rr ro fm fL ee en (upd ye i x) lv (upd se i z) pg ou := by
        intro w
        rw [if_pos w, ← ez] at h
        have ho' : ∀ j, j < k + 1 → vp_in (upd ou k x j) 7 := by
          intro j hj
          by_cases e : j = k
          · rw [e, pk_us]; exact hx
          · rw [pk_un e]; exact ho j (by omega)
        have g := ih (i + 1) (k + 1) (sc_in x (sc_dr di tx t i)) (upd ye i x) (upd se i z) (upd ou k x) (by omega) (by omega) (sc_in7 hx _) ho' h
        refine ⟨vp_in_nI (by omega) (by decide), nm_r (e' := upd ou k x) (by rw [ck]) (nm_r (nI_1 k) ⟨by decide, ?_⟩)⟩
        have pr := sc_par2 (by decide) hx
        rcases w with w | w
        · rw [show sc_dr di tx t i - 4 = 0 by rw [w]; decide]
          refine br_c (fun a => y_117 (d := sc_dr di tx t i) ?_ g) (fun a => y_117 (d := sc_dr di tx t i) ?_ g)
          · unfold sc_inn
            rw [if_neg (by rw [a]; decide), if_pos w]
          · unfold sc_inn
            rw [if_pos (pr.elim (fun z => absurd z a) id), if_pos w]
        · rw [show sc_dr di tx t i - 4 = 1 by rw [w]; decide]
          refine br_c (fun a => y_117 (d := sc_dr di tx t i) ?_ g) (fun a => y_117 (d := sc_dr di tx t i) ?_ g)
          · unfold sc_inn
            rw [if_pos a, if_neg (by rw [w]; decide)]
          · unfold sc_inn
            rw [if_neg a, if_neg (by rw [w]; decide)]
      refine ⟨vi, nm_r (e' := upd se i z) (by rw [ci]) (br_c (fun a => beg (Or.inl a)) (fun a => br_c (fun b => beg (Or.inr b)) (fun b => nm_r (nI_1 i) (ih (i + 1) k _ _ _ _ (by omega) (by omega) hx ho ?_))))⟩
      rw [if_neg (fun w => w.elim a b), if_neg (fun w => q w.1), ← ez] at h
      exact h
end
