/-! composition -/
def sc_pr : Nat → Int32
  | 0 => -1
  | k + 1 => nI k
theorem sc_prS (k : Nat) : nI k - 1 = sc_pr k := by
  cases k with
  | zero => decide
  | succ k => exact nI_pred k
theorem sc_prA (k : Nat) : nI k + (-1) = sc_pr k := by
  cases k with
  | zero => decide
  | succ k => exact pk_m1 k
def sc_lz (g : Nat → Int32) : Nat → Int32
  | 0 => -1
  | k + 1 => if g k = 0 then nI k else sc_lz g k
def sc_ol (g : Nat → Int32) (c : Int32) : Nat → Prop
  | 0 => True
  | k + 1 => g k = 0 ∨ (g k < c ∧ sc_ol g c k)
theorem sc_lzR (g : Nat → Int32) : ∀ k, sc_lz g k = -1 ∨ ∃ s, s < k ∧ sc_lz g k = nI s := by
  intro k
  induction k with
  | zero => exact Or.inl rfl
  | succ k ih =>
    unfold sc_lz
    by_cases h : g k = 0
    · rw [if_pos h]; exact Or.inr ⟨k, by omega, rfl⟩
    · rw [if_neg h]
      exact ih.elim Or.inl (fun ⟨s, hs, e⟩ => Or.inr ⟨s, by omega, e⟩)
theorem sc_lzO {g : Nat → Int32} {c : Int32} {s : Nat} (hs : s < 2 ^ 31) : ∀ k, k < 2 ^ 31 → sc_lz g k = nI s → (sc_ol g c k ↔ ∀ j, s < j → j < k → g j < c) := by
  intro k
  induction k with
  | zero => intro _ h; exact absurd h.symm (sc_m1 s hs)
  | succ k ih =>
    intro hk h
    unfold sc_lz at h
    by_cases h0 : g k = 0
    · rw [if_pos h0] at h
      have : k = s := (nI_eq (by omega) hs).mp h
      exact ⟨fun _ j h1 h2 => absurd h1 (by omega), fun _ => Or.inl h0⟩
    · rw [if_neg h0] at h
      have ih' := ih (by omega) h
      constructor
      · intro z j h1 h2
        have z' := z.elim (fun w => absurd w h0) id
        by_cases e : j = k
        · rw [e]; exact z'.1
        · exact ih'.mp z'.2 j h1 (by omega)
      · intro z
        have sk : s < k := by
          rcases sc_lzR g k with e | ⟨s', hs', e⟩
          · exact absurd (h.symm.trans e) (sc_m1 s hs)
          · have := (nI_eq hs (by omega)).mp (h.symm.trans e); omega
        exact Or.inr ⟨z k sk (by omega), ih'.mpr (fun j h1 h2 => z j h1 (by omega))⟩
def sc_co (dt df ds ex : Nat → Int32) (s x : Int32) : Nat → Nat → Int32
  | 0, _ => -1
  | d + 1, i => if dt i = 1 ∧ ex i = 0 ∧ df i = s ∧ ds i = x then nI i else sc_co dt df ds ex s x d (i + 1)
theorem sc_coR (dt df ds ex : Nat → Int32) (s x : Int32) : ∀ d i, sc_co dt df ds ex s x d i = -1 ∨ ∃ j, j < i + d ∧ sc_co dt df ds ex s x d i = nI j := by
  intro d
  induction d with
  | zero => exact fun i => Or.inl rfl
  | succ d ih =>
    intro i
    unfold sc_co
    by_cases h : dt i = 1 ∧ ex i = 0 ∧ df i = s ∧ ds i = x
    · rw [if_pos h]; exact Or.inr ⟨i, by omega, rfl⟩
    · rw [if_neg h]
      exact (ih (i + 1)).elim Or.inl (fun ⟨j, hj, e⟩ => Or.inr ⟨j, by omega, e⟩)
def sc_g (cl : Nat → Int32) (l : List Int32) (i : Nat) : Int32 := cl (sc_at l i).toNatClampNeg
noncomputable def sc_cs (cl dt df ds ex : Nat → Int32) (pre : List Int32) (x : Int32) : List Int32 :=
  @ite _ (sc_lz (sc_g cl pre) pre.length = -1 ∨ sc_co dt df ds ex (sc_at pre (sc_lz (sc_g cl pre) pre.length).toNatClampNeg) x 48 0 = -1 ∨ ¬ sc_ol (sc_g cl pre) (cl x.toNatClampNeg) pre.length) (Classical.propDecidable _)
    (pre ++ [x]) (pre.set (sc_lz (sc_g cl pre) pre.length).toNatClampNeg (sc_co dt df ds ex (sc_at pre (sc_lz (sc_g cl pre) pre.length).toNatClampNeg) x 48 0))
noncomputable def sc_cm (cl dt df ds ex : Nat → Int32) : List Int32 → List Int32 → List Int32
  | pre, [] => pre
  | pre, x :: rest => sc_cm cl dt df ds ex (sc_cs cl dt df ds ex pre x) rest
theorem sc_at_set : ∀ (l : List Int32) (i : Nat) (c : Int32) (j : Nat), j < l.length → sc_at (l.set i c) j = if j = i then c else sc_at l j
  | [], _, _, _, h => absurd h (Nat.not_lt_zero _)
  | x :: l, 0, c, 0, _ => rfl
  | x :: l, 0, c, j + 1, _ => rfl
  | x :: l, i + 1, c, 0, _ => rfl
  | x :: l, i + 1, c, j + 1, h => by
    show sc_at (l.set i c) j = if j + 1 = i + 1 then c else sc_at l j
    rw [sc_at_set l i c j (Nat.lt_of_succ_lt_succ h)]
    by_cases e : j = i
    · rw [if_pos e, if_pos (by omega)]
    · rw [if_neg e, if_neg (by omega)]
theorem sc_Rp_list {a : Nat → Int32} {l : List Int32} {i : Nat} {c : Int32} (h : sc_Rp a l) : sc_Rp (upd a i c) (l.set i c) := by
  intro j hj
  rw [List.length_set] at hj
  rw [sc_at_set l i c j hj]
  by_cases e : j = i
  · rw [if_pos e, e, pk_us]
  · rw [if_neg e, pk_un e]; exact h j hj
theorem sc_All_set {l : List Int32} {c : Int32} (h : sc_All l) (hc : vp_in c 48) (i : Nat) : sc_All (l.set i c) := by
  intro x hx
  rcases List.mem_or_eq_of_mem_set hx with z | z
  · exact h x z
  · rw [z]; exact hc
theorem sc_csA {cl dt df ds ex : Nat → Int32} {pre : List Int32} {x : Int32} (h : sc_All pre) (hx : vp_in x 48) : sc_All (sc_cs cl dt df ds ex pre x) := by
  unfold sc_cs
  split
  · exact sc_All_app.mpr ⟨h, sc_All_cons.mpr ⟨hx, sc_All_nil⟩⟩
  · rename_i z
    refine sc_All_set h ?_ _
    rcases sc_coR dt df ds ex (sc_at pre (sc_lz (sc_g cl pre) pre.length).toNatClampNeg) x 48 0 with e | ⟨j, hj, e⟩
    · exact absurd (Or.inr (Or.inl e)) z
    · rw [e]; exact vp_in_nI (by omega) (by decide)
theorem sc_csL (cl dt df ds ex : Nat → Int32) (pre : List Int32) (x : Int32) : (sc_cs cl dt df ds ex pre x).length ≤ pre.length + 1 := by
  unfold sc_cs
  split
  · simp
  · rw [List.length_set]; omega
theorem sc_cmA {cl dt df ds ex : Nat → Int32} : ∀ rest pre, sc_All pre → sc_All rest → sc_All (sc_cm cl dt df ds ex pre rest)
  | [], pre, h, _ => h
  | x :: rest, pre, h, h2 => sc_cmA rest _ (sc_csA h (sc_All_cons.mp h2).1) (sc_All_cons.mp h2).2
theorem sc_cmL {cl dt df ds ex : Nat → Int32} : ∀ rest pre, (sc_cm cl dt df ds ex pre rest).length ≤ pre.length + rest.length
  | [], pre => Nat.le_refl _
  | x :: rest, pre => by
    have h1 := sc_csL cl dt df ds ex pre x
    have h2 := sc_cmL (cl := cl) (dt := dt) (df := df) (ds := ds) (ex := ex) rest (sc_cs cl dt df ds ex pre x)
    show (sc_cm cl dt df ds ex (sc_cs cl dt df ds ex pre x) rest).length ≤ pre.length + (rest.length + 1)
    omega
theorem sc_pe {a : Nat → Int32} {l : List Int32} (h : sc_Rp a l) (hA : sc_All l) (cl : Nat → Int32) : ∀ j, j < l.length → vp_in (a j) 48 ∧ cl (a j).toNatClampNeg = sc_g cl l j := by
  intro j hj
  rw [h j hj]
  exact ⟨hA _ (sc_at_mem l j hj), rfl⟩
section
variable {cc rl wl : Int32} {cl dt df ds ex lo uf us fi ki ef es di we cf cs cm tx le rr wk sh fo fl el ec ke kl em oe be pl po : Nat → Int32}
theorem x_lz_l {post : Int32 → Prop} {g : Nat → Int32} : ∀ k, k ≤ 64 → (∀ j, j < k → vp_in (wk j) 48 ∧ cl (wk j).toNatClampNeg = g j) → post (sc_lz g k) → wX_lastOfClassZero_4 post cc rl wl cl dt df ds ex lo uf us fi ki ef es di we cf cs cm tx le rr wk sh fo fl el ec ke kl em oe be pl po (k + 1) (sc_pr k) := by
  intro k
  induction k with
  | zero => exact fun hk hg h => br_t (by decide) h
  | succ k ih =>
    intro hk hg h
    have c : (sc_pr (k + 1)).toNatClampNeg = k := nI_clamp (by omega)
    unfold sc_lz at h
    obtain ⟨g1, g2⟩ := hg k (by omega)
    refine br_f (nI_pos (by omega)) ⟨vp_in_nI (by omega) (by decide), by rw [c]; exact g1, ?_⟩
    rw [c, g2]
    refine br_c (fun a => ?_) (fun a => nm_r (sc_prA k) (ih (by omega) (fun j hj => hg j (by omega)) ?_))
    · rw [if_pos a] at h; exact h
    · rw [if_neg a] at h; exact h
theorem x_lz {post : Int32 → Prop} {g : Nat → Int32} {k : Nat} (hk : k ≤ 64) (hg : ∀ j, j < k → vp_in (wk j) 48 ∧ cl (wk j).toNatClampNeg = g j) (h : post (sc_lz g k)) : wpX_lastOfClassZero post (cc, rl, wl, cl, dt, df, ds, ex, lo, uf, us, fi, ki, ef, es, di, we, cf, cs, cm, tx, le, rr, wk, sh, fo, fl, el, ec, ke, kl, em, oe, be, pl, po) (nI k) := by
  unfold wpX_lastOfClassZero
  exact nm_r (sc_prS k) ⟨k + 1, x_lz_l k hk hg h⟩
theorem x_co_l {post : Int32 → Prop} {s x : Int32} : ∀ d i, i + d = 48 → post (sc_co dt df ds ex s x d i) → wX_findComposite_2 post s x cc rl wl cl dt df ds ex lo uf us fi ki ef es di we cf cs cm tx le rr wk sh fo fl el ec ke kl em oe be pl po (d + 1) (nI i) := by
  intro d
  induction d with
  | zero => exact fun i hi h => br_t (nI_le (a := 48) (by omega) (by omega)) h
  | succ d ih =>
    intro i hi h
    have v : vp_in (nI i) 48 := vp_in_nI (by omega) (by decide)
    have c : (nI i).toNatClampNeg = i := nI_clamp (by omega)
    unfold sc_co at h
    refine br_f (nI_ge (b := 48) (by omega) (by decide)) ⟨v, ?_⟩
    rw [c]
    refine br_c (fun p => ⟨v, br_c (fun q => ⟨v, br_c (fun r => ⟨v, br_c (fun z => ?_) (fun z => nm_r (nI_1 i) (ih (i + 1) (by omega) ?_))⟩) (fun r => nm_r (nI_1 i) (ih (i + 1) (by omega) ?_))⟩) (fun q => nm_r (nI_1 i) (ih (i + 1) (by omega) ?_))⟩) (fun p => nm_r (nI_1 i) (ih (i + 1) (by omega) ?_))
    · rw [if_pos ⟨p, q, r, z⟩] at h; exact h
    · rw [if_neg (fun w => z w.2.2.2)] at h; exact h
    · rw [if_neg (fun w => r w.2.2.1)] at h; exact h
    · rw [if_neg (fun w => q w.2.1)] at h; exact h
    · rw [if_neg (fun w => p w.1)] at h; exact h
theorem x_co {post : Int32 → Prop} {s x : Int32} (h : post (sc_co dt df ds ex s x 48 0)) : wpX_findComposite post (cc, rl, wl, cl, dt, df, ds, ex, lo, uf, us, fi, ki, ef, es, di, we, cf, cs, cm, tx, le, rr, wk, sh, fo, fl, el, ec, ke, kl, em, oe, be, pl, po) s x := ⟨49, x_co_l 48 0 (by omega) h⟩
theorem x_ob_l {post : Int32 → Prop} {g : Nat → Int32} {x : Int32} {s k : Nat} (hk : k ≤ 64) (hx : vp_in x 48) (hg : ∀ j, j < k → vp_in (wk j) 48 ∧ cl (wk j).toNatClampNeg = g j)
    (h1 : (∀ j, s < j → j < k → g j < cl x.toNatClampNeg) → post 1) (h0 : ¬ (∀ j, s < j → j < k → g j < cl x.toNatClampNeg) → post 0) :
    ∀ d i, i + d = k → (∀ j, s < j → j < i → g j < cl x.toNatClampNeg) → s < i → wX_isOpenBetween_5 post (nI k) x cc rl wl cl dt df ds ex lo uf us fi ki ef es di we cf cs cm tx le rr wk sh fo fl el ec ke kl em oe be pl po (d + 1) (nI i) := by
  intro d
  induction d with
  | zero => exact fun i hi hs hsi => br_t (nI_le (by omega) (by omega)) (h1 (fun j a b => hs j a (by omega)))
  | succ d ih =>
    intro i hi hs hsi
    obtain ⟨g1, g2⟩ := hg i (by omega)
    have c : (nI i).toNatClampNeg = i := nI_clamp (by omega)
    refine br_f (nI_ge (by omega) (by omega)) ⟨vp_in_nI (by omega) (by decide), by rw [c]; exact g1, hx, ?_⟩
    rw [c, g2]
    refine br_c (fun a => nm_r (nI_1 i) (ih (i + 1) (by omega) (fun j p q => ?_) (by omega))) (fun a => h0 (fun z => a (z i hsi (by omega))))
    by_cases e : j = i
    · rw [e]; exact a
    · exact hs j p (by omega)
theorem x_ob {post : Int32 → Prop} {g : Nat → Int32} {x : Int32} {s k : Nat} (hk : k ≤ 64) (hs : s < k) (hx : vp_in x 48) (hg : ∀ j, j < k → vp_in (wk j) 48 ∧ cl (wk j).toNatClampNeg = g j)
    (h1 : (∀ j, s < j → j < k → g j < cl x.toNatClampNeg) → post 1) (h0 : ¬ (∀ j, s < j → j < k → g j < cl x.toNatClampNeg) → post 0) : wpX_isOpenBetween post (cc, rl, wl, cl, dt, df, ds, ex, lo, uf, us, fi, ki, ef, es, di, we, cf, cs, cm, tx, le, rr, wk, sh, fo, fl, el, ec, ke, kl, em, oe, be, pl, po) (nI s) (nI k) x := by
  unfold wpX_isOpenBetween
  exact nm_r (nI_1 s) ⟨k - (s + 1) + 1, x_ob_l hk hx hg h1 h0 (k - (s + 1)) (s + 1) (by omega) (fun j a b => absurd b (by omega)) (by omega)⟩
theorem x_cm_l {post : SX → Prop} {N : Nat} (hN : N ≤ 64) :
    ∀ (rest pre : List Int32) (i : Nat) (wk : Nat → Int32), pre.length ≤ i → i + rest.length = N → sc_All pre → sc_All rest → sc_Rp wk pre → (∀ j, j < rest.length → wk (i + j) = sc_at rest j) →
    (∀ wk, sc_Rp wk (sc_cm cl dt df ds ex pre rest) → post (cc, rl, nI (sc_cm cl dt df ds ex pre rest).length, cl, dt, df, ds, ex, lo, uf, us, fi, ki, ef, es, di, we, cf, cs, cm, tx, le, rr, wk, sh, fo, fl, el, ec, ke, kl, em, oe, be, pl, po)) →
    wX_composeWork_4 post cc rl (nI N) (rest.length + 1) (nI pre.length) (nI i) cl dt df ds ex lo uf us fi ki ef es di we cf cs cm tx le rr wk sh fo fl el ec ke kl em oe be pl po := by
  intro rest
  induction rest with
  | nil =>
    intro pre i wk hp hi hA hB hr hq h
    have hi' : i + 0 = N := hi
    exact br_t (nI_le (by omega) (by omega)) (h wk hr)
  | cons x rest ih =>
    intro pre i wk hp hi hA hB hr hq h
    have hi' : i + (rest.length + 1) = N := hi
    obtain ⟨hx, hB'⟩ := sc_All_cons.mp hB
    have wx : wk (nI i).toNatClampNeg = x := by rw [nI_clamp (by omega)]; exact hq 0 (Nat.succ_pos _)
    have hg := sc_pe hr hA cl
    have hcsL := sc_csL cl dt df ds ex pre x
    have keep : sc_cs cl dt df ds ex pre x = pre ++ [x] → wX_composeWork_79 post (wX_composeWork_4 post cc rl (nI N) (rest.length + 1)) (nI pre.length) (nI i) x cc rl (nI N) cl dt df ds ex lo uf us fi ki ef es di we cf cs cm tx le rr wk sh fo fl el ec ke kl em oe be pl po := by
      intro e
      refine ⟨vp_in_nI (by omega) (by decide), nm_r (e' := upd wk pre.length x) (by rw [nI_clamp (by omega)]) (nm_r (nI_1 _) (nm_r (nI_1 _) ?_))⟩
      have g := ih (pre ++ [x]) (i + 1) (upd wk pre.length x) (by simp; omega) (by omega) (sc_All_app.mpr ⟨hA, sc_All_cons.mpr ⟨hx, sc_All_nil⟩⟩) hB' (sc_Rp_snoc x hr) ?_ (by rw [← e]; exact h)
      · rw [List.length_append] at g
        exact g
      · intro j hj
        rw [pk_un (by omega), show i + 1 + j = i + (j + 1) by omega]
        exact hq (j + 1) (Nat.succ_lt_succ hj)
    refine br_f (nI_ge (by omega) (by omega)) ⟨vp_in_nI (by omega) (by decide), nm_r wx (x_lz (by omega) hg ?_)⟩
    rcases sc_lzR (sc_g cl pre) pre.length with e | ⟨s, hs, e⟩
    · refine br_t e (br_t rfl (keep ?_))
      unfold sc_cs
      rw [if_pos (Or.inl e)]
    · have cS : (nI s).toNatClampNeg = s := nI_clamp (by omega)
      rw [e]
      refine br_f (sc_m1 s (by omega)) ⟨vp_in_nI (by omega) (by decide), x_co ?_⟩
      have ws : wk (nI s).toNatClampNeg = sc_at pre s := by rw [cS]; exact hr s hs
      rw [ws]
      rcases sc_coR dt df ds ex (sc_at pre s) x 48 0 with e2 | ⟨c, hc, e2⟩
      · refine br_t e2 (keep ?_)
        unfold sc_cs
        rw [if_pos (Or.inr (Or.inl (by rw [e, cS]; exact e2)))]
      · rw [e2]
        refine br_f (sc_m1 c (by omega)) (x_ob (by omega) hs hx hg (fun o => br_f (by decide) ⟨vp_in_nI (by omega) (by decide), nm_r (e' := upd wk s (nI c)) (by rw [cS]) (nm_r (nI_1 _) ?_)⟩) (fun o => br_t rfl (keep ?_)))
        · have ecs : sc_cs cl dt df ds ex pre x = pre.set s (nI c) := by
            unfold sc_cs
            rw [e, cS, e2, if_neg]
            exact fun z => z.elim (sc_m1 s (by omega)) (fun z => z.elim (sc_m1 c (by omega)) (fun z => z ((sc_lzO (by omega) _ (by omega) e).mpr o)))
          have g := ih (pre.set s (nI c)) (i + 1) (upd wk s (nI c)) (by rw [List.length_set]; omega) (by omega) (sc_All_set hA (vp_in_nI (by omega) (by decide)) s) hB' (sc_Rp_list hr) ?_ (by rw [← ecs]; exact h)
          · rw [List.length_set] at g
            exact g
          · intro j hj
            rw [pk_un (by omega), show i + 1 + j = i + (j + 1) by omega]
            exact hq (j + 1) (Nat.succ_lt_succ hj)
        · unfold sc_cs
          rw [if_pos (Or.inr (Or.inr (fun z => o ((sc_lzO (by omega) _ (by omega) e).mp z))))]
theorem x_compose {post : SX → Prop} {l : List Int32} (hN : l.length ≤ 64) (hA : sc_All l) (hr : sc_Rp wk l) (h : ∀ wk, sc_Rp wk (sc_cm cl dt df ds ex [] l) → post (cc, rl, nI (sc_cm cl dt df ds ex [] l).length, cl, dt, df, ds, ex, lo, uf, us, fi, ki, ef, es, di, we, cf, cs, cm, tx, le, rr, wk, sh, fo, fl, el, ec, ke, kl, em, oe, be, pl, po)) : wpX_composeWork post (cc, rl, nI l.length, cl, dt, df, ds, ex, lo, uf, us, fi, ki, ef, es, di, we, cf, cs, cm, tx, le, rr, wk, sh, fo, fl, el, ec, ke, kl, em, oe, be, pl, po) :=
  ⟨l.length + 1, x_cm_l hN l [] 0 wk (Nat.le_refl _) (by omega) sc_All_nil hA (sc_Rp0 _) (fun j hj => by rw [Nat.zero_add]; exact hr j hj) h⟩
end
section
variable {cc rl yn : Int32} {cl dt df pb lo uf us fi ki wt ef eb di ex cf cs cm lg tx le rr ro fm fL ee en ye lv se pg ou : Nat → Int32}
theorem y_co_l {post : Int32 → Prop} {ds : Nat → Int32} (hpb : ∀ i, i < 48 → ¬ dt i = 0 → pb i = ds i) {s x : Int32} : ∀ d i, i + d = 48 → post (sc_co dt df ds ex s x d i) → wY_composite_2 post s x cc rl yn cl dt df pb lo uf us fi ki wt ef eb di ex cf cs cm lg tx le rr ro fm fL ee en ye lv se pg ou (d + 1) (nI i) := by
  intro d
  induction d with
  | zero => exact fun i hi h => br_t (nI_le (a := 48) (by omega) (by omega)) h
  | succ d ih =>
    intro i hi h
    have v : vp_in (nI i) 48 := vp_in_nI (by omega) (by decide)
    have c : (nI i).toNatClampNeg = i := nI_clamp (by omega)
    unfold sc_co at h
    refine br_f (nI_ge (b := 48) (by omega) (by decide)) ⟨v, ?_⟩
    rw [c]
    refine br_c (fun p => ⟨v, br_c (fun q => ⟨v, br_c (fun r => ⟨v, br_c (fun z => ?_) (fun z => nm_r (nI_1 i) (ih (i + 1) (by omega) ?_))⟩) (fun r => nm_r (nI_1 i) (ih (i + 1) (by omega) ?_))⟩) (fun q => nm_r (nI_1 i) (ih (i + 1) (by omega) ?_))⟩) (fun p => nm_r (nI_1 i) (ih (i + 1) (by omega) ?_))
    · rw [hpb i (by omega) (by rw [p]; decide)] at r
      rw [if_pos ⟨p, z, q, r⟩] at h; exact h
    · rw [if_neg (fun w => z w.2.1)] at h; exact h
    · rw [hpb i (by omega) (by rw [p]; decide)] at r
      rw [if_neg (fun w => r w.2.2.2)] at h; exact h
    · rw [if_neg (fun w => q w.2.2.1)] at h; exact h
    · rw [if_neg (fun w => p w.1)] at h; exact h
theorem y_co {post : Int32 → Prop} {ds : Nat → Int32} (hpb : ∀ i, i < 48 → ¬ dt i = 0 → pb i = ds i) {s x : Int32} (h : post (sc_co dt df ds ex s x 48 0)) : wpY_composite post (cc, rl, yn, cl, dt, df, pb, lo, uf, us, fi, ki, wt, ef, eb, di, ex, cf, cs, cm, lg, tx, le, rr, ro, fm, fL, ee, en, ye, lv, se, pg, ou) s x := ⟨49, y_co_l hpb 48 0 (by omega) h⟩
theorem y_out_l {post : SY → Prop} {n : Nat} (hn : n < 64) : ∀ (d i : Nat) (ro : Nat → Int32), i + d = n →
    post (cc, rl, nI n, cl, dt, df, pb, lo, uf, us, fi, ki, wt, ef, eb, di, ex, cf, cs, cm, lg, tx, le, rr, sc_dn 0 d i ro, fm, fL, ee, en, ye, lv, se, pg, ou) → wY_takeOut_12 post cc rl (nI n) (d + 1) (nI i) cl dt df pb lo uf us fi ki wt ef eb di ex cf cs cm lg tx le rr ro fm fL ee en ye lv se pg ou := by
  intro d
  induction d with
  | zero => exact fun i ro hi h => br_t (nI_le (by omega) (by omega)) h
  | succ d ih => exact fun i ro hi h => br_f (nI_ge (by omega) (by omega)) ⟨pk_in (i + 1) 64 (by omega) (nI_1 i), vp_in_nI (by omega) (by decide),
      nm_r (e' := upd ro (0 + i) (ro (0 + i + 1))) (by rw [nI_1, nI_clamp (by omega), nI_clamp (by omega), Nat.zero_add]) (nm_r (nI_1 i) (ih (i + 1) _ (by omega) h))⟩
theorem y_out {post : SY → Prop} {l m : List Int32} {x : Int32} (hn : (l ++ x :: m).length ≤ 64) (hr : sc_Rp ro (l ++ x :: m)) (h : ∀ ro, sc_Rp ro (l ++ m) → post (cc, rl, nI (l ++ m).length, cl, dt, df, pb, lo, uf, us, fi, ki, wt, ef, eb, di, ex, cf, cs, cm, lg, tx, le, rr, ro, fm, fL, ee, en, ye, lv, se, pg, ou)) : wpY_takeOut post (cc, rl, nI (l ++ x :: m).length, cl, dt, df, pb, lo, uf, us, fi, ki, wt, ef, eb, di, ex, cf, cs, cm, lg, tx, le, rr, ro, fm, fL, ee, en, ye, lv, se, pg, ou) (nI l.length) := by
  have h1 := sc_len_mid l m x
  have h2 : (l ++ m).length = l.length + m.length := by simp
  have h' := h _ (sc_Rp_del hr)
  unfold wpY_takeOut
  rw [h1]
  refine nm_r (nI_pred _) ⟨m.length + 1, y_out_l (by omega) m.length l.length ro rfl ?_⟩
  rw [h2] at h'
  exact h'
theorem y_scan {post : SY → Prop} {J2 : _} {p1 x : Int32} {g : Nat → Int32} (hx : vp_in x 48) :
    ∀ (k : Nat) (f : Int32), k ≤ 64 → (f = 1 ∨ f = 0) → (∀ j, j < k → vp_in (ro j) 48 ∧ cl (ro j).toNatClampNeg = g j) →
    (∀ f', f' = 1 ∧ f = 1 ∧ sc_ol g (cl x.toNatClampNeg) k ∨ f' = 0 ∧ ¬ (f = 1 ∧ sc_ol g (cl x.toNatClampNeg) k) → wY_compose_78 post J2 p1 (sc_lz g k) x f' cc rl yn cl dt df pb lo uf us fi ki wt ef eb di ex cf cs cm lg tx le rr ro fm fL ee en ye lv se pg ou) →
    wY_compose_24 post J2 p1 x cc rl yn cl dt df pb lo uf us fi ki wt ef eb di ex cf cs cm lg tx le rr ro fm fL ee en ye lv se pg ou (k + 1) (sc_pr k) f := by
  intro k
  induction k with
  | zero =>
    intro f hk hf hg h
    refine br_t (by decide) (h f ?_)
    rcases hf with rfl | rfl
    · exact Or.inl ⟨rfl, rfl, trivial⟩
    · exact Or.inr ⟨rfl, fun z => absurd z.1 (by decide)⟩
  | succ k ih =>
    intro f hk hf hg h
    have c : (sc_pr (k + 1)).toNatClampNeg = k := nI_clamp (by omega)
    obtain ⟨g1, g2⟩ := hg k (by omega)
    have v : vp_in (sc_pr (k + 1)) 64 := vp_in_nI (by omega) (by decide)
    have g1' : vp_in (ro (sc_pr (k + 1)).toNatClampNeg) 48 := by rw [c]; exact g1
    refine br_f (nI_pos (by omega)) ⟨v, g1', ?_⟩
    rw [c, g2]
    unfold sc_lz at h
    refine br_c (fun a => ?_) (fun a => ⟨v, by rw [c] at g1'; exact g1', hx, br_c (fun b => nm_r (e' := 0) ?_ (nm_r (sc_prA k) (ih 0 (by omega) (Or.inr rfl) (fun j hj => hg j (by omega)) (fun f' hf' => ?_)))) (fun b => nm_r (e' := f) ?_ (nm_r (sc_prA k) (ih f (by omega) hf (fun j hj => hg j (by omega)) (fun f' hf' => ?_))))⟩)
    · rw [if_pos a] at h
      refine h f ?_
      rcases hf with rfl | rfl
      · exact Or.inl ⟨rfl, rfl, Or.inl a⟩
      · exact Or.inr ⟨rfl, fun z => absurd z.1 (by decide)⟩
    · rcases hf with rfl | rfl <;> decide
    · rw [if_neg a] at h
      have e0 : f' = 0 := hf'.elim (fun z => absurd z.2.1 (by decide)) (fun z => z.1)
      exact h f' (Or.inr ⟨e0, fun z => z.2.elim a (fun w => absurd w.1 (Int32.not_lt.mpr b))⟩)
    · rcases hf with rfl | rfl <;> decide
    · rw [if_neg a] at h
      refine h f' (hf'.elim (fun z => Or.inl ⟨z.1, z.2.1, Or.inr ⟨Int32.not_le.mp b, z.2.2⟩⟩) (fun z => Or.inr ⟨z.1, fun w => z.2 ⟨w.1, w.2.elim (fun q => absurd q a) (fun q => q.2)⟩⟩))
theorem y_cm_l {post : SY → Prop} {ds : Nat → Int32} (hpb : ∀ i, i < 48 → ¬ dt i = 0 → pb i = ds i) :
    ∀ (rest pre : List Int32) (ro : Nat → Int32), (pre ++ rest).length ≤ 64 → sc_All pre → sc_All rest → sc_Rp ro (pre ++ rest) →
    (∀ ro, sc_Rp ro (sc_cm cl dt df ds ex pre rest) → post (cc, rl, nI (sc_cm cl dt df ds ex pre rest).length, cl, dt, df, pb, lo, uf, us, fi, ki, wt, ef, eb, di, ex, cf, cs, cm, lg, tx, le, rr, ro, fm, fL, ee, en, ye, lv, se, pg, ou)) →
    wY_compose_2 post (rest.length + 1) (nI pre.length) cc rl (nI (pre ++ rest).length) cl dt df pb lo uf us fi ki wt ef eb di ex cf cs cm lg tx le rr ro fm fL ee en ye lv se pg ou := by
  intro rest
  induction rest with
  | nil =>
    intro pre ro hl hA hB hr h
    rw [List.append_nil] at hr hl ⊢
    exact br_t (nI_le (by omega) (by omega)) (h ro hr)
  | cons x rest ih =>
    intro pre ro hl hA hB hr h
    have hlen := sc_len_mid pre rest x
    obtain ⟨hx, hB'⟩ := sc_All_cons.mp hB
    have wx : ro (nI pre.length).toNatClampNeg = x := by rw [nI_clamp (by omega)]; exact sc_Rp_mid hr
    have hg := sc_pe (sc_Rp_pre hr) hA cl
    have keep : sc_cs cl dt df ds ex pre x = pre ++ [x] → wY_compose_2 post (rest.length + 1) (nI (pre.length + 1)) cc rl (nI (pre ++ x :: rest).length) cl dt df pb lo uf us fi ki wt ef eb di ex cf cs cm lg tx le rr ro fm fL ee en ye lv se pg ou := by
      intro e
      have g := ih (pre ++ [x]) ro (by rw [List.append_assoc]; exact hl) (sc_All_app.mpr ⟨hA, sc_All_cons.mpr ⟨hx, sc_All_nil⟩⟩) hB' (by rw [List.append_assoc]; exact hr) (by rw [← e]; exact h)
      rw [List.append_assoc, List.length_append (as := pre) (bs := [x])] at g
      exact g
    refine br_f (nI_ge (by omega) (by omega)) (nm_r (sc_prS _) ⟨vp_in_nI (by omega) (by decide), nm_r wx ⟨pre.length + 1, y_scan hx pre.length 1 (by omega) (Or.inl rfl) hg (fun f' hf' => ?_)⟩⟩)
    rcases sc_lzR (sc_g cl pre) pre.length with e | ⟨s, hs, e⟩
    · rw [e]
      refine br_t (by decide) (br_t (by decide) (nm_r (nI_1 _) (keep ?_)))
      unfold sc_cs
      rw [if_pos (Or.inl e)]
    · have cS : (nI s).toNatClampNeg = s := nI_clamp (by omega)
      rw [e]
      refine br_f (nI_pos (by omega)) ?_
      rcases hf' with ⟨rfl, -, o⟩ | ⟨rfl, o⟩
      · refine br_f (by decide) ⟨vp_in_nI (by omega) (by decide), y_co hpb ?_⟩
        have ws : ro (nI s).toNatClampNeg = sc_at pre s := by rw [cS]; exact sc_Rp_pre hr s hs
        rw [ws]
        rcases sc_coR dt df ds ex (sc_at pre s) x 48 0 with e2 | ⟨c, hc, e2⟩
        · rw [e2]
          refine br_t (by decide) (nm_r (nI_1 _) (keep ?_))
          unfold sc_cs
          rw [if_pos (Or.inr (Or.inl (by rw [e, cS]; exact e2)))]
        · rw [e2]
          refine br_f (nI_pos (by omega)) ⟨vp_in_nI (by omega) (by decide), nm_r (e' := upd ro s (nI c)) (by rw [cS]) ?_⟩
          have ecs : sc_cs cl dt df ds ex pre x = pre.set s (nI c) := by
            unfold sc_cs
            rw [e, cS, e2, if_neg]
            exact fun z => z.elim (sc_m1 s (by omega)) (fun z => z.elim (sc_m1 c (by omega)) (fun z => z o))
          have ls : (pre.set s (nI c)).length = pre.length := List.length_set ..
          have hr2 : sc_Rp (upd ro s (nI c)) (pre.set s (nI c) ++ x :: rest) := by
            have := sc_Rp_list (i := s) (c := nI c) hr
            rw [List.set_append_left _ _ hs] at this
            exact this
          have hlen2 : (pre.set s (nI c) ++ x :: rest).length = (pre ++ x :: rest).length := by rw [List.length_append, List.length_append, ls]
          rw [← hlen2, ← ls]
          refine y_out (by rw [hlen2]; exact hl) hr2 (fun ro' hr' => ?_)
          exact ih (pre.set s (nI c)) ro' (by rw [List.length_append, ls]; omega) (sc_All_set hA (vp_in_nI (by omega) (by decide)) s) hB' hr' (by rw [← ecs]; exact h)
      · refine br_t rfl (br_t (by decide) (nm_r (nI_1 _) (keep ?_)))
        unfold sc_cs
        rw [if_pos (Or.inr (Or.inr (fun z => o ⟨rfl, z⟩)))]
theorem y_compose {post : SY → Prop} {ds : Nat → Int32} {l : List Int32} (hpb : ∀ i, i < 48 → ¬ dt i = 0 → pb i = ds i) (hN : l.length ≤ 64) (hA : sc_All l) (hr : sc_Rp ro l) (h : ∀ ro, sc_Rp ro (sc_cm cl dt df ds ex [] l) → post (cc, rl, nI (sc_cm cl dt df ds ex [] l).length, cl, dt, df, pb, lo, uf, us, fi, ki, wt, ef, eb, di, ex, cf, cs, cm, lg, tx, le, rr, ro, fm, fL, ee, en, ye, lv, se, pg, ou)) : wpY_compose post (cc, rl, nI l.length, cl, dt, df, pb, lo, uf, us, fi, ki, wt, ef, eb, di, ex, cf, cs, cm, lg, tx, le, rr, ro, fm, fL, ee, en, ye, lv, se, pg, ou) := by
  cases l with
  | nil => exact ⟨1, br_t (by decide) (h ro hr)⟩
  | cons x l =>
    obtain ⟨hx, hB⟩ := sc_All_cons.mp hA
    have e : sc_cm cl dt df ds ex [] (x :: l) = sc_cm cl dt df ds ex [x] l := by
      show sc_cm cl dt df ds ex (sc_cs cl dt df ds ex [] x) l = _
      congr 1
      unfold sc_cs
      exact if_pos (Or.inl rfl)
    rw [e] at h
    exact ⟨l.length + 1, y_cm_l hpb l [x] ro hN (sc_All_cons.mpr ⟨hx, sc_All_nil⟩) hB hr h⟩
end
