/-! one run: numbers, neutrals, levels -/
def sc_pa (x : Int32) : Int32 := if x - x / 2 * 2 = 1 then 1 else 0
def sc_mx (a b : Int32) : Int32 := if a ≤ b then b else a
theorem sc_mxC (a b : Int32) : sc_mx a b = sc_mx b a := by
  unfold sc_mx
  by_cases h : a ≤ b
  · rw [if_pos h]
    by_cases g : b ≤ a
    · rw [if_pos g]; exact Int32.le_antisymm g h
    · rw [if_neg g]
  · rw [if_neg h, if_pos (Int32.le_of_lt (Int32.not_le.mp h))]
theorem sc_pa01 (x : Int32) : sc_pa x = 0 ∨ sc_pa x = 1 := by
  unfold sc_pa
  split
  · exact Or.inr rfl
  · exact Or.inl rfl
def sc_s1 : Nat → Nat → (Nat → Int32) → Int32 → Nat → Int32
  | 0, _, a, _ => a
  | d + 1, i, a, l => if a i = 2 ∧ l = 0 then sc_s1 d (i + 1) (upd a i 0) l else if a i = 0 ∨ a i = 1 then sc_s1 d (i + 1) a (a i) else sc_s1 d (i + 1) a l
theorem sc_s1P {N : Nat} : ∀ d i a l, (∀ j, j < N → vp_in (a j) 4) → ∀ j, j < N → vp_in (sc_s1 d i a l j) 4 := by
  intro d
  induction d with
  | zero => exact fun i a l h => h
  | succ d ih =>
    intro i a l h
    unfold sc_s1
    split
    · refine ih _ _ _ (fun j hj => ?_)
      by_cases e : j = i
      · rw [e, pk_us]; exact sc_in0 4 (by decide)
      · rw [pk_un e]; exact h j hj
    · split
      · exact ih _ _ _ h
      · exact ih _ _ _ h
def sc_ne (a : Nat → Int32) : Nat → Nat → Nat
  | 0, i => i
  | d + 1, i => if a i = 3 then sc_ne a d (i + 1) else i
theorem sc_neR (a : Nat → Int32) : ∀ d i, i ≤ sc_ne a d i ∧ sc_ne a d i ≤ i + d ∧ (sc_ne a d i < i + d → ¬ a (sc_ne a d i) = 3) := by
  intro d
  induction d with
  | zero => exact fun i => ⟨Nat.le_refl _, Nat.le_refl _, fun h => absurd h (Nat.lt_irrefl i)⟩
  | succ d ih =>
    intro i
    unfold sc_ne
    by_cases h : a i = 3
    · rw [if_pos h]
      obtain ⟨p, q, r⟩ := ih (i + 1)
      exact ⟨by omega, by omega, fun z => r (by omega)⟩
    · rw [if_neg h]
      exact ⟨by omega, by omega, fun _ => h⟩
theorem sc_neS {a : Nat → Int32} {d i : Nat} (h : a i = 3) : i < sc_ne a (d + 1) i := by
  unfold sc_ne
  rw [if_pos h]
  have := (sc_neR a d (i + 1)).1
  omega
theorem sc_neN {a : Nat → Int32} {d i : Nat} (h : ¬ a i = 3) : sc_ne a (d + 1) i = i := by
  unfold sc_ne
  rw [if_neg h]
def sc_fi (v : Int32) : Nat → Nat → (Nat → Int32) → Nat → Int32
  | 0, _, a => a
  | d + 1, i, a => sc_fi v d (i + 1) (upd a i v)
theorem sc_fiV (v : Int32) : ∀ d i a j, sc_fi v d i a j = if i ≤ j ∧ j < i + d then v else a j := by
  intro d
  induction d with
  | zero => intro i a j; exact (if_neg (by omega)).symm
  | succ d ih =>
    intro i a j
    show sc_fi v d (i + 1) (upd a i v) j = _
    rw [ih]
    unfold upd
    by_cases h : i + 1 ≤ j ∧ j < i + 1 + d
    · rw [if_pos h, if_pos (by omega)]
    · rw [if_neg h]
      by_cases e : j = i
      · rw [if_pos e, if_pos (by omega)]
      · rw [if_neg e, if_neg (by omega)]
def sc_sd (x : Int32) : Int32 := if x = 2 then 1 else x
def sc_bg (fr : Nat) (bB : Int32) (a : Nat → Int32) (k : Nat) : Int32 := if k = fr then bB else sc_sd (a (k - 1))
def sc_bh (to : Nat) (bE : Int32) (a : Nat → Int32) (j : Nat) : Int32 := if j = to then bE else sc_sd (a j)
def sc_dv (x y own : Int32) : Int32 := if x = y then x else sc_pa own
def sc_nt (fr to : Nat) (own bB bE : Int32) : Nat → Nat → (Nat → Int32) → Nat → Int32
  | 0, _, a => a
  | f + 1, k, a => if to ≤ k then a else sc_nt fr to own bB bE f (sc_ne a (to - k) k + 1) (sc_fi (sc_dv (sc_bg fr bB a k) (sc_bh to bE a (sc_ne a (to - k) k)) own) (sc_ne a (to - k) k - k) k a)
theorem sc_34 {x : Int32} (h : vp_in x 4) (h3 : ¬ x = 3) : vp_in x 3 := by
  obtain ⟨c, hc, rfl⟩ := vp_in_of h (by decide)
  have : ¬ c = 3 := fun e => h3 (by rw [e]; rfl)
  exact vp_in_nI (by omega) (by decide)
theorem sc_43 {x : Int32} (h : vp_in x 3) : vp_in x 4 ∧ ¬ x = 3 := by
  obtain ⟨c, hc, rfl⟩ := vp_in_of h (by decide)
  exact ⟨vp_in_nI (by omega) (by decide), fun e => by have := (nI_eq (b := 3) (by omega) (by decide)).mp e; omega⟩
theorem sc_012 {x : Int32} (h : vp_in x 3) : x = 0 ∨ x = 1 ∨ x = 2 := by
  obtain ⟨c, hc, rfl⟩ := vp_in_of h (by decide)
  match c, hc with
  | 0, _ => exact Or.inl rfl
  | 1, _ => exact Or.inr (Or.inl rfl)
  | 2, _ => exact Or.inr (Or.inr rfl)
  | n + 3, h => exact absurd h (by omega)
theorem sc_sd01 {x : Int32} (h : vp_in x 3) : sc_sd x = 0 ∨ sc_sd x = 1 := by
  unfold sc_sd
  rcases sc_012 h with e | e | e
  · rw [e]; exact Or.inl rfl
  · rw [e]; exact Or.inr rfl
  · rw [e]; exact Or.inr rfl
theorem sc_01v {x : Int32} (h : x = 0 ∨ x = 1) : vp_in x 3 := by
  rcases h with e | e
  · rw [e]; exact sc_in0 3 (by decide)
  · rw [e]; exact vp_in_nI (n := 1) (by decide) (by decide)
theorem sc_bg01 {fr k : Nat} {bB : Int32} {a : Nat → Int32} (hB : bB = 0 ∨ bB = 1) (hk : ¬ k = fr → vp_in (a (k - 1)) 3) : sc_bg fr bB a k = 0 ∨ sc_bg fr bB a k = 1 := by
  unfold sc_bg
  by_cases e : k = fr
  · rw [if_pos e]; exact hB
  · rw [if_neg e]; exact sc_sd01 (hk e)
theorem sc_dv01 {x y own : Int32} (hx : x = 0 ∨ x = 1) : sc_dv x y own = 0 ∨ sc_dv x y own = 1 := by
  unfold sc_dv
  by_cases e : x = y
  · rw [if_pos e]; exact hx
  · rw [if_neg e]; exact sc_pa01 own
theorem sc_ntP {fr to N : Nat} {own bB bE : Int32} (hB : bB = 0 ∨ bB = 1) (hN : to ≤ N) : ∀ f k a, fr ≤ k → to + 1 ≤ f + k → (∀ j, j < N → vp_in (a j) 4) → (∀ j, fr ≤ j → j < k → j < to → vp_in (a j) 3) →
    (k ≤ to + 1) → (∀ j, j < N → vp_in (sc_nt fr to own bB bE f k a j) 4) ∧ (∀ j, fr ≤ j → j < to → vp_in (sc_nt fr to own bB bE f k a j) 3) := by
  intro f
  induction f with
  | zero => intro k a hk hf h4 h3 hk2; exact ⟨h4, fun j h1 h2 => h3 j h1 (by omega) h2⟩
  | succ f ih =>
    intro k a hk hf h4 h3 hk2
    unfold sc_nt
    by_cases e : to ≤ k
    · rw [if_pos e]; exact ⟨h4, fun j h1 h2 => h3 j h1 (by omega) h2⟩
    · rw [if_neg e]
      obtain ⟨n1, n2, n3⟩ := sc_neR a (to - k) k
      have d01 := sc_dv01 (y := sc_bh to bE a (sc_ne a (to - k) k)) (own := own) (sc_bg01 (fr := fr) (a := a) hB (fun z => h3 (k - 1) (by omega) (by omega) (by omega)))
      refine ih _ _ (by omega) (by omega) (fun j hj => ?_) (fun j h1 h2 h5 => ?_) (by omega)
      · rw [sc_fiV]
        split
        · exact (sc_43 (sc_01v d01)).1
        · exact h4 j hj
      · rw [sc_fiV]
        split
        · exact sc_01v d01
        · rename_i z
          by_cases e1 : j < k
          · exact h3 j h1 e1 h5
          · have : j = sc_ne a (to - k) k := by omega
            rw [this]
            exact sc_34 (h4 _ (by omega)) (n3 (by omega))
def sc_lf (own b : Int32) : Int32 := if own - own / 2 * 2 = 1 then (if b = 1 then own else own + 1) else (if b = 2 then own + 2 else if b = 1 then own + 1 else own)
def sc_lv (own : Int32) (be : Nat → Int32) : Nat → Nat → (Nat → Int32) → Nat → Int32
  | 0, _, pl => pl
  | d + 1, i, pl => sc_lv own be d (i + 1) (upd pl i (sc_lf own (be i)))
theorem sc_lf9 {own b : Int32} (h : vp_in own 7) : vp_in (sc_lf own b) 9 := by
  obtain ⟨c, hc, rfl⟩ := vp_in_of h (by decide)
  have e1 : nI c + 1 = nI (c + 1) := nI_1 c
  have e2 : nI c + 2 = nI (c + 2) := nI_add c 2
  unfold sc_lf
  rw [e1, e2]
  split <;> split
  · exact vp_in_nI (by omega) (by decide)
  · exact vp_in_nI (by omega) (by decide)
  · exact vp_in_nI (by omega) (by decide)
  · split
    · exact vp_in_nI (by omega) (by decide)
    · exact vp_in_nI (by omega) (by decide)
theorem sc_lvP {own : Int32} (ho : vp_in own 7) (be : Nat → Int32) : ∀ d i pl, (∀ j, j < i → vp_in (pl j) 9) → ∀ j, j < i + d → vp_in (sc_lv own be d i pl j) 9 := by
  intro d
  induction d with
  | zero => intro i pl h j hj; exact h j (by omega)
  | succ d ih =>
    intro i pl h j hj
    refine ih (i + 1) _ (fun q hq => ?_) j (by omega)
    by_cases e : q = i
    · rw [e, pk_us]; exact sc_lf9 ho
    · rw [pk_un e]; exact h q (by omega)
section
variable {cc rl wl : Int32} {cl dt df ds ex lo uf us fi ki ef es di we cf cs cm tx le rr wk sh fo fl el ec ke kl em oe be pl po : Nat → Int32}
theorem x_bearing {post : Int32 → Prop} {x : Int32} (h : post (sc_pa x)) : wpX_bearingOf post (cc, rl, wl, cl, dt, df, ds, ex, lo, uf, us, fi, ki, ef, es, di, we, cf, cs, cm, tx, le, rr, wk, sh, fo, fl, el, ec, ke, kl, em, oe, be, pl, po) x := by
  unfold sc_pa at h
  refine ⟨by decide, br_c (fun a => ?_) (fun a => ?_)⟩
  · rw [if_pos a] at h; exact h
  · rw [if_neg a] at h; exact h
theorem x_side {post : Int32 → Prop} {x : Int32} (h : post (sc_sd x)) : wpX_asSide post (cc, rl, wl, cl, dt, df, ds, ex, lo, uf, us, fi, ki, ef, es, di, we, cf, cs, cm, tx, le, rr, wk, sh, fo, fl, el, ec, ke, kl, em, oe, be, pl, po) x := by
  unfold sc_sd at h
  refine br_c (fun a => ?_) (fun a => ?_)
  · rw [if_pos a] at h; exact h
  · rw [if_neg a] at h; exact h
theorem x_s1_l {post : SX → Prop} {e : Nat} (he : e ≤ 16) : ∀ (d i : Nat) (l : Int32) (be : Nat → Int32), i + d = e → post (cc, rl, wl, cl, dt, df, ds, ex, lo, uf, us, fi, ki, ef, es, di, we, cf, cs, cm, tx, le, rr, wk, sh, fo, fl, el, ec, ke, kl, em, oe, sc_s1 d i be l, pl, po) → wX_settleNumbers_6 post (nI e) cc rl wl (d + 1) l (nI i) cl dt df ds ex lo uf us fi ki ef es di we cf cs cm tx le rr wk sh fo fl el ec ke kl em oe be pl po := by
  intro d
  induction d with
  | zero => exact fun i l be hi h => br_t (nI_le (by omega) (by omega)) h
  | succ d ih =>
    intro i l be hi h
    have v : vp_in (nI i) 16 := vp_in_nI (by omega) (by decide)
    have c : (nI i).toNatClampNeg = i := nI_clamp (by omega)
    unfold sc_s1 at h
    have rest : ¬ (be i = 2 ∧ l = 0) → wX_settleNumbers_39 post (wX_settleNumbers_6 post (nI e) cc rl wl (d + 1)) (nI e) l (nI i) cc rl wl cl dt df ds ex lo uf us fi ki ef es di we cf cs cm tx le rr wk sh fo fl el ec ke kl em oe be pl po := by
      intro z
      rw [if_neg z] at h
      unfold wX_settleNumbers_39
      rw [c]
      refine ⟨v, br_c (fun a => ⟨v, nm_e (nm_r (nI_1 i) (ih (i + 1) _ be (by omega) ?_))⟩) (fun a => ⟨v, br_c (fun b => ⟨v, nm_e (nm_r (nI_1 i) (ih (i + 1) _ be (by omega) ?_))⟩) (fun b => nm_r (nI_1 i) (ih (i + 1) l be (by omega) ?_))⟩)⟩
      · rw [if_pos (Or.inl a)] at h; exact h
      · rw [if_pos (Or.inr b)] at h; exact h
      · rw [if_neg (fun w => w.elim a b)] at h; exact h
    refine br_f (nI_ge (by omega) (by omega)) ⟨v, br_c (fun a => br_c (fun b => ⟨v, nm_r (e' := upd be i 0) (by rw [c]) (nm_r (nI_1 i) (ih (i + 1) l _ (by omega) ?_))⟩) (fun b => rest (fun z => b z.2))) (fun a => rest (fun z => a (by rw [c]; exact z.1)))⟩
    rw [c] at a
    rw [if_pos ⟨a, b⟩] at h; exact h
theorem x_ne_l {post : Int32 → Prop} {e : Nat} (he : e ≤ 16) : ∀ d i, i + d = e → post (nI (sc_ne be d i)) → wX_neutralRowEnd_2 post (nI e) cc rl wl cl dt df ds ex lo uf us fi ki ef es di we cf cs cm tx le rr wk sh fo fl el ec ke kl em oe be pl po (d + 1) (nI i) := by
  intro d
  induction d with
  | zero =>
    intro i hi h
    obtain rfl : i = e := by omega
    exact br_t (nI_le (by omega) (by omega)) h
  | succ d ih =>
    intro i hi h
    have c : (nI i).toNatClampNeg = i := nI_clamp (by omega)
    unfold sc_ne at h
    refine br_f (nI_ge (by omega) (by omega)) ⟨vp_in_nI (by omega) (by decide), ?_⟩
    rw [c]
    refine br_c (fun a => nm_r (nI_1 i) (ih (i + 1) (by omega) ?_)) (fun a => ?_)
    · rw [if_pos a] at h; exact h
    · rw [if_neg a] at h; exact h
theorem x_fill_l {post : SX → Prop} {J : _} {p2 p4 v : Int32} {k j : Nat} (hj : j ≤ 16) : ∀ (d i : Nat) (be : Nat → Int32), i + d = j →
    wX_settleNeutrals_107 post J p2 p4 (nI k) cc rl wl cl dt df ds ex lo uf us fi ki ef es di we cf cs cm tx le rr wk sh fo fl el ec ke kl em oe (sc_fi v d i be) pl po → wX_settleNeutrals_85 post J p2 p4 (nI k) (nI j) v cc rl wl (d + 1) (nI i) cl dt df ds ex lo uf us fi ki ef es di we cf cs cm tx le rr wk sh fo fl el ec ke kl em oe be pl po := by
  intro d
  induction d with
  | zero => exact fun i be hi h => br_t (nI_le (by omega) (by omega)) h
  | succ d ih => exact fun i be hi h => br_f (nI_ge (by omega) (by omega)) ⟨vp_in_nI (by omega) (by decide), nm_r (e' := upd be i v) (by rw [nI_clamp (by omega)]) (nm_r (nI_1 i) (ih (i + 1) _ (by omega) h))⟩
theorem x_107 {post : SX → Prop} {J : _} {p2 p4 : Int32} {k : Nat} (hk : k < 16) (h : J (sc_sd (be k)) (nI (k + 1)) cl dt df ds ex lo uf us fi ki ef es di we cf cs cm tx le rr wk sh fo fl el ec ke kl em oe be pl po) : wX_settleNeutrals_107 post J p2 p4 (nI k) cc rl wl cl dt df ds ex lo uf us fi ki ef es di we cf cs cm tx le rr wk sh fo fl el ec ke kl em oe be pl po := by
  refine ⟨vp_in_nI hk (by decide), ?_⟩
  rw [nI_clamp (by omega)]
  exact x_side (nm_r (nI_1 k) h)
theorem x_skip {post : SX → Prop} {e m : Nat} {bE : Int32} (he : e ≤ 16) (hm : m ≤ e) (h : ∀ n, e < n + m → wX_settleNeutrals_6 post (nI e) bE cc rl wl n (sc_sd (be (m - 1))) (nI m) cl dt df ds ex lo uf us fi ki ef es di we cf cs cm tx le rr wk sh fo fl el ec ke kl em oe be pl po) :
    ∀ d i n, i + 1 + d = m → (∀ j, i < j → j < m → ¬ be j = 3) → e < n + (i + 1) → wX_settleNeutrals_6 post (nI e) bE cc rl wl n (sc_sd (be i)) (nI (i + 1)) cl dt df ds ex lo uf us fi ki ef es di we cf cs cm tx le rr wk sh fo fl el ec ke kl em oe be pl po := by
  intro d
  induction d with
  | zero =>
    intro i n hi hne hn
    obtain rfl : m = i + 1 := by omega
    exact h n hn
  | succ d ih =>
    intro i n hi hne hn
    obtain ⟨n, rfl⟩ : ∃ q, n = q + 1 := ⟨n - 1, by omega⟩
    have c : (nI (i + 1)).toNatClampNeg = i + 1 := nI_clamp (by omega)
    refine br_f (nI_ge (by omega) (by omega)) ⟨vp_in_nI (by omega) (by decide), br_f ?_ (x_107 (by omega) (ih (i + 1) n (by omega) (fun j a b => hne j (by omega) b) (by omega)))⟩
    rw [c]; exact hne (i + 1) (by omega) (by omega)
theorem x_nt_l {post : SX → Prop} {fr e : Nat} {own bB bE : Int32} (he : e ≤ 16) (hB : bB = 0 ∨ bB = 1) (hem : ∀ j, fr ≤ j → j < e → em j = own) :
    ∀ (f k : Nat) (be : Nat → Int32), fr ≤ k → k ≤ e → e + 1 ≤ f + k → (∀ j, j < e → vp_in (be j) 4) → (¬ k = fr → vp_in (be (k - 1)) 3) →
    post (cc, rl, wl, cl, dt, df, ds, ex, lo, uf, us, fi, ki, ef, es, di, we, cf, cs, cm, tx, le, rr, wk, sh, fo, fl, el, ec, ke, kl, em, oe, sc_nt fr e own bB bE f k be, pl, po) → ∀ n, e < n + k → wX_settleNeutrals_6 post (nI e) bE cc rl wl n (sc_bg fr bB be k) (nI k) cl dt df ds ex lo uf us fi ki ef es di we cf cs cm tx le rr wk sh fo fl el ec ke kl em oe be pl po := by
  intro f
  induction f with
  | zero => intro k be hk hk2 hf; omega
  | succ f ih =>
    intro k be hk hk2 hf h4 h3 h n hn
    obtain ⟨n, rfl⟩ : ∃ q, n = q + 1 := ⟨n - 1, by omega⟩
    unfold sc_nt at h
    by_cases ek : e ≤ k
    · rw [if_pos ek] at h
      exact br_t (nI_le ek (by omega)) h
    · rw [if_neg ek] at h
      have c : (nI k).toNatClampNeg = k := nI_clamp (by omega)
      refine br_f (nI_ge (by omega) (by omega)) ⟨vp_in_nI (by omega) (by decide), ?_⟩
      rw [c]
      obtain ⟨d, hd⟩ : ∃ d, e - k = d + 1 := ⟨e - k - 1, by omega⟩
      refine br_c (fun a => ?_) (fun a => ?_)
      · have n0 := sc_neS (d := d) a
        obtain ⟨n1, n2, n3⟩ := sc_neR be (e - k) k
        rw [← hd] at n0
        generalize hj : sc_ne be (e - k) k = j at h n0 n1 n2 n3
        have d01 := sc_dv01 (y := sc_bh e bE be j) (own := own) (sc_bg01 (fr := fr) (a := be) hB h3)
        have main : wX_settleNeutrals_54 post (wX_settleNeutrals_6 post (nI e) bE cc rl wl n) (nI e) bE (sc_bg fr bB be k) (nI k) (nI j) (sc_bh e bE be j) cc rl wl cl dt df ds ex lo uf us fi ki ef es di we cf cs cm tx le rr wk sh fo fl el ec ke kl em oe be pl po := by
          have go : ∀ v, v = sc_dv (sc_bg fr bB be k) (sc_bh e bE be j) own → ∃ n85, wX_settleNeutrals_85 post (wX_settleNeutrals_6 post (nI e) bE cc rl wl n) (nI e) bE (nI k) (nI j) v cc rl wl n85 (nI k) cl dt df ds ex lo uf us fi ki ef es di we cf cs cm tx le rr wk sh fo fl el ec ke kl em oe be pl po := by
            intro v ev
            rw [← ev] at h d01
            have fv : ∀ i, sc_fi v (j - k) k be i = if k ≤ i ∧ i < j then v else be i := by
              intro i; rw [sc_fiV, show k + (j - k) = j by omega]
            have v3 : ¬ v = 3 := (sc_43 (sc_01v d01)).2
            refine ⟨j - k + 1, x_fill_l (by omega) (j - k) k be (by omega) (x_107 (by omega) ?_)⟩
            by_cases ej : j < e
            · refine x_skip (m := j + 1) he (by omega) (fun n' hn' => ?_) (j - k) k n (by omega) (fun i h1 h2 => ?_) (by omega)
              · have g := ih (j + 1) (sc_fi v (j - k) k be) (by omega) (by omega) (by omega) (fun i hi => ?_) (fun _ => ?_) h n' hn'
                · have eb : sc_bg fr bB (sc_fi v (j - k) k be) (j + 1) = sc_sd (sc_fi v (j - k) k be (j + 1 - 1)) := if_neg (by omega)
                  rw [eb] at g; exact g
                · rw [fv]
                  split
                  · exact (sc_43 (sc_01v d01)).1
                  · exact h4 i hi
                · rw [Nat.add_sub_cancel, fv, if_neg (by omega)]
                  exact sc_34 (h4 j ej) (n3 (by omega))
              · rw [fv]
                split
                · exact v3
                · have : i = j := by omega
                  rw [this]; exact n3 (by omega)
            · refine x_skip (m := e) he (by omega) (fun n' hn' => ?_) (e - (k + 1)) k n (by omega) (fun i h1 h2 => ?_) (by omega)
              · obtain ⟨n', rfl⟩ : ∃ q, n' = q + 1 := ⟨n' - 1, by omega⟩
                refine br_t (nI_le (by omega) (by omega)) ?_
                have en : sc_nt fr e own bB bE f (j + 1) (sc_fi v (j - k) k be) = sc_fi v (j - k) k be := by
                  cases f with
                  | zero => rfl
                  | succ f => unfold sc_nt; exact if_pos (by omega)
                rw [en] at h; exact h
              · rw [fv, if_pos (by omega)]; exact v3
          refine br_c (fun q => go _ ?_) (fun q => ⟨vp_in_nI (by omega) (by decide), ?_⟩)
          · unfold sc_dv; rw [if_pos q]
          · rw [c, hem k (by omega) (by omega)]
            refine x_bearing (go _ ?_)
            unfold sc_dv; rw [if_neg q]
        refine ⟨e - k + 1, x_ne_l he (e - k) k (by omega) ?_⟩
        rw [hj]
        unfold sc_bh at main
        by_cases ej : j = e
        · rw [if_pos ej] at main
          exact br_t (nI_le (by omega) (by omega)) main
        · rw [if_neg ej] at main
          refine br_f (nI_ge (by omega) (by omega)) ⟨vp_in_nI (by omega) (by decide), ?_⟩
          rw [nI_clamp (by omega)]
          exact x_side main
      · have e1 : sc_ne be (e - k) k = k := by rw [hd]; exact sc_neN a
        rw [e1, Nat.sub_self] at h
        refine x_107 (by omega) ?_
        have g := ih (k + 1) be (by omega) (by omega) (by omega) h4 (fun _ => by rw [Nat.add_sub_cancel]; exact sc_34 (h4 k (by omega)) a) h n (by omega)
        have eb : sc_bg fr bB be (k + 1) = sc_sd (be (k + 1 - 1)) := if_neg (by omega)
        rw [eb, Nat.add_sub_cancel] at g
        exact g
theorem x_lf {post : Int32 → Prop} {own b : Int32} (h : post (sc_lf own b)) : wpX_levelFor post (cc, rl, wl, cl, dt, df, ds, ex, lo, uf, us, fi, ki, ef, es, di, we, cf, cs, cm, tx, le, rr, wk, sh, fo, fl, el, ec, ke, kl, em, oe, be, pl, po) own b := by
  unfold sc_lf at h
  refine ⟨by decide, br_c (fun a => br_c (fun q => ?_) (fun q => ?_)) (fun a => br_c (fun q => ?_) (fun q => br_c (fun r => ?_) (fun r => ?_)))⟩
  · rw [if_pos a, if_pos q] at h; exact h
  · rw [if_pos a, if_neg q] at h; exact h
  · rw [if_neg a, if_pos q] at h; exact h
  · rw [if_neg a, if_neg q, if_pos r] at h; exact h
  · rw [if_neg a, if_neg q, if_neg r] at h; exact h
theorem x_lv_l {post : SX → Prop} {e : Nat} {own : Int32} (he : e ≤ 16) : ∀ (d i : Nat) (pl : Nat → Int32), i + d = e → post (cc, rl, wl, cl, dt, df, ds, ex, lo, uf, us, fi, ki, ef, es, di, we, cf, cs, cm, tx, le, rr, wk, sh, fo, fl, el, ec, ke, kl, em, oe, be, sc_lv own be d i pl, po) → wX_findRunLevels_106 post (nI e) own cc rl wl (d + 1) (nI i) cl dt df ds ex lo uf us fi ki ef es di we cf cs cm tx le rr wk sh fo fl el ec ke kl em oe be pl po := by
  intro d
  induction d with
  | zero => exact fun i pl hi h => br_t (nI_le (by omega) (by omega)) h
  | succ d ih =>
    intro i pl hi h
    have v : vp_in (nI i) 16 := vp_in_nI (by omega) (by decide)
    refine br_f (nI_ge (by omega) (by omega)) ⟨v, x_lf ⟨v, nm_r (e' := upd pl i (sc_lf own (be i))) ?_ (nm_r (nI_1 i) (ih (i + 1) _ (by omega) h))⟩⟩
    rw [nI_clamp (by omega)]
end
section
variable {cc rl yn : Int32} {cl dt df pb lo uf us fi ki wt ef eb di ex cf cs cm lg tx le rr ro fm fL ee en ye lv se pg ou : Nat → Int32}
theorem y_strong {post : Int32 → Prop} {x : Int32} (h : post (sc_sd x)) : wpY_strong post (cc, rl, yn, cl, dt, df, pb, lo, uf, us, fi, ki, wt, ef, eb, di, ex, cf, cs, cm, lg, tx, le, rr, ro, fm, fL, ee, en, ye, lv, se, pg, ou) x := by
  unfold sc_sd at h
  refine br_c (fun a => ?_) (fun a => ?_)
  · rw [if_pos a] at h; exact h
  · rw [if_neg a] at h; exact h
theorem y_edge27 {post : Int32 → Prop} {x y : Int32} (h : post (sc_pa (sc_mx x y))) : wY_edge_27 post x y cc rl yn cl dt df pb lo uf us fi ki wt ef eb di ex cf cs cm lg tx le rr ro fm fL ee en ye lv se pg ou := by
  unfold sc_mx at h
  refine br_c (fun a => ⟨by decide, ?_⟩) (fun a => ⟨by decide, ?_⟩)
  · rw [if_pos a] at h
    unfold sc_pa at h
    refine br_c (fun a => ?_) (fun a => ?_)
    · rw [if_pos a] at h; exact h
    · rw [if_neg a] at h; exact h
  · rw [if_neg a] at h
    unfold sc_pa at h
    refine br_c (fun a => ?_) (fun a => ?_)
    · rw [if_pos a] at h; exact h
    · rw [if_neg a] at h; exact h
theorem y_s1_l {post : SY → Prop} {s e : Nat} {own bB bE : Int32} (he : e ≤ 16) : ∀ (d i : Nat) (l : Int32) (se : Nat → Int32), i + d = e →
    (∃ n110, wY_resolve_110 post (nI s) (nI e) own bB bE cc rl yn n110 (nI s) cl dt df pb lo uf us fi ki wt ef eb di ex cf cs cm lg tx le rr ro fm fL ee en ye lv (sc_s1 d i se l) pg ou) → wY_resolve_40 post (nI s) (nI e) own bB bE cc rl yn (d + 1) l (nI i) cl dt df pb lo uf us fi ki wt ef eb di ex cf cs cm lg tx le rr ro fm fL ee en ye lv se pg ou := by
  intro d
  induction d with
  | zero => exact fun i l se hi h => br_t (nI_le (by omega) (by omega)) h
  | succ d ih =>
    intro i l se hi h
    have v : vp_in (nI i) 16 := vp_in_nI (by omega) (by decide)
    have c : (nI i).toNatClampNeg = i := nI_clamp (by omega)
    unfold sc_s1 at h
    refine br_f (nI_ge (by omega) (by omega)) ⟨v, ?_⟩
    rw [c]
    have lr : (se i = 0 ∨ se i = 1) → wY_resolve_68 post (wY_resolve_40 post (nI s) (nI e) own bB bE cc rl yn (d + 1)) (nI s) (nI e) own bB bE (nI i) cc rl yn cl dt df pb lo uf us fi ki wt ef eb di ex cf cs cm lg tx le rr ro fm fL ee en ye lv se pg ou := by
      intro z
      have n2 : ¬ se i = 2 := z.elim (fun w => by rw [w]; decide) (fun w => by rw [w]; decide)
      rw [if_neg (fun w => n2 w.1), if_pos z] at h
      unfold wY_resolve_68 wY_resolve_77
      rw [c]
      exact ⟨v, nm_e ⟨v, br_f n2 (nm_r (nI_1 i) (ih (i + 1) _ se (by omega) h))⟩⟩
    refine br_c (fun a => lr (Or.inl a)) (fun a => ⟨v, br_c (fun b => lr (Or.inr b)) (fun b => ?_)⟩)
    unfold wY_resolve_77
    rw [c]
    refine ⟨v, br_c (fun q => br_c (fun r => ⟨v, nm_e (nm_r (nI_1 i) (ih (i + 1) l _ (by omega) ?_))⟩) (fun r => nm_r (nI_1 i) (ih (i + 1) l se (by omega) ?_))) (fun q => nm_r (nI_1 i) (ih (i + 1) l se (by omega) ?_))⟩
    · rw [if_pos ⟨q, r⟩] at h; exact h
    · rw [if_neg (fun w => r w.2), if_neg (fun w => w.elim a b)] at h; exact h
    · rw [if_neg (fun w => q w.1), if_neg (fun w => w.elim a b)] at h; exact h
theorem y_fill_l {post : SY → Prop} {J : _} {p3 p4 p5 p6 p7 v : Int32} {j : Nat} (hj : j ≤ 16) : ∀ (d i : Nat) (se : Nat → Int32), i + d = j →
    J (nI (j + 1)) cl dt df pb lo uf us fi ki wt ef eb di ex cf cs cm lg tx le rr ro fm fL ee en ye lv (sc_fi v d i se) pg ou → wY_resolve_223 post J p3 p4 p5 p6 p7 (nI j) v cc rl yn (d + 1) (nI i) cl dt df pb lo uf us fi ki wt ef eb di ex cf cs cm lg tx le rr ro fm fL ee en ye lv se pg ou := by
  intro d
  induction d with
  | zero =>
    intro i se hi h
    obtain rfl : i = j := by omega
    exact br_t (nI_le (by omega) (by omega)) (nm_r (nI_1 i) h)
  | succ d ih => exact fun i se hi h => br_f (nI_ge (by omega) (by omega)) ⟨vp_in_nI (by omega) (by decide), nm_r (e' := upd se i v) (by rw [nI_clamp (by omega)]) (nm_r (nI_1 i) (ih (i + 1) _ (by omega) h))⟩
theorem y_ne_l {post : SY → Prop} {J : _} {p3 p5 p6 p7 p9 : Int32} {e : Nat} (he : e ≤ 16) : ∀ d i, i + d = e →
    wY_resolve_145 post J p3 (nI e) p5 p6 p7 p9 (nI (sc_ne se d i)) cc rl yn cl dt df pb lo uf us fi ki wt ef eb di ex cf cs cm lg tx le rr ro fm fL ee en ye lv se pg ou → wY_resolve_121 post J p3 (nI e) p5 p6 p7 p9 cc rl yn cl dt df pb lo uf us fi ki wt ef eb di ex cf cs cm lg tx le rr ro fm fL ee en ye lv se pg ou (d + 1) (nI i) := by
  intro d
  induction d with
  | zero => exact fun i hi h => br_t (nI_le (by omega) (by omega)) h
  | succ d ih =>
    intro i hi h
    have c : (nI i).toNatClampNeg = i := nI_clamp (by omega)
    unfold sc_ne at h
    refine br_f (nI_ge (by omega) (by omega)) ⟨vp_in_nI (by omega) (by decide), ?_⟩
    rw [c]
    refine br_c (fun a => nm_r (nI_1 i) (ih (i + 1) (by omega) ?_)) (fun a => ?_)
    · rw [if_pos a] at h; exact h
    · rw [if_neg a] at h; exact h
theorem y_nt_l {post : SY → Prop} {fr e : Nat} {own bB bE : Int32} (he : e ≤ 16) :
    ∀ (f k : Nat) (se : Nat → Int32), fr ≤ k → k ≤ e + 1 → e + 2 ≤ f + k →
    (∃ n254, wY_resolve_254 post (nI e) own cc rl yn n254 (nI fr) cl dt df pb lo uf us fi ki wt ef eb di ex cf cs cm lg tx le rr ro fm fL ee en ye lv (sc_nt fr e own bB bE f k se) pg ou) → wY_resolve_110 post (nI fr) (nI e) own bB bE cc rl yn f (nI k) cl dt df pb lo uf us fi ki wt ef eb di ex cf cs cm lg tx le rr ro fm fL ee en ye lv se pg ou := by
  intro f
  induction f with
  | zero => intro k se hk hk2 hf; omega
  | succ f ih =>
    intro k se hk hk2 hf h
    unfold sc_nt at h
    by_cases ek : e ≤ k
    · rw [if_pos ek] at h
      exact br_t (nI_le ek (by omega)) h
    · rw [if_neg ek] at h
      obtain ⟨n1, n2, n3⟩ := sc_neR se (e - k) k
      refine br_f (nI_ge (by omega) (by omega)) ⟨e - k + 1, y_ne_l he (e - k) k (by omega) ?_⟩
      generalize hj : sc_ne se (e - k) k = j at h n1 n2 n3
      have main : wY_resolve_194 post (wY_resolve_110 post (nI fr) (nI e) own bB bE cc rl yn f) (nI fr) (nI e) own bB bE (nI k) (nI j) (sc_bg fr bB se k) (sc_bh e bE se j) cc rl yn cl dt df pb lo uf us fi ki wt ef eb di ex cf cs cm lg tx le rr ro fm fL ee en ye lv se pg ou := by
        have go : ∀ v, v = sc_dv (sc_bg fr bB se k) (sc_bh e bE se j) own → ∃ n223, wY_resolve_223 post (wY_resolve_110 post (nI fr) (nI e) own bB bE cc rl yn f) (nI fr) (nI e) own bB bE (nI j) v cc rl yn n223 (nI k) cl dt df pb lo uf us fi ki wt ef eb di ex cf cs cm lg tx le rr ro fm fL ee en ye lv se pg ou := by
          intro v ev
          rw [← ev] at h
          exact ⟨j - k + 1, y_fill_l (by omega) (j - k) k se (by omega) (ih (j + 1) _ (by omega) (by omega) (by omega) h)⟩
        refine br_c (fun q => go _ ?_) (fun q => ⟨by decide, br_c (fun r => go _ ?_) (fun r => go _ ?_)⟩)
        · unfold sc_dv; rw [if_pos q]
        · unfold sc_dv sc_pa; rw [if_neg q, if_pos r]
        · unfold sc_dv sc_pa; rw [if_neg q, if_neg r]
      have m169 : wY_resolve_169 post (wY_resolve_110 post (nI fr) (nI e) own bB bE cc rl yn f) (nI fr) (nI e) own bB bE (nI k) (nI j) (sc_bg fr bB se k) cc rl yn cl dt df pb lo uf us fi ki wt ef eb di ex cf cs cm lg tx le rr ro fm fL ee en ye lv se pg ou := by
        unfold sc_bh at main
        by_cases ej : j = e
        · rw [if_pos ej] at main
          exact br_t (by rw [ej]) main
        · rw [if_neg ej] at main
          refine br_f (fun z => ej ((nI_eq (by omega) (by omega)).mp z)) ⟨vp_in_nI (by omega) (by decide), ?_⟩
          rw [nI_clamp (by omega)]
          exact y_strong main
      unfold sc_bg at m169
      by_cases ef' : k = fr
      · rw [if_pos ef'] at m169
        exact br_t (by rw [ef']) m169
      · rw [if_neg ef'] at m169
        obtain ⟨q, rfl⟩ : ∃ q, k = q + 1 := ⟨k - 1, by omega⟩
        refine br_f (fun z => ef' ((nI_eq (by omega) (by omega)).mp z)) ?_
        rw [nI_pred, nI_clamp (by omega)]
        exact ⟨vp_in_nI (by omega) (by decide), y_strong m169⟩
theorem y_lv_l {post : SY → Prop} {e : Nat} {own : Int32} (he : e ≤ 16) (ho : vp_in own 7) : ∀ (d i : Nat) (lv : Nat → Int32), i + d = e → (∀ j, i ≤ j → j < e → vp_in (se j) 3) → post (cc, rl, yn, cl, dt, df, pb, lo, uf, us, fi, ki, wt, ef, eb, di, ex, cf, cs, cm, lg, tx, le, rr, ro, fm, fL, ee, en, ye, sc_lv own se d i lv, se, pg, ou) → wY_resolve_254 post (nI e) own cc rl yn (d + 1) (nI i) cl dt df pb lo uf us fi ki wt ef eb di ex cf cs cm lg tx le rr ro fm fL ee en ye lv se pg ou := by
  have pr := sc_par2 (by decide) ho
  intro d
  induction d with
  | zero => exact fun i lv hi hs h => br_t (nI_le (by omega) (by omega)) h
  | succ d ih =>
    intro i lv hi hs h
    have v : vp_in (nI i) 16 := vp_in_nI (by omega) (by decide)
    have c : (nI i).toNatClampNeg = i := nI_clamp (by omega)
    have go : ∀ x, x = sc_lf own (se i) → vp_in (nI i) 16 ∧ ∀ y, y = upd lv i x → ∀ z, z = nI i + 1 → wY_resolve_254 post (nI e) own cc rl yn (d + 1) z cl dt df pb lo uf us fi ki wt ef eb di ex cf cs cm lg tx le rr ro fm fL ee en ye y se pg ou := by
      intro x ex'
      refine ⟨v, nm_e (nm_r (nI_1 i) (ih (i + 1) _ (by omega) (fun j a b => hs j (by omega) b) ?_))⟩
      rw [ex']; exact h
    refine br_f (nI_ge (by omega) (by omega)) ⟨by decide, ?_⟩
    rw [c]
    have s3 := sc_012 (hs i (by omega) (by omega))
    refine br_c (fun a => ⟨v, br_c (fun q => go _ ?_) (fun q => ⟨v, br_c (fun r => go _ ?_) (fun r => go _ ?_)⟩)⟩) (fun a => ⟨v, br_c (fun q => go _ ?_) (fun q => go _ ?_)⟩)
    · unfold sc_lf; rw [if_neg (by rw [a]; decide), if_neg (by rw [q]; decide), if_neg (by rw [q]; decide), Int32.add_zero]
    · unfold sc_lf; rw [if_neg (by rw [a]; decide), if_neg (by rw [r]; decide), if_pos r]
    · unfold sc_lf; rw [if_neg (by rw [a]; decide), if_pos (s3.elim (fun z => absurd z q) (fun z => z.elim (fun w => absurd w r) id))]
    · unfold sc_lf; rw [if_pos (pr.elim (fun z => absurd z a) id), if_pos q, Int32.add_zero]
    · unfold sc_lf; rw [if_pos (pr.elim (fun z => absurd z a) id), if_neg q]
end
