/-! the relation: both sides hold the same descriptions, texts and result; the rows for the page too; other scratch fields are free -/
def sc_Chr (f : Nat → Int32) : Prop := ∀ i, vp_in (f i) 48
def sc_Opt (f : Nat → Int32) : Prop := ∀ i, f i = -1 ∨ vp_in (f i) 48
def sc_Pot (dt df ds : Nat → Int32) (L : Nat → Nat) : Prop :=
  (∀ i, 1 ≤ L i ∧ L i ≤ 4) ∧ ∀ i, i < 48 → ¬ dt i = 0 → L (df i).toNatClampNeg + (if ds i = -1 then 0 else L (ds i).toNatClampNeg) ≤ L i
def sc_Dec (dt df ds : Nat → Int32) : Prop :=
  (∀ i, dt i = 0 ∨ dt i = 1 ∨ dt i = 2) ∧
  (∀ i, i < 48 → ¬ dt i = 0 → (∃ j, j < i ∧ df i = nI j) ∧ (ds i = -1 ∨ ∃ j, j < i ∧ ds i = nI j)) ∧
  ∃ L : Nat → Nat, sc_Pot dt df ds L
def sc_Inv (cc rl : Int32) (cl dt df ds pb lo uf us fi ef es eb di cm tx le rr we wt : Nat → Int32) : Prop :=
  (∃ m : Nat, m ≤ 6 ∧ cc = nI m) ∧ (∃ r : Nat, r ≤ 64 ∧ rl = nI r) ∧ (∀ t, t < 2 → ∃ n : Nat, n ≤ 16 ∧ le t = nI n) ∧
  sc_Chr tx ∧ sc_Chr rr ∧ sc_Chr lo ∧ sc_Chr uf ∧ sc_Opt us ∧ sc_Opt fi ∧ (∀ i, vp_in (cl i) 10) ∧ (∀ i, vp_in (di i) 7) ∧ sc_Chr cm ∧
  sc_Opt ef ∧ (∀ i, i < 48 → ¬ ef i = -1 → vp_in (es i) 48 ∧ eb i = es i) ∧ (∀ i, i < 48 → ¬ dt i = 0 → pb i = ds i) ∧ sc_Dec dt df ds ∧
  (∀ c l, c < 48 → l < 3 → we (48 * l + c) = wt (3 * c + l))
def i_Rel (k : Nat) (u : SX) (v : SY) : Prop :=
  ∃ (cc rl wl yn : Int32) (cl dt df ds ex lo uf us fi ki ef es di we cf cs cm tx le rr wk sh fo fl el ec ke kl em oe be pl po : Nat → Int32) (pb wt eb lg ro fm fL ee en : Nat → Int32),
    u = (cc, rl, wl, cl, dt, df, ds, ex, lo, uf, us, fi, ki, ef, es, di, we, cf, cs, cm, tx, le, rr, wk, sh, fo, fl, el, ec, ke, kl, em, oe, be, pl, po) ∧ v = (cc, rl, yn, cl, dt, df, pb, lo, uf, us, fi, ki, wt, ef, eb, di, ex, cf, cs, cm, lg, tx, le, rr, ro, fm, fL, ee, en, em, pl, be, po, oe) ∧ sc_Inv cc rl cl dt df ds pb lo uf us fi ef es eb di cm tx le rr we wt
theorem i_up {k : Nat} {u : SX} {v : SY} (h : i_Rel k u v) : i_Rel (k + 5) u v := h
theorem sc_mk {cc rl wl yn : Int32} {cl dt df ds ex lo uf us fi ki ef es di we cf cs cm tx le rr wk sh fo fl el ec ke kl em oe be pl po pb wt eb lg ro fm fL ee en : Nat → Int32} {k : Nat} (h : sc_Inv cc rl cl dt df ds pb lo uf us fi ef es eb di cm tx le rr we wt) : i_Rel k (cc, rl, wl, cl, dt, df, ds, ex, lo, uf, us, fi, ki, ef, es, di, we, cf, cs, cm, tx, le, rr, wk, sh, fo, fl, el, ec, ke, kl, em, oe, be, pl, po) (cc, rl, yn, cl, dt, df, pb, lo, uf, us, fi, ki, wt, ef, eb, di, ex, cf, cs, cm, lg, tx, le, rr, ro, fm, fL, ee, en, em, pl, be, po, oe) :=
  ⟨cc, rl, wl, yn, cl, dt, df, ds, ex, lo, uf, us, fi, ki, ef, es, di, we, cf, cs, cm, tx, le, rr, wk, sh, fo, fl, el, ec, ke, kl, em, oe, be, pl, po, pb, wt, eb, lg, ro, fm, fL, ee, en, rfl, rfl, h⟩
/-! small numbers -/
theorem sn_16 (t k : Nat) : 16 * nI t + nI k = nI (16 * t + k) := by
  rw [show (16 : Int32) = nI 16 from rfl, pk_mul, nI_add]
theorem sn_t16 (t : Nat) : nI t * 16 = nI (16 * t) := by
  rw [show (16 : Int32) = nI 16 from rfl, pk_mul, Nat.mul_comm]
theorem sn_text (t : Int32) : (∃ j, j < 2 ∧ t = nI j) ∨ (¬ t = 0 ∧ ¬ t = 1 ∧ (t < 0 ∨ ¬ t < 0 ∧ 2 ≤ t)) := by
  by_cases h : t < 0
  · exact Or.inr ⟨fun e => by subst e; exact absurd h (by decide), fun e => by subst e; exact absurd h (by decide), Or.inl h⟩
  · obtain ⟨j, hj, rfl⟩ := nI_of h
    by_cases h2 : j < 2
    · exact Or.inl ⟨j, h2, rfl⟩
    · refine Or.inr ⟨fun e => ?_, fun e => ?_, Or.inr ⟨h, nI_le (a := 2) (by omega) hj⟩⟩
      · have := (nI_eq (b := 0) hj (by decide)).mp e; omega
      · have := (nI_eq (b := 1) hj (by decide)).mp e; omega
theorem sn_char (t : Int32) : (∃ j, j < 48 ∧ t = nI j) ∨ (t < 0 ∨ ¬ t < 0 ∧ 48 ≤ t) := by
  by_cases h : t < 0
  · exact Or.inr (Or.inl h)
  · obtain ⟨j, hj, rfl⟩ := nI_of h
    by_cases h2 : j < 48
    · exact Or.inl ⟨j, h2, rfl⟩
    · exact Or.inr (Or.inr ⟨h, nI_le (a := 48) (by omega) hj⟩)
theorem sn_pos {n : Nat} {x : Int32} (h : vp_in x n) : ¬ x < 0 := fun z => h (Or.inl z)
theorem sn_cl {n : Nat} {x : Int32} (h : vp_in x n) : x.toNatClampNeg < n := Nat.lt_of_not_le (fun z => h (Or.inr z))
theorem sn_val {n : Nat} {x : Int32} (h : vp_in x n) (hn : n < 2 ^ 31) : x = nI x.toNatClampNeg := by
  obtain ⟨j, hj, rfl⟩ := vp_in_of h hn
  rw [nI_clamp (by omega)]
section
variable {cc rl wl : Int32} {cl dt df ds ex lo uf us fi ki ef es di we cf cs cm tx le rr wk sh fo fl el ec ke kl em oe be pl po : Nat → Int32}
theorem xs_text1 {post : Int32 → Prop} {t : Nat} (ht : t < 2) (h : post 1) : wpX_isText post (cc, rl, wl, cl, dt, df, ds, ex, lo, uf, us, fi, ki, ef, es, di, we, cf, cs, cm, tx, le, rr, wk, sh, fo, fl, el, ec, ke, kl, em, oe, be, pl, po) (nI t) :=
  br_f (nI_pos (by omega)) (br_f (nI_ge (b := 2) ht (by decide)) h)
theorem xs_text0 {post : Int32 → Prop} {t : Int32} (ht : t < 0 ∨ ¬ t < 0 ∧ 2 ≤ t) (h : post 0) : wpX_isText post (cc, rl, wl, cl, dt, df, ds, ex, lo, uf, us, fi, ki, ef, es, di, we, cf, cs, cm, tx, le, rr, wk, sh, fo, fl, el, ec, ke, kl, em, oe, be, pl, po) t :=
  ht.elim (fun z => br_t z h) (fun z => br_f z.1 (br_t z.2 h))
theorem xs_char1 {post : Int32 → Prop} {t : Nat} (ht : t < 48) (h : post 1) : wpX_isCharacter post (cc, rl, wl, cl, dt, df, ds, ex, lo, uf, us, fi, ki, ef, es, di, we, cf, cs, cm, tx, le, rr, wk, sh, fo, fl, el, ec, ke, kl, em, oe, be, pl, po) (nI t) :=
  br_f (nI_pos (by omega)) (br_f (nI_ge (b := 48) ht (by decide)) h)
theorem xs_char0 {post : Int32 → Prop} {t : Int32} (ht : t < 0 ∨ ¬ t < 0 ∧ 48 ≤ t) (h : post 0) : wpX_isCharacter post (cc, rl, wl, cl, dt, df, ds, ex, lo, uf, us, fi, ki, ef, es, di, we, cf, cs, cm, tx, le, rr, wk, sh, fo, fl, el, ec, ke, kl, em, oe, be, pl, po) t :=
  ht.elim (fun z => br_t z h) (fun z => br_f z.1 (br_t z.2 h))
end
theorem ys_text1 {post : Int32 → Prop} {t : Nat} (ht : t < 2) (h : post 1) : wpY_isText post (nI t) := by
  rcases Nat.lt_or_ge t 1 with z | z
  · obtain rfl : t = 0 := by omega
    exact br_t rfl h
  · obtain rfl : t = 1 := by omega
    exact br_f (by decide) (br_t rfl h)
theorem ys_text0 {post : Int32 → Prop} {t : Int32} (h0 : ¬ t = 0) (h1 : ¬ t = 1) (h : post 0) : wpY_isText post t := br_f h0 (br_f h1 h)
theorem ys_in1 {post : Int32 → Prop} {a b c : Int32} (h1 : ¬ a < b) (h2 : ¬ c < a) (h : post 1) : wpY_in post a b c := br_f h1 (br_f h2 h)
theorem ys_char1 {post : Int32 → Prop} {t : Nat} (ht : t < 48) (h : post 1) : wpY_isChar post (nI t) :=
  ys_in1 (post := fun r_1 => narrow .boolean (.int r_1) = .int r_1 ∧ post r_1) (nI_pos (by omega)) (nI_nlt (a := 47) (by omega) (by decide)) ⟨rfl, h⟩
theorem ys_char0 {post : Int32 → Prop} {t : Int32} (ht : t < 0 ∨ ¬ t < 0 ∧ 48 ≤ t) (h : post 0) : wpY_isChar post t := by
  have e : 48 ≤ t → 47 < t := fun z => by
    rw [Int32.lt_iff_toInt_lt]; rw [Int32.le_iff_toInt_le] at z
    have h1 : (48 : Int32).toInt = 48 := by decide
    have h2 : (47 : Int32).toInt = 47 := by decide
    omega
  exact ht.elim (fun z => br_t z ⟨rfl, h⟩) (fun z => br_f z.1 (br_t (e z.2) ⟨rfl, h⟩))
