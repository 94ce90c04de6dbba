/-! a row as a list -/
def sc_at : List Int32 → Nat → Int32
  | [], _ => 0
  | x :: _, 0 => x
  | _ :: l, i + 1 => sc_at l i
theorem sc_at_lt : ∀ (l m : List Int32) (i : Nat), i < l.length → sc_at (l ++ m) i = sc_at l i
  | [], _, _, h => absurd h (Nat.not_lt_zero _)
  | _ :: _, _, 0, _ => rfl
  | _ :: l, m, i + 1, h => sc_at_lt l m i (Nat.lt_of_succ_lt_succ h)
theorem sc_at_ge : ∀ (l m : List Int32) (i : Nat), sc_at (l ++ m) (l.length + i) = sc_at m i
  | [], m, i => by show sc_at m (0 + i) = _; rw [Nat.zero_add]
  | x :: l, m, i => by
    show sc_at (x :: (l ++ m)) (l.length + 1 + i) = _
    rw [Nat.add_right_comm]
    exact sc_at_ge l m i
theorem sc_at_ge' (l m : List Int32) {i : Nat} (h : l.length ≤ i) : sc_at (l ++ m) i = sc_at m (i - l.length) := by
  obtain ⟨j, rfl⟩ : ∃ j, i = l.length + j := ⟨i - l.length, by omega⟩
  rw [sc_at_ge, Nat.add_sub_cancel_left]
theorem sc_at_mid (l m : List Int32) (x : Int32) : sc_at (l ++ x :: m) l.length = x := sc_at_ge l (x :: m) 0
theorem sc_at_mem : ∀ (l : List Int32) (i : Nat), i < l.length → sc_at l i ∈ l
  | [], _, h => absurd h (Nat.not_lt_zero _)
  | x :: l, 0, _ => List.mem_cons_self
  | x :: l, i + 1, h => List.mem_cons_of_mem _ (sc_at_mem l i (Nat.lt_of_succ_lt_succ h))
theorem sc_at_ext : ∀ (l m : List Int32), l.length = m.length → (∀ i, i < l.length → sc_at l i = sc_at m i) → l = m
  | [], [], _, _ => rfl
  | [], _ :: _, h, _ => absurd h (by simp)
  | _ :: _, [], h, _ => absurd h (by simp)
  | x :: l, y :: m, h, e => by
    have h0 : x = y := e 0 (by simp)
    have h1 := sc_at_ext l m (by simpa using h) (fun i hi => e (i + 1) (by simpa using hi))
    rw [h0, h1]
def sc_Rp (a : Nat → Int32) (l : List Int32) : Prop := ∀ i, i < l.length → a i = sc_at l i
theorem sc_Rp0 (a : Nat → Int32) : sc_Rp a [] := fun i h => absurd h (Nat.not_lt_zero _)
theorem sc_Rp_mid {a : Nat → Int32} {l m : List Int32} {x : Int32} (h : sc_Rp a (l ++ x :: m)) : a l.length = x := by
  rw [h l.length (by simp), sc_at_mid]
theorem sc_Rp_set {a : Nat → Int32} {l m : List Int32} {x : Int32} (y : Int32) (h : sc_Rp a (l ++ x :: m)) : sc_Rp (upd a l.length y) (l ++ y :: m) := by
  intro i hi
  have hi' : i < (l ++ x :: m).length := by simpa using hi
  by_cases e : i = l.length
  · rw [e, pk_us, sc_at_mid]
  · rw [pk_un e, h i hi']
    rcases Nat.lt_or_ge i l.length with z | z
    · rw [sc_at_lt _ _ _ z, sc_at_lt _ _ _ z]
    · rw [sc_at_ge' _ _ z, sc_at_ge' _ _ z]
      obtain ⟨j, hj⟩ : ∃ j, i - l.length = j + 1 := ⟨i - l.length - 1, by omega⟩
      rw [hj]; rfl
theorem sc_Rp_snoc {a : Nat → Int32} {l : List Int32} (y : Int32) (h : sc_Rp a l) : sc_Rp (upd a l.length y) (l ++ [y]) := by
  intro i hi
  have hi' : i < l.length + 1 := by simpa using hi
  by_cases e : i = l.length
  · rw [e, pk_us, sc_at_mid]
  · rw [pk_un e, h i (by omega), sc_at_lt _ _ _ (by omega)]
theorem sc_Rp_pre {a : Nat → Int32} {l m : List Int32} (h : sc_Rp a (l ++ m)) : sc_Rp a l := by
  intro i hi
  rw [h i (by rw [List.length_append]; omega), sc_at_lt _ _ _ hi]
theorem sc_Rp_eq {a b : Nat → Int32} {l : List Int32} (h : sc_Rp a l) (e : ∀ i, i < l.length → b i = a i) : sc_Rp b l := fun i hi => (e i hi).trans (h i hi)
theorem sc_upV (o : Nat) : ∀ d k a j, sc_up o d k a j = if o + k < j ∧ j ≤ o + k + d then a (j - 1) else a j := by
  intro d
  induction d with
  | zero => intro k a j; exact (if_neg (by omega)).symm
  | succ d ih =>
    intro k a j
    show sc_up o d k (upd a (o + k + d + 1) (a (o + k + d))) j = _
    rw [ih]
    unfold upd
    by_cases h : o + k < j ∧ j ≤ o + k + d
    · rw [if_pos h, if_neg (by omega), if_pos (by omega)]
    · rw [if_neg h]
      by_cases e : j = o + k + d + 1
      · rw [if_pos e, if_pos (by omega), e]; rfl
      · rw [if_neg e, if_neg (by omega)]
theorem sc_dnV (o : Nat) : ∀ d i a j, sc_dn o d i a j = if o + i ≤ j ∧ j < o + i + d then a (j + 1) else a j := by
  intro d
  induction d with
  | zero => intro k a j; exact (if_neg (by omega)).symm
  | succ d ih =>
    intro i a j
    show sc_dn o d (i + 1) (upd a (o + i) (a (o + i + 1))) j = _
    rw [ih]
    unfold upd
    by_cases h : o + (i + 1) ≤ j ∧ j < o + (i + 1) + d
    · rw [if_pos h, if_neg (by omega), if_pos (by omega)]
    · rw [if_neg h]
      by_cases e : j = o + i
      · rw [if_pos e, if_pos (by omega), e]
      · rw [if_neg e, if_neg (by omega)]
theorem sc_Rp_ins {a : Nat → Int32} {l m : List Int32} (c : Int32) (h : sc_Rp a (l ++ m)) : sc_Rp (upd (sc_up 0 m.length l.length a) l.length c) (l ++ c :: m) := by
  intro i hi
  have hi' : i < l.length + m.length + 1 := by simpa [Nat.add_assoc] using hi
  have hh : ∀ j, j < l.length + m.length → a j = sc_at (l ++ m) j := fun j hj => h j (by simpa using hj)
  by_cases e : i = l.length
  · rw [e, pk_us, sc_at_mid]
  · rw [pk_un e, sc_upV, Nat.zero_add]
    rcases Nat.lt_or_ge i l.length with z | z
    · rw [if_neg (by omega), hh i (by omega), sc_at_lt _ _ _ z, sc_at_lt _ _ _ z]
    · obtain ⟨j, rfl⟩ : ∃ j, i = l.length + (j + 1) := ⟨i - l.length - 1, by omega⟩
      rw [if_pos (by omega), sc_at_ge, show l.length + (j + 1) - 1 = l.length + j by omega, hh _ (by omega), sc_at_ge]
      rfl
theorem sc_Rp_del {a : Nat → Int32} {l m : List Int32} {x : Int32} (h : sc_Rp a (l ++ x :: m)) : sc_Rp (sc_dn 0 m.length l.length a) (l ++ m) := by
  intro i hi
  have hi' : i < l.length + m.length := by simpa using hi
  have hh : ∀ j, j < l.length + m.length + 1 → a j = sc_at (l ++ x :: m) j := fun j hj => h j (by simpa [Nat.add_assoc] using hj)
  rw [sc_dnV, Nat.zero_add]
  rcases Nat.lt_or_ge i l.length with z | z
  · rw [if_neg (by omega), hh i (by omega), sc_at_lt _ _ _ z, sc_at_lt _ _ _ z]
  · obtain ⟨j, rfl⟩ : ∃ j, i = l.length + j := ⟨i - l.length, by omega⟩
    rw [if_pos (by omega), sc_at_ge, show l.length + j + 1 = l.length + (j + 1) by omega, hh _ (by omega), sc_at_ge]
    rfl
def sc_All (l : List Int32) : Prop := ∀ x, x ∈ l → vp_in x 48
theorem sc_All_app {l m : List Int32} : sc_All (l ++ m) ↔ sc_All l ∧ sc_All m := by
  constructor
  · exact fun h => ⟨fun x hx => h x (List.mem_append_left _ hx), fun x hx => h x (List.mem_append_right _ hx)⟩
  · exact fun h x hx => (List.mem_append.mp hx).elim (h.1 x) (h.2 x)
theorem sc_All_cons {l : List Int32} {c : Int32} : sc_All (c :: l) ↔ vp_in c 48 ∧ sc_All l := by
  constructor
  · exact fun h => ⟨h c List.mem_cons_self, fun x hx => h x (List.mem_cons_of_mem _ hx)⟩
  · exact fun h x hx => (List.mem_cons.mp hx).elim (fun e => e ▸ h.1) (h.2 x)
theorem sc_All_nil : sc_All [] := fun x hx => absurd hx (by simp)
theorem sc_len_mid (l m : List Int32) (x : Int32) : (l ++ x :: m).length = l.length + m.length + 1 := by simp [Nat.add_assoc]
/-! the stretch of a text -/
def sc_ld (tx : Nat → Int32) (t : Nat) : Nat → Nat → List Int32
  | 0, _ => []
  | d + 1, i => tx (16 * t + i) :: sc_ld tx t d (i + 1)
theorem sc_ldL (tx : Nat → Int32) (t : Nat) : ∀ d i, (sc_ld tx t d i).length = d := by
  intro d
  induction d with
  | zero => exact fun i => rfl
  | succ d ih => exact fun i => congrArg (· + 1) (ih (i + 1))
theorem sc_ldA {tx : Nat → Int32} (h : sc_Chr tx) (t : Nat) : ∀ d i, sc_All (sc_ld tx t d i) := by
  intro d
  induction d with
  | zero => exact fun i => sc_All_nil
  | succ d ih => exact fun i => sc_All_cons.mpr ⟨h _, ih (i + 1)⟩
theorem sc_ldV (tx : Nat → Int32) (t : Nat) : ∀ d i j, j < d → sc_at (sc_ld tx t d i) j = tx (16 * t + i + j) := by
  intro d
  induction d with
  | zero => intro i j h; omega
  | succ d ih =>
    intro i j h
    cases j with
    | zero => rfl
    | succ j =>
      show sc_at (sc_ld tx t d (i + 1)) j = _
      rw [ih (i + 1) j (by omega)]
      exact congrArg tx (by omega)
section
variable {cc rl wl : Int32} {cl dt df ds ex lo uf us fi ki ef es di we cf cs cm tx le rr wk sh fo fl el ec ke kl em oe be pl po : Nat → Int32}
theorem x_append {post : SX → Prop} {n : Nat} {c : Int32} (hn : n < 64) (h : post (cc, rl, nI (n + 1), cl, dt, df, ds, ex, lo, uf, us, fi, ki, ef, es, di, we, cf, cs, cm, tx, le, rr, upd wk n c, sh, fo, fl, el, ec, ke, kl, em, oe, be, pl, po)) : wpX_appendToWork post (cc, rl, nI n, cl, dt, df, ds, ex, lo, uf, us, fi, ki, ef, es, di, we, cf, cs, cm, tx, le, rr, wk, sh, fo, fl, el, ec, ke, kl, em, oe, be, pl, po) c := by
  unfold wpX_appendToWork
  exact br_f (nI_ge (b := 64) hn (by decide)) ⟨vp_in_nI hn (by decide), nm_r (by rw [nI_clamp (by omega)]) (nm_r (nI_1 n) h)⟩
theorem x_load_l {post : SX → Prop} {t e : Nat} {f : Int32} (ht : t < 2) (he : e ≤ 16) :
    ∀ (d i : Nat) (acc : List Int32) (wk : Nat → Int32), i + d = e → acc.length + d ≤ 64 → sc_Rp wk acc →
    (∀ wk, sc_Rp wk (acc ++ sc_ld tx t d i) → wX_makeForm_52 post f (if f < 2 then 1 else 2) cc rl (nI (acc ++ sc_ld tx t d i).length) cl dt df ds ex lo uf us fi ki ef es di we cf cs cm tx le rr wk sh fo fl el ec ke kl em oe be pl po) →
    wX_makeForm_14 post (nI e) f (nI (16 * t)) (d + 1) (nI i) cc rl (nI acc.length) cl dt df ds ex lo uf us fi ki ef es di we cf cs cm tx le rr wk sh fo fl el ec ke kl em oe be pl po := by
  intro d
  induction d with
  | zero =>
    intro i acc wk hi ha hr h
    have h' := h wk (by rw [sc_ld, List.append_nil]; exact hr)
    rw [sc_ld, List.append_nil] at h'
    refine br_t (nI_le (by omega) (by omega)) (br_c (fun a => ?_) (fun a => ?_))
    · rw [if_pos a] at h'; exact h'
    · rw [if_neg a] at h'; exact h'
  | succ d ih =>
    intro i acc wk hi ha hr h
    have e1 : nI (16 * t) + nI i = nI (16 * t + i) := nI_add _ _
    have e2 : (nI (16 * t) + nI i).toNatClampNeg = 16 * t + i := by rw [e1, nI_clamp (by omega)]
    refine br_f (nI_ge (by omega) (by omega)) ⟨pk_in (16 * t + i) 32 (by omega) e1, ?_⟩
    rw [e2]
    refine x_append (by omega) (nm_r (nI_1 i) ?_)
    have g := ih (i + 1) (acc ++ [tx (16 * t + i)]) (upd wk acc.length (tx (16 * t + i))) (by omega) (by simp; omega) (sc_Rp_snoc _ hr)
    rw [List.append_assoc, List.length_append (as := acc) (bs := [tx (16 * t + i)])] at g
    exact g h
theorem x_load {post : SX → Prop} {t b e : Nat} {f : Int32} (ht : t < 2) (he : e ≤ 16) (hb : b ≤ e)
    (h : ∀ wk, sc_Rp wk (sc_ld tx t (e - b) b) → wX_makeForm_52 post f (if f < 2 then 1 else 2) cc rl (nI (sc_ld tx t (e - b) b).length) cl dt df ds ex lo uf us fi ki ef es di we cf cs cm tx le rr wk sh fo fl el ec ke kl em oe be pl po) : wpX_makeForm post (cc, rl, wl, cl, dt, df, ds, ex, lo, uf, us, fi, ki, ef, es, di, we, cf, cs, cm, tx, le, rr, wk, sh, fo, fl, el, ec, ke, kl, em, oe, be, pl, po) (nI t) (nI b) (nI e) f := by
  unfold wpX_makeForm
  exact nm_r (sn_t16 t) ⟨_, x_load_l ht he (e - b) b [] wk (by omega) (by simp; omega) (sc_Rp0 _) h⟩
end
section
variable {cc rl yn : Int32} {cl dt df pb lo uf us fi ki wt ef eb di ex cf cs cm lg tx le rr ro fm fL ee en ye lv se pg ou : Nat → Int32}
theorem y_load_l {post : SY → Prop} {t e : Nat} (ht : t < 2) (he : e ≤ 16) :
    ∀ (d i : Nat) (acc : List Int32) (ro : Nat → Int32), i + d = e → acc.length + d ≤ 64 → sc_Rp ro acc →
    (∀ ro, sc_Rp ro (acc ++ sc_ld tx t d i) → post (cc, rl, nI (acc ++ sc_ld tx t d i).length, cl, dt, df, pb, lo, uf, us, fi, ki, wt, ef, eb, di, ex, cf, cs, cm, lg, tx, le, rr, ro, fm, fL, ee, en, ye, lv, se, pg, ou)) →
    wY_load_8 post (nI t) (nI e) cc rl (d + 1) (nI i) (nI acc.length) cl dt df pb lo uf us fi ki wt ef eb di ex cf cs cm lg tx le rr ro fm fL ee en ye lv se pg ou := by
  intro d
  induction d with
  | zero =>
    intro i acc ro hi ha hr h
    have h' := h ro (by rw [sc_ld, List.append_nil]; exact hr)
    rw [sc_ld, List.append_nil] at h'
    exact br_t (nI_le (by omega) (by omega)) h'
  | succ d ih =>
    intro i acc ro hi ha hr h
    have e1 : 16 * nI t + nI i = nI (16 * t + i) := sn_16 _ _
    have e2 : (16 * nI t + nI i).toNatClampNeg = 16 * t + i := by rw [e1, nI_clamp (by omega)]
    have g := ih (i + 1) (acc ++ [tx (16 * t + i)]) (upd ro acc.length (tx (16 * t + i))) (by omega) (by simp; omega) (sc_Rp_snoc _ hr)
    rw [List.append_assoc, List.length_append (as := acc) (bs := [tx (16 * t + i)])] at g
    exact br_f (nI_ge (by omega) (by omega)) ⟨pk_in (16 * t + i) 32 (by omega) e1, vp_in_nI (by omega) (by decide), nm_r (by rw [e2, nI_clamp (by omega)]) (nm_r (nI_1 _) (nm_r (nI_1 i) (g h)))⟩
theorem y_load {post : SY → Prop} {t b e : Nat} (ht : t < 2) (he : e ≤ 16) (hb : b ≤ e)
    (h : ∀ ro, sc_Rp ro (sc_ld tx t (e - b) b) → post (cc, rl, nI (sc_ld tx t (e - b) b).length, cl, dt, df, pb, lo, uf, us, fi, ki, wt, ef, eb, di, ex, cf, cs, cm, lg, tx, le, rr, ro, fm, fL, ee, en, ye, lv, se, pg, ou)) : wpY_load post (cc, rl, yn, cl, dt, df, pb, lo, uf, us, fi, ki, wt, ef, eb, di, ex, cf, cs, cm, lg, tx, le, rr, ro, fm, fL, ee, en, ye, lv, se, pg, ou) (nI t) (nI b) (nI e) := by
  unfold wpY_load
  exact ⟨_, y_load_l ht he (e - b) b [] ro (by omega) (by simp; omega) (sc_Rp0 _) h⟩
end
