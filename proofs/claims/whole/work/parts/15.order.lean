/-! ordering: insertion on one side, exchanges of neighbours on the other -/
def sc_ir (cl : Nat → Int32) (x : Int32) : List Int32 → List Int32
  | [] => [x]
  | y :: r => if cl y.toNatClampNeg ≤ cl x.toNatClampNeg then x :: y :: r else y :: sc_ir cl x r
def sc_io (cl : Nat → Int32) (x : Int32) (r : List Int32) : List Int32 := if cl x.toNatClampNeg ≤ 0 then x :: r else sc_ir cl x r
def sc_F (cl : Nat → Int32) : List Int32 → List Int32 → List Int32
  | r, [] => r
  | r, x :: l => sc_F cl (sc_io cl x r) l
def sc_od (cl : Nat → Int32) (l : List Int32) : List Int32 := (sc_F cl [] l).reverse
def sc_sw (cl : Nat → Int32) (x y : Int32) : Prop := ¬ cl x.toNatClampNeg ≤ cl y.toNatClampNeg ∧ ¬ cl y.toNatClampNeg ≤ 0
noncomputable def sc_ps (cl : Nat → Int32) : Int32 → List Int32 → List Int32
  | x, [] => [x]
  | x, y :: l => @ite _ (sc_sw cl x y) (Classical.propDecidable _) (y :: sc_ps cl x l) (x :: sc_ps cl y l)
def sc_pf (cl : Nat → Int32) : Int32 → List Int32 → Prop
  | _, [] => False
  | x, y :: l => sc_sw cl x y ∨ sc_pf cl y l
def sc_wv (cl : Nat → Int32) : Nat → List Int32 → Nat
  | _, [] => 0
  | k, x :: l => k * (cl x.toNatClampNeg).toNatClampNeg + sc_wv cl (k + 1) l
theorem sc_irL (cl : Nat → Int32) (x : Int32) : ∀ r, (sc_ir cl x r).length = r.length + 1
  | [] => rfl
  | y :: r => by
    unfold sc_ir
    by_cases h : cl y.toNatClampNeg ≤ cl x.toNatClampNeg
    · rw [if_pos h]; rfl
    · rw [if_neg h]; exact congrArg (· + 1) (sc_irL cl x r)
theorem sc_ioL (cl : Nat → Int32) (x : Int32) (r : List Int32) : (sc_io cl x r).length = r.length + 1 := by
  unfold sc_io
  by_cases h : cl x.toNatClampNeg ≤ 0
  · rw [if_pos h]; rfl
  · rw [if_neg h]; exact sc_irL cl x r
theorem sc_FL (cl : Nat → Int32) : ∀ l r, (sc_F cl r l).length = r.length + l.length
  | [], r => rfl
  | x :: l, r => by
    show (sc_F cl (sc_io cl x r) l).length = r.length + (l.length + 1)
    rw [sc_FL cl l, sc_ioL]; omega
theorem sc_irA (cl : Nat → Int32) {x : Int32} (hx : vp_in x 48) : ∀ r, sc_All r → sc_All (sc_ir cl x r)
  | [], _ => sc_All_cons.mpr ⟨hx, sc_All_nil⟩
  | y :: r, h => by
    unfold sc_ir
    by_cases z : cl y.toNatClampNeg ≤ cl x.toNatClampNeg
    · rw [if_pos z]; exact sc_All_cons.mpr ⟨hx, h⟩
    · rw [if_neg z]; exact sc_All_cons.mpr ⟨(sc_All_cons.mp h).1, sc_irA cl hx r (sc_All_cons.mp h).2⟩
theorem sc_FA (cl : Nat → Int32) : ∀ l r, sc_All r → sc_All l → sc_All (sc_F cl r l)
  | [], r, h, _ => h
  | x :: l, r, h, h2 => by
    refine sc_FA cl l _ ?_ (sc_All_cons.mp h2).2
    unfold sc_io
    by_cases z : cl x.toNatClampNeg ≤ 0
    · rw [if_pos z]; exact sc_All_cons.mpr ⟨(sc_All_cons.mp h2).1, h⟩
    · rw [if_neg z]; exact sc_irA cl (sc_All_cons.mp h2).1 r h
theorem sc_odL (cl : Nat → Int32) (l : List Int32) : (sc_od cl l).length = l.length := by
  unfold sc_od
  rw [List.length_reverse, sc_FL]; exact Nat.zero_add _
theorem sc_odA (cl : Nat → Int32) {l : List Int32} (h : sc_All l) : sc_All (sc_od cl l) := fun x hx => sc_FA cl l [] sc_All_nil h x (List.mem_reverse.mp hx)
theorem sc_irC {cl : Nat → Int32} {x y : Int32} (h : ¬ cl x.toNatClampNeg ≤ cl y.toNatClampNeg) : ∀ r, sc_ir cl x (sc_ir cl y r) = sc_ir cl y (sc_ir cl x r)
  | [] => by
    have h' : cl y.toNatClampNeg ≤ cl x.toNatClampNeg := Int32.le_of_lt (Int32.not_le.mp h)
    show sc_ir cl x [y] = sc_ir cl y [x]
    unfold sc_ir
    rw [if_pos h', if_neg h]
    rfl
  | z :: r => by
    have h' : cl y.toNatClampNeg ≤ cl x.toNatClampNeg := Int32.le_of_lt (Int32.not_le.mp h)
    have ih := sc_irC h r
    by_cases a : cl z.toNatClampNeg ≤ cl y.toNatClampNeg
    · have b : cl z.toNatClampNeg ≤ cl x.toNatClampNeg := Int32.le_trans a h'
      have e1 : sc_ir cl y (z :: r) = y :: z :: r := by rw [sc_ir, if_pos a]
      have e2 : sc_ir cl x (z :: r) = x :: z :: r := by rw [sc_ir, if_pos b]
      have e3 : sc_ir cl x (y :: z :: r) = x :: y :: z :: r := by rw [sc_ir, if_pos h']
      have e4 : sc_ir cl y (x :: z :: r) = x :: sc_ir cl y (z :: r) := by rw [sc_ir, if_neg h]
      rw [e1, e2, e3, e4, e1]
    · have e1 : sc_ir cl y (z :: r) = z :: sc_ir cl y r := by rw [sc_ir, if_neg a]
      by_cases b : cl z.toNatClampNeg ≤ cl x.toNatClampNeg
      · have e2 : sc_ir cl x (z :: r) = x :: z :: r := by rw [sc_ir, if_pos b]
        have e3 : sc_ir cl x (z :: sc_ir cl y r) = x :: z :: sc_ir cl y r := by rw [sc_ir, if_pos b]
        have e4 : sc_ir cl y (x :: z :: r) = x :: sc_ir cl y (z :: r) := by rw [sc_ir, if_neg h]
        rw [e1, e2, e3, e4, e1]
      · have e2 : sc_ir cl x (z :: r) = z :: sc_ir cl x r := by rw [sc_ir, if_neg b]
        have e3 : sc_ir cl x (z :: sc_ir cl y r) = z :: sc_ir cl x (sc_ir cl y r) := by rw [sc_ir, if_neg b]
        have e4 : sc_ir cl y (z :: sc_ir cl x r) = z :: sc_ir cl y (sc_ir cl x r) := by rw [sc_ir, if_neg a]
        rw [e1, e2, e3, e4, ih]
theorem sc_ioC {cl : Nat → Int32} {x y : Int32} (h : sc_sw cl x y) (r : List Int32) : sc_io cl x (sc_io cl y r) = sc_io cl y (sc_io cl x r) := by
  have hx : ¬ cl x.toNatClampNeg ≤ 0 := fun z => h.2 (Int32.le_trans (Int32.le_of_lt (Int32.not_le.mp h.1)) z)
  unfold sc_io
  rw [if_neg h.2, if_neg hx, if_neg h.2, if_neg hx]
  exact sc_irC h.1 r
theorem sc_psF (cl : Nat → Int32) : ∀ l x r, sc_F cl r (sc_ps cl x l) = sc_F cl r (x :: l)
  | [], x, r => rfl
  | y :: l, x, r => by
    unfold sc_ps
    by_cases h : sc_sw cl x y
    · rw [if_pos h]
      show sc_F cl (sc_io cl y r) (sc_ps cl x l) = sc_F cl (sc_io cl y (sc_io cl x r)) l
      rw [sc_psF cl l x, ← sc_ioC h]; rfl
    · rw [if_neg h]
      show sc_F cl (sc_io cl x r) (sc_ps cl y l) = sc_F cl (sc_io cl x r) (y :: l)
      rw [sc_psF cl l y]
theorem sc_psN (cl : Nat → Int32) : ∀ l x, ¬ sc_pf cl x l → sc_ps cl x l = x :: l
  | [], x, _ => rfl
  | y :: l, x, h => by
    unfold sc_ps
    rw [if_neg (fun z => h (Or.inl z)), sc_psN cl l y (fun z => h (Or.inr z))]
theorem sc_psO (cl : Nat → Int32) : ∀ l x r, ¬ sc_pf cl x l → sc_F cl (x :: r) l = l.reverse ++ x :: r
  | [], x, r, _ => rfl
  | y :: l, x, r, h => by
    have e : sc_io cl y (x :: r) = y :: x :: r := by
      unfold sc_io
      by_cases z : cl y.toNatClampNeg ≤ 0
      · rw [if_pos z]
      · rw [if_neg z, sc_ir]
        by_cases w : cl x.toNatClampNeg ≤ cl y.toNatClampNeg
        · rw [if_pos w]
        · exact absurd (Or.inl ⟨w, z⟩) h
    show sc_F cl (sc_io cl y (x :: r)) l = _
    rw [e, sc_psO cl l y (x :: r) (fun z => h (Or.inr z)), List.reverse_cons, List.append_assoc]
    rfl
theorem sc_io0 (cl : Nat → Int32) (x : Int32) : sc_io cl x [] = [x] := by
  unfold sc_io
  by_cases z : cl x.toNatClampNeg ≤ 0
  · rw [if_pos z]
  · rw [if_neg z]; rfl
theorem sc_odN {cl : Nat → Int32} {x : Int32} {l : List Int32} (h : ¬ sc_pf cl x l) : sc_od cl (x :: l) = x :: l := by
  unfold sc_od
  show (sc_F cl (sc_io cl x []) l).reverse = _
  rw [sc_io0, sc_psO cl l x [] h]
  simp
theorem sc_odP (cl : Nat → Int32) (x : Int32) (l : List Int32) : sc_od cl (sc_ps cl x l) = sc_od cl (x :: l) := by
  unfold sc_od
  rw [sc_psF]
theorem sc_psL (cl : Nat → Int32) : ∀ l x, (sc_ps cl x l).length = l.length + 1
  | [], x => rfl
  | y :: l, x => by
    unfold sc_ps
    by_cases h : sc_sw cl x y
    · rw [if_pos h]; exact congrArg (· + 1) (sc_psL cl l x)
    · rw [if_neg h]; exact congrArg (· + 1) (sc_psL cl l y)
theorem sc_psA (cl : Nat → Int32) : ∀ l x, sc_All (x :: l) → sc_All (sc_ps cl x l)
  | [], x, h => h
  | y :: l, x, h => by
    obtain ⟨h1, h2⟩ := sc_All_cons.mp h
    obtain ⟨h3, h4⟩ := sc_All_cons.mp h2
    unfold sc_ps
    by_cases z : sc_sw cl x y
    · rw [if_pos z]; exact sc_All_cons.mpr ⟨h3, sc_psA cl l x (sc_All_cons.mpr ⟨h1, h4⟩)⟩
    · rw [if_neg z]; exact sc_All_cons.mpr ⟨h1, sc_psA cl l y h2⟩
theorem sc_rk {cl : Nat → Int32} (hc : ∀ i, vp_in (cl i) 10) {x y : Int32} (h : sc_sw cl x y) : (cl y.toNatClampNeg).toNatClampNeg < (cl x.toNatClampNeg).toNatClampNeg := by
  have e1 := sn_val (hc x.toNatClampNeg) (by decide)
  have e2 := sn_val (hc y.toNatClampNeg) (by decide)
  have l1 := sn_cl (hc x.toNatClampNeg)
  have l2 := sn_cl (hc y.toNatClampNeg)
  rcases Nat.lt_or_ge (cl y.toNatClampNeg).toNatClampNeg (cl x.toNatClampNeg).toNatClampNeg with z | z
  · exact z
  · refine absurd ?_ h.1
    rw [e1, e2]
    exact nI_le z (by omega)
theorem sc_psW {cl : Nat → Int32} (hc : ∀ i, vp_in (cl i) 10) : ∀ l x k, sc_wv cl k (x :: l) ≤ sc_wv cl k (sc_ps cl x l) ∧ (sc_pf cl x l → sc_wv cl k (x :: l) < sc_wv cl k (sc_ps cl x l))
  | [], x, k => ⟨Nat.le_refl _, fun h => absurd h id⟩
  | y :: l, x, k => by
    unfold sc_ps
    by_cases h : sc_sw cl x y
    · rw [if_pos h]
      have ih := (sc_psW hc l x (k + 1)).1
      have r := sc_rk hc h
      have e1 : sc_wv cl k (x :: y :: l) = k * (cl x.toNatClampNeg).toNatClampNeg + ((k + 1) * (cl y.toNatClampNeg).toNatClampNeg + sc_wv cl (k + 1 + 1) l) := rfl
      have e2 : sc_wv cl k (y :: sc_ps cl x l) = k * (cl y.toNatClampNeg).toNatClampNeg + sc_wv cl (k + 1) (sc_ps cl x l) := rfl
      have e3 : sc_wv cl (k + 1) (x :: l) = (k + 1) * (cl x.toNatClampNeg).toNatClampNeg + sc_wv cl (k + 1 + 1) l := rfl
      rw [Nat.succ_mul] at e1 e3
      exact ⟨by omega, fun _ => by omega⟩
    · rw [if_neg h]
      have ih := sc_psW hc l y (k + 1)
      have e1 : sc_wv cl k (x :: y :: l) = k * (cl x.toNatClampNeg).toNatClampNeg + sc_wv cl (k + 1) (y :: l) := rfl
      have e2 : sc_wv cl k (x :: sc_ps cl y l) = k * (cl x.toNatClampNeg).toNatClampNeg + sc_wv cl (k + 1) (sc_ps cl y l) := rfl
      refine ⟨by omega, fun z => ?_⟩
      have := ih.2 (z.elim (fun w => absurd w h) id)
      omega
theorem sc_wvB {cl : Nat → Int32} (hc : ∀ i, vp_in (cl i) 10) : ∀ l k, k + l.length ≤ 64 → sc_wv cl k l ≤ 640 * l.length
  | [], k, _ => Nat.zero_le _
  | x :: l, k, h => by
    have h' : k + (l.length + 1) ≤ 64 := h
    have ih := sc_wvB hc l (k + 1) (by omega)
    have l1 := sn_cl (hc x.toNatClampNeg)
    have m : k * (cl x.toNatClampNeg).toNatClampNeg ≤ 64 * 10 := Nat.mul_le_mul (by omega) (by omega)
    show k * (cl x.toNatClampNeg).toNatClampNeg + sc_wv cl (k + 1) l ≤ 640 * (l.length + 1)
    omega
section
variable {cc rl wl : Int32} {cl dt df ds ex lo uf us fi ki ef es di we cf cs cm tx le rr wk sh fo fl el ec ke kl em oe be pl po : Nat → Int32}
theorem x_ord_i {post : SX → Prop} {J : Int32 → (Nat → Int32) → Prop} {J2 : _} {i : Nat} {x : Int32} (hx : vp_in x 48)
    (hJ : ∀ wk, J (nI (i + 1)) wk → J2 (nI (i + 1)) cl dt df ds ex lo uf us fi ki ef es di we cf cs cm tx le rr wk sh fo fl el ec ke kl em oe be pl po) :
    ∀ (r : List Int32) (h : Int32) (s : List Int32) (wk : Nat → Int32), r.length + 1 + s.length ≤ 64 → sc_All r → sc_Rp wk (r.reverse ++ h :: s) →
    (∀ wk, sc_Rp wk ((sc_ir cl x r).reverse ++ s) → J (nI (i + 1)) wk) →
    wX_orderWork_31 post J2 (nI i) x cc rl wl (r.length + 1) (nI r.length) (nI r.length) cl dt df ds ex lo uf us fi ki ef es di we cf cs cm tx le rr wk sh fo fl el ec ke kl em oe be pl po := by
  intro r
  induction r with
  | nil =>
    intro h s wk hl hA hr hk
    refine br_t (by decide) ⟨vp_in_nI (by simp) (by decide), nm_e (nm_r (nI_1 i) (hJ _ (hk _ ?_)))⟩
    exact sc_Rp_set (l := []) x hr
  | cons y r ih =>
    intro h s wk hl hA hr hk
    have hl' : r.length + 1 + 1 + s.length ≤ 64 := hl
    have hr2 := hr
    rw [List.reverse_cons, List.append_assoc] at hr2
    have ey : wk (nI (r.length + 1) - 1).toNatClampNeg = y := by
      rw [nI_pred, nI_clamp (by omega)]
      have := sc_Rp_mid hr2
      rw [List.length_reverse] at this
      exact this
    have e1 : (nI (r.length + 1)).toNatClampNeg = r.length + 1 := nI_clamp (by omega)
    have lr : (y :: r).reverse.length = r.length + 1 := by rw [List.length_reverse]; rfl
    have v1 : vp_in (nI (r.length + 1)) 64 := vp_in_nI (by omega) (by decide)
    have v0 : vp_in (nI (r.length + 1) - 1) 64 := by rw [nI_pred]; exact vp_in_nI (by omega) (by decide)
    unfold sc_ir at hk
    refine br_f (nI_nle (by simp) (by simp; omega)) ⟨v0, by show vp_in (wk (nI (r.length + 1) - 1).toNatClampNeg) 48; rw [ey]; exact (sc_All_cons.mp hA).1, hx, ?_⟩
    show (cl (wk (nI (r.length + 1) - 1).toNatClampNeg).toNatClampNeg ≤ cl x.toNatClampNeg → _) ∧ (¬ cl (wk (nI (r.length + 1) - 1).toNatClampNeg).toNatClampNeg ≤ cl x.toNatClampNeg → _)
    rw [ey]
    refine br_c (fun a => ⟨v1, nm_r (e' := upd wk (r.length + 1) x) (by show upd wk (nI (r.length + 1)).toNatClampNeg x = _; rw [e1]) (nm_r (nI_1 i) (hJ _ (hk _ ?_)))⟩) (fun a => ⟨v0, v1, nm_r (e' := upd wk (r.length + 1) y) (by show upd wk (nI (r.length + 1)).toNatClampNeg (wk (nI (r.length + 1) - 1).toNatClampNeg) = _; rw [e1, ey]) (nm_r (nI_pred _) (nm_r (pk_m1 _) (ih y (y :: s) _ (by simp; omega) (sc_All_cons.mp hA).2 ?_ (fun wk' hr' => hk wk' ?_))))⟩)
    · rw [if_pos a, List.reverse_cons]
      have := sc_Rp_set x hr
      rw [lr] at this
      rw [List.append_assoc]
      exact this
    · have := sc_Rp_set y hr
      rw [lr, List.reverse_cons, List.append_assoc] at this
      exact this
    · rw [if_neg a, List.reverse_cons, List.append_assoc]
      exact hr'
theorem x_ord_l {post : SX → Prop} {N : Nat} (hN : N ≤ 64) :
    ∀ (rest r : List Int32) (wk : Nat → Int32), r.length + rest.length = N → sc_All r → sc_All rest → sc_Rp wk (r.reverse ++ rest) →
    (∀ wk, sc_Rp wk ((sc_F cl r rest).reverse) → post (cc, rl, nI N, cl, dt, df, ds, ex, lo, uf, us, fi, ki, ef, es, di, we, cf, cs, cm, tx, le, rr, wk, sh, fo, fl, el, ec, ke, kl, em, oe, be, pl, po)) →
    wX_orderWork_2 post cc rl (nI N) (rest.length + 1) (nI r.length) cl dt df ds ex lo uf us fi ki ef es di we cf cs cm tx le rr wk sh fo fl el ec ke kl em oe be pl po := by
  intro rest
  induction rest with
  | nil =>
    intro r wk hl hA hB hr h
    have hl' : r.length + 0 = N := hl
    rw [List.append_nil] at hr
    exact br_t (nI_le (by omega) (by omega)) (h wk hr)
  | cons x rest ih =>
    intro r wk hl hA hB hr h
    have hl' : r.length + (rest.length + 1) = N := hl
    obtain ⟨hx, hB'⟩ := sc_All_cons.mp hB
    have ew : wk (nI r.length).toNatClampNeg = x := by
      rw [nI_clamp (by omega)]
      have := sc_Rp_mid hr
      rw [List.length_reverse] at this
      exact this
    have v : vp_in (nI r.length) 64 := vp_in_nI (by omega) (by decide)
    have h' : ∀ wk, sc_Rp wk ((sc_F cl (sc_io cl x r) rest).reverse) → post (cc, rl, nI N, cl, dt, df, ds, ex, lo, uf, us, fi, ki, ef, es, di, we, cf, cs, cm, tx, le, rr, wk, sh, fo, fl, el, ec, ke, kl, em, oe, be, pl, po) := h
    unfold sc_io at h'
    refine br_f (nI_ge (by omega) (by omega)) ⟨v, nm_r ew ⟨hx, br_c (fun a => ⟨v, nm_r (e' := upd wk r.length x) (by rw [nI_clamp (by omega)]) (nm_r (nI_1 _) ?_)⟩) (fun a => ?_)⟩⟩
    · rw [if_pos a] at h'
      refine ih (x :: r) _ (by simp; omega) (sc_All_cons.mpr ⟨hx, hA⟩) hB' ?_ h'
      have := sc_Rp_set x hr
      rw [List.length_reverse] at this
      rw [List.reverse_cons, List.append_assoc]
      exact this
    · rw [if_neg a] at h'
      refine ⟨r.length + 1, x_ord_i (J := fun _ wk => sc_Rp wk ((sc_ir cl x r).reverse ++ rest)) hx ?_ r x rest wk (by omega) hA hr (fun wk' hr' => hr')⟩
      intro wk' hr'
      have g := ih (sc_ir cl x r) wk' (by rw [sc_irL]; omega) (sc_irA cl hx r hA) hB' hr' h'
      rw [sc_irL] at g
      exact g
theorem x_order {post : SX → Prop} {l : List Int32} (hN : l.length ≤ 64) (hA : sc_All l) (hr : sc_Rp wk l) (h : ∀ wk, sc_Rp wk (sc_od cl l) → post (cc, rl, nI (sc_od cl l).length, cl, dt, df, ds, ex, lo, uf, us, fi, ki, ef, es, di, we, cf, cs, cm, tx, le, rr, wk, sh, fo, fl, el, ec, ke, kl, em, oe, be, pl, po)) : wpX_orderWork post (cc, rl, nI l.length, cl, dt, df, ds, ex, lo, uf, us, fi, ki, ef, es, di, we, cf, cs, cm, tx, le, rr, wk, sh, fo, fl, el, ec, ke, kl, em, oe, be, pl, po) := by
  rw [sc_odL] at h
  cases l with
  | nil => exact ⟨1, br_t (by decide) (h wk (sc_Rp0 _))⟩
  | cons x l =>
    obtain ⟨hx, hB⟩ := sc_All_cons.mp hA
    refine ⟨l.length + 1, x_ord_l hN l [x] wk (by simp; omega) (sc_All_cons.mpr ⟨hx, sc_All_nil⟩) hB hr (fun wk' hr' => h wk' ?_)⟩
    unfold sc_od
    show sc_Rp wk' (sc_F cl (sc_io cl x []) l).reverse
    rw [sc_io0]
    exact hr'
end
section
variable {cc rl yn : Int32} {cl dt df pb lo uf us fi ki wt ef eb di ex cf cs cm lg tx le rr ro fm fL ee en ye lv se pg ou : Nat → Int32}
theorem y_ord_i {post : SY → Prop} {J2 : _} {N : Nat} (hN : N ≤ 64) :
    ∀ (rest pre : List Int32) (x : Int32) (g : Int32) (ro : Nat → Int32), pre.length + 1 + rest.length = N → sc_All (x :: rest) → sc_Rp ro (pre ++ x :: rest) →
    (sc_pf cl x rest → ∀ ro, sc_Rp ro (pre ++ sc_ps cl x rest) → J2 1 cl dt df pb lo uf us fi ki wt ef eb di ex cf cs cm lg tx le rr ro fm fL ee en ye lv se pg ou) → (¬ sc_pf cl x rest → ∀ ro, sc_Rp ro (pre ++ sc_ps cl x rest) → J2 g cl dt df pb lo uf us fi ki wt ef eb di ex cf cs cm lg tx le rr ro fm fL ee en ye lv se pg ou) →
    wY_order_10 post J2 cc rl (nI N) (rest.length + 1) g (nI (pre.length + 1)) cl dt df pb lo uf us fi ki wt ef eb di ex cf cs cm lg tx le rr ro fm fL ee en ye lv se pg ou := by
  intro rest
  induction rest with
  | nil =>
    intro pre x g ro hl hA hr h1 h0
    have hl' : pre.length + 1 + 0 = N := hl
    exact br_t (nI_le (by omega) (by omega)) (h0 id ro hr)
  | cons y rest ih =>
    intro pre x g ro hl hA hr h1 h0
    have hl' : pre.length + 1 + (rest.length + 1) = N := hl
    obtain ⟨hx, hB⟩ := sc_All_cons.mp hA
    obtain ⟨hy, hC⟩ := sc_All_cons.mp hB
    have ex' : ro (nI (pre.length + 1) - 1).toNatClampNeg = x := by rw [nI_pred, nI_clamp (by omega)]; exact sc_Rp_mid hr
    have hr2 : sc_Rp ro ((pre ++ [x]) ++ y :: rest) := by rw [List.append_assoc]; exact hr
    have lx : ∀ z : Int32, (pre ++ [z]).length = pre.length + 1 := fun z => by simp
    have ey : ro (nI (pre.length + 1)).toNatClampNeg = y := by
      rw [nI_clamp (by omega), ← lx x]; exact sc_Rp_mid hr2
    have v0 : vp_in (nI (pre.length + 1) - 1) 64 := by rw [nI_pred]; exact vp_in_nI (by omega) (by decide)
    have v1 : vp_in (nI (pre.length + 1)) 64 := vp_in_nI (by omega) (by decide)
    have keep : ¬ sc_sw cl x y → wY_order_10 post J2 cc rl (nI N) (rest.length + 1) g (nI (pre.length + 1 + 1)) cl dt df pb lo uf us fi ki wt ef eb di ex cf cs cm lg tx le rr ro fm fL ee en ye lv se pg ou := by
      intro hs
      unfold sc_ps at h1 h0
      rw [if_neg hs] at h1 h0
      have q := ih (pre ++ [x]) y g ro (by rw [lx]; omega) hB hr2
      rw [lx, List.append_assoc] at q
      exact q (fun z => h1 (Or.inr z)) (fun z => h0 (fun w => w.elim hs z))
    refine br_f (nI_ge (by omega) (by omega)) ⟨v0, nm_r ex' ⟨v1, nm_r ey ⟨hx, hy, br_c (fun a => nm_r (nI_1 _) (keep (fun z => z.1 a))) (fun a => ⟨hy, br_c (fun b => nm_r (nI_1 _) (keep (fun z => z.2 b))) (fun b => ?_)⟩)⟩⟩⟩
    have hs : sc_sw cl x y := ⟨a, b⟩
    unfold sc_ps at h1
    rw [if_pos hs] at h1
    refine ⟨v0, nm_r (e' := upd ro pre.length y) (by rw [nI_pred, nI_clamp (by omega)]) ⟨v1, nm_r (e' := upd (upd ro pre.length y) (pre.length + 1) x) (by rw [nI_clamp (by omega)]) (nm_r (nI_1 _) ?_)⟩⟩
    have hr3 : sc_Rp (upd (upd ro pre.length y) (pre.length + 1) x) ((pre ++ [y]) ++ x :: rest) := by
      have r1 := sc_Rp_set y hr
      have r2 : sc_Rp (upd ro pre.length y) ((pre ++ [y]) ++ y :: rest) := by rw [List.append_assoc]; exact r1
      have r3 := sc_Rp_set x r2
      rw [lx] at r3
      exact r3
    have q := ih (pre ++ [y]) x 1 _ (by rw [lx]; omega) (sc_All_cons.mpr ⟨hx, hC⟩) hr3
    rw [lx, List.append_assoc] at q
    exact q (fun _ => h1 (Or.inl hs)) (fun _ => h1 (Or.inl hs))
theorem y_ord_l {post : SY → Prop} (hc : ∀ i, vp_in (cl i) 10) :
    ∀ (m : Nat) (l : List Int32) (ro : Nat → Int32), 40960 - sc_wv cl 0 l < m → l.length ≤ 64 → sc_All l → sc_Rp ro l →
    (∀ ro, sc_Rp ro (sc_od cl l) → post (cc, rl, nI l.length, cl, dt, df, pb, lo, uf, us, fi, ki, wt, ef, eb, di, ex, cf, cs, cm, lg, tx, le, rr, ro, fm, fL, ee, en, ye, lv, se, pg, ou)) → ∀ n, m + 1 ≤ n → wY_order_2 post cc rl (nI l.length) n 1 cl dt df pb lo uf us fi ki wt ef eb di ex cf cs cm lg tx le rr ro fm fL ee en ye lv se pg ou := by
  intro m
  induction m with
  | zero => intro l ro hm; omega
  | succ m ih =>
    intro l ro hm hl hA hr h n hn
    obtain ⟨n, rfl⟩ : ∃ q, n = q + 1 + 1 := ⟨n - 2, by omega⟩
    cases l with
    | nil => exact br_f (by decide) ⟨1, br_t (by decide) (br_t rfl (h ro hr))⟩
    | cons x l =>
      refine br_f (by decide) ⟨l.length + 1, ?_⟩
      have hw := sc_psW hc l x 0
      have hb := sc_wvB hc (sc_ps cl x l) 0 (by rw [sc_psL]; simp at hl; omega)
      rw [sc_psL] at hb
      have hl' : l.length + 1 ≤ 64 := hl
      refine y_ord_i hl l [] x 0 ro (by simp; omega) hA hr (fun z ro' hr' => ?_) (fun z ro' hr' => ?_)
      · have g := ih (sc_ps cl x l) ro' (by have := hw.2 z; omega) (by rw [sc_psL]; omega) (sc_psA cl l x hA) hr'
        rw [sc_odP, sc_psL] at g
        exact g h (n + 1) (by omega)
      · refine br_t rfl (h ro' ?_)
        rw [sc_odN z]
        have e : sc_Rp ro' (sc_ps cl x l) := hr'
        rw [sc_psN cl l x z] at e
        exact e
theorem y_order {post : SY → Prop} {l : List Int32} (hc : ∀ i, vp_in (cl i) 10) (hN : l.length ≤ 64) (hA : sc_All l) (hr : sc_Rp ro l) (h : ∀ ro, sc_Rp ro (sc_od cl l) → post (cc, rl, nI (sc_od cl l).length, cl, dt, df, pb, lo, uf, us, fi, ki, wt, ef, eb, di, ex, cf, cs, cm, lg, tx, le, rr, ro, fm, fL, ee, en, ye, lv, se, pg, ou)) : wpY_order post (cc, rl, nI l.length, cl, dt, df, pb, lo, uf, us, fi, ki, wt, ef, eb, di, ex, cf, cs, cm, lg, tx, le, rr, ro, fm, fL, ee, en, ye, lv, se, pg, ou) := by
  rw [sc_odL] at h
  exact ⟨40962, y_ord_l hc 40961 l ro (by omega) hN hA hr h 40962 (by omega)⟩
end
