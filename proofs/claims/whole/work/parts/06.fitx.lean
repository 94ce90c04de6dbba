/-! describe: the operand checks, and what each plain description stores -/
def sc_W (a lo hi : Int32) : Prop := ¬ a < lo ∧ ¬ hi < a
theorem sc_C47 {a : Int32} : ¬ 48 ≤ a ↔ ¬ 47 < a := by
  rw [Int32.lt_iff_toInt_lt, Int32.le_iff_toInt_le]
  have h1 : (48 : Int32).toInt = 48 := by decide
  have h2 : (47 : Int32).toInt = 47 := by decide
  omega
theorem sc_Wm {a hi : Int32} (h : sc_W a (-1) hi) : a = -1 ∨ sc_W a 0 hi := by
  have h0 : (0 : Int32).toInt = 0 := by decide
  have h1 : (-1 : Int32).toInt = -1 := by decide
  obtain ⟨p, q⟩ := h
  by_cases e : a = -1
  · exact Or.inl e
  · refine Or.inr ⟨fun z => e (Int32.toInt_inj.mp ?_), q⟩
    rw [Int32.lt_iff_toInt_lt] at p z
    omega
theorem sc_Wm' {a hi : Int32} (h : sc_W a 0 hi) : sc_W a (-1) hi := by
  have h0 : (0 : Int32).toInt = 0 := by decide
  have h1 : (-1 : Int32).toInt = -1 := by decide
  obtain ⟨p, q⟩ := h
  refine ⟨fun z => p ?_, q⟩
  rw [Int32.lt_iff_toInt_lt] at z ⊢
  omega
theorem sc_Wm1 : sc_W (-1) (-1) 47 := ⟨by decide, by decide⟩
theorem sc_Wn {a hi : Int32} {n : Nat} (hn : n < 2 ^ 31) (e : hi.toInt = n) (h : sc_W a 0 hi) : ∃ j : Nat, j ≤ n ∧ a = nI j := by
  obtain ⟨p, q⟩ := h
  obtain ⟨j, hj, rfl⟩ := nI_of p
  refine ⟨j, ?_, rfl⟩
  rw [Int32.lt_iff_toInt_lt, nI_toInt hj] at q
  omega
theorem ys_in {post : Int32 → Prop} {a lo hi : Int32} (h1 : sc_W a lo hi → post 1) (h0 : ¬ sc_W a lo hi → post 0) : wpY_in post a lo hi :=
  br_c (fun z => h0 (fun w => w.1 z)) (fun z => br_c (fun y => h0 (fun w => w.2 y)) (fun y => h1 ⟨z, y⟩))
section
variable {cc rl wl : Int32} {cl dt df ds ex lo uf us fi ki ef es di we cf cs cm tx le rr wk sh fo fl el ec ke kl em oe be pl po : Nat → Int32}
theorem xs_within {post : Int32 → Prop} {a lo' hi : Int32} (h1 : sc_W a lo' hi → post 1) (h0 : ¬ sc_W a lo' hi → post 0) : wpX_isWithin post (cc, rl, wl, cl, dt, df, ds, ex, lo, uf, us, fi, ki, ef, es, di, we, cf, cs, cm, tx, le, rr, wk, sh, fo, fl, el, ec, ke, kl, em, oe, be, pl, po) a lo' hi :=
  br_c (fun z => h0 (fun w => w.1 z)) (fun z => br_c (fun y => h0 (fun w => w.2 y)) (fun y => h1 ⟨z, y⟩))
theorem xs_character {post : Int32 → Prop} {a : Int32} (h1 : sc_W a 0 47 → post 1) (h0 : ¬ sc_W a 0 47 → post 0) : wpX_isCharacter post (cc, rl, wl, cl, dt, df, ds, ex, lo, uf, us, fi, ki, ef, es, di, we, cf, cs, cm, tx, le, rr, wk, sh, fo, fl, el, ec, ke, kl, em, oe, be, pl, po) a :=
  br_c (fun z => h0 (fun w => w.1 z)) (fun z => br_c (fun y => h0 (fun w => absurd y (sc_C47.mpr w.2))) (fun y => h1 ⟨z, sc_C47.mp y⟩))
theorem x_fit0 {post : Int32 → Prop} {c : Nat} {a b : Int32} (h1 : sc_W a 0 9 → post 1) (h0 : ¬ (sc_W a 0 9) → post 0) : wpX_operandsFit post (cc, rl, wl, cl, dt, df, ds, ex, lo, uf, us, fi, ki, ef, es, di, we, cf, cs, cm, tx, le, rr, wk, sh, fo, fl, el, ec, ke, kl, em, oe, be, pl, po) (nI c) 0 a b :=
  br_f (by decide) (br_f (by decide) (br_t rfl (xs_within (fun z => ⟨rfl, h1 z⟩) (fun z => ⟨rfl, h0 z⟩))))
theorem x_fit1 {post : Int32 → Prop} {c : Nat} {a b : Int32} (h1 : sc_W a 0 (nI c - 1) ∧ sc_W b (-1) (nI c - 1) → post 1) (h0 : ¬ (sc_W a 0 (nI c - 1) ∧ sc_W b (-1) (nI c - 1)) → post 0) : wpX_operandsFit post (cc, rl, wl, cl, dt, df, ds, ex, lo, uf, us, fi, ki, ef, es, di, we, cf, cs, cm, tx, le, rr, wk, sh, fo, fl, el, ec, ke, kl, em, oe, be, pl, po) (nI c) 1 a b :=
  br_f (by decide) (br_f (by decide) (br_f (by decide) (br_t rfl (xs_within (fun z => br_f (by decide) (xs_within (fun y => br_f (by decide) (h1 ⟨z, y⟩)) (fun y => br_t rfl (h0 (fun x => y x.2))))) (fun z => br_t rfl (h0 (fun x => z x.1)))))))
theorem x_fit2 {post : Int32 → Prop} {c : Nat} {a b : Int32} (h1 : sc_W a 0 (nI c - 1) ∧ sc_W b (-1) (nI c - 1) → post 1) (h0 : ¬ (sc_W a 0 (nI c - 1) ∧ sc_W b (-1) (nI c - 1)) → post 0) : wpX_operandsFit post (cc, rl, wl, cl, dt, df, ds, ex, lo, uf, us, fi, ki, ef, es, di, we, cf, cs, cm, tx, le, rr, wk, sh, fo, fl, el, ec, ke, kl, em, oe, be, pl, po) (nI c) 2 a b :=
  br_f (by decide) (br_f (by decide) (br_f (by decide) (br_f (by decide) (br_t rfl (xs_within (fun z => br_f (by decide) (xs_within (fun y => br_f (by decide) (h1 ⟨z, y⟩)) (fun y => br_t rfl (h0 (fun x => y x.2))))) (fun z => br_t rfl (h0 (fun x => z x.1))))))))
theorem x_fit3 {post : Int32 → Prop} {c : Nat} {a b : Int32} (h1 : True → post 1) (h0 : ¬ (True) → post 0) : wpX_operandsFit post (cc, rl, wl, cl, dt, df, ds, ex, lo, uf, us, fi, ki, ef, es, di, we, cf, cs, cm, tx, le, rr, wk, sh, fo, fl, el, ec, ke, kl, em, oe, be, pl, po) (nI c) 3 a b :=
  br_f (by decide) (br_f (by decide) (br_f (by decide) (br_f (by decide) (br_f (by decide) (br_t rfl (h1 trivial))))))
theorem x_fit4 {post : Int32 → Prop} {c : Nat} {a b : Int32} (h1 : sc_W a 0 1 → post 1) (h0 : ¬ (sc_W a 0 1) → post 0) : wpX_operandsFit post (cc, rl, wl, cl, dt, df, ds, ex, lo, uf, us, fi, ki, ef, es, di, we, cf, cs, cm, tx, le, rr, wk, sh, fo, fl, el, ec, ke, kl, em, oe, be, pl, po) (nI c) 4 a b :=
  br_f (by decide) (br_f (by decide) (br_f (by decide) (br_f (by decide) (br_f (by decide) (br_f (by decide) (br_t rfl (xs_within (fun z => ⟨rfl, h1 z⟩) (fun z => ⟨rfl, h0 z⟩))))))))
theorem x_fit5 {post : Int32 → Prop} {c : Nat} {a b : Int32} (h1 : sc_W a 0 47 → post 1) (h0 : ¬ (sc_W a 0 47) → post 0) : wpX_operandsFit post (cc, rl, wl, cl, dt, df, ds, ex, lo, uf, us, fi, ki, ef, es, di, we, cf, cs, cm, tx, le, rr, wk, sh, fo, fl, el, ec, ke, kl, em, oe, be, pl, po) (nI c) 5 a b :=
  br_f (by decide) (br_f (by decide) (br_f (by decide) (br_f (by decide) (br_f (by decide) (br_f (by decide) (br_f (by decide) (br_t rfl (xs_character (fun z => ⟨rfl, h1 z⟩) (fun z => ⟨rfl, h0 z⟩)))))))))
theorem x_fit6 {post : Int32 → Prop} {c : Nat} {a b : Int32} (h1 : sc_W a 0 47 ∧ sc_W b (-1) 47 → post 1) (h0 : ¬ (sc_W a 0 47 ∧ sc_W b (-1) 47) → post 0) : wpX_operandsFit post (cc, rl, wl, cl, dt, df, ds, ex, lo, uf, us, fi, ki, ef, es, di, we, cf, cs, cm, tx, le, rr, wk, sh, fo, fl, el, ec, ke, kl, em, oe, be, pl, po) (nI c) 6 a b :=
  br_f (by decide) (br_f (by decide) (br_f (by decide) (br_f (by decide) (br_f (by decide) (br_f (by decide) (br_f (by decide) (br_f (by decide) (br_t rfl (xs_character (fun z => br_f (by decide) (br_c (fun e => h1 ⟨z, by rw [e]; exact sc_Wm1⟩) (fun e => xs_character (fun y => br_f (by decide) (h1 ⟨z, sc_Wm' y⟩)) (fun y => br_t rfl (h0 (fun x => (sc_Wm x.2).elim e y)))))) (fun z => br_t rfl (h0 (fun x => z x.1))))))))))))
theorem x_fit7 {post : Int32 → Prop} {c : Nat} {a b : Int32} (h1 : sc_W a (-1) 47 → post 1) (h0 : ¬ (sc_W a (-1) 47) → post 0) : wpX_operandsFit post (cc, rl, wl, cl, dt, df, ds, ex, lo, uf, us, fi, ki, ef, es, di, we, cf, cs, cm, tx, le, rr, wk, sh, fo, fl, el, ec, ke, kl, em, oe, be, pl, po) (nI c) 7 a b :=
  br_f (by decide) (br_f (by decide) (br_f (by decide) (br_f (by decide) (br_f (by decide) (br_f (by decide) (br_f (by decide) (br_f (by decide) (br_f (by decide) (br_t rfl (br_c (fun e => h1 (by rw [e]; exact sc_Wm1)) (fun e => xs_character (fun y => br_f (by decide) (h1 (sc_Wm' y))) (fun y => br_t rfl (h0 (fun x => (sc_Wm x).elim e y))))))))))))))
theorem x_fit8 {post : Int32 → Prop} {c : Nat} {a b : Int32} (h1 : sc_W a 0 7 → post 1) (h0 : ¬ (sc_W a 0 7) → post 0) : wpX_operandsFit post (cc, rl, wl, cl, dt, df, ds, ex, lo, uf, us, fi, ki, ef, es, di, we, cf, cs, cm, tx, le, rr, wk, sh, fo, fl, el, ec, ke, kl, em, oe, be, pl, po) (nI c) 8 a b :=
  br_f (by decide) (br_f (by decide) (br_f (by decide) (br_f (by decide) (br_f (by decide) (br_f (by decide) (br_f (by decide) (br_f (by decide) (br_f (by decide) (br_f (by decide) (br_t rfl (xs_within (fun z => ⟨rfl, h1 z⟩) (fun z => ⟨rfl, h0 z⟩))))))))))))
theorem x_fit9 {post : Int32 → Prop} {c : Nat} {a b : Int32} (h1 : sc_W a 0 99 ∧ sc_W b 0 99 → post 1) (h0 : ¬ (sc_W a 0 99 ∧ sc_W b 0 99) → post 0) : wpX_operandsFit post (cc, rl, wl, cl, dt, df, ds, ex, lo, uf, us, fi, ki, ef, es, di, we, cf, cs, cm, tx, le, rr, wk, sh, fo, fl, el, ec, ke, kl, em, oe, be, pl, po) (nI c) 9 a b :=
  br_f (by decide) (br_f (by decide) (br_f (by decide) (br_f (by decide) (br_f (by decide) (br_f (by decide) (br_f (by decide) (br_f (by decide) (br_f (by decide) (br_f (by decide) (br_f (by decide) (br_t rfl (xs_within (fun z => br_f (by decide) (xs_within (fun y => br_f (by decide) (h1 ⟨z, y⟩)) (fun y => br_t rfl (h0 (fun x => y x.2))))) (fun z => br_t rfl (h0 (fun x => z x.1)))))))))))))))
theorem x_fit10 {post : Int32 → Prop} {c : Nat} {a b : Int32} (h1 : sc_W a 0 47 ∧ sc_W b 0 47 → post 1) (h0 : ¬ (sc_W a 0 47 ∧ sc_W b 0 47) → post 0) : wpX_operandsFit post (cc, rl, wl, cl, dt, df, ds, ex, lo, uf, us, fi, ki, ef, es, di, we, cf, cs, cm, tx, le, rr, wk, sh, fo, fl, el, ec, ke, kl, em, oe, be, pl, po) (nI c) 10 a b :=
  br_f (by decide) (br_f (by decide) (br_f (by decide) (br_f (by decide) (br_f (by decide) (br_f (by decide) (br_f (by decide) (br_f (by decide) (br_f (by decide) (br_f (by decide) (br_f (by decide) (br_f (by decide) (br_t rfl (xs_character (fun z => br_f (by decide) (xs_character (fun y => br_f (by decide) (h1 ⟨z, y⟩)) (fun y => br_t rfl (h0 (fun x => y x.2))))) (fun z => br_t rfl (h0 (fun x => z x.1))))))))))))))))
theorem x_fit11 {post : Int32 → Prop} {c : Nat} {a b : Int32} (h1 : True → post 1) (h0 : ¬ (True) → post 0) : wpX_operandsFit post (cc, rl, wl, cl, dt, df, ds, ex, lo, uf, us, fi, ki, ef, es, di, we, cf, cs, cm, tx, le, rr, wk, sh, fo, fl, el, ec, ke, kl, em, oe, be, pl, po) (nI c) 11 a b :=
  br_f (by decide) (br_f (by decide) (br_f (by decide) (br_f (by decide) (br_f (by decide) (br_f (by decide) (br_f (by decide) (br_f (by decide) (br_f (by decide) (br_f (by decide) (br_f (by decide) (br_f (by decide) (br_f (by decide) (br_t rfl (h1 trivial))))))))))))))
theorem x_fit12 {post : Int32 → Prop} {c : Nat} {a b : Int32} (h1 : sc_W a 0 47 ∧ sc_W b 0 47 → post 1) (h0 : ¬ (sc_W a 0 47 ∧ sc_W b 0 47) → post 0) : wpX_operandsFit post (cc, rl, wl, cl, dt, df, ds, ex, lo, uf, us, fi, ki, ef, es, di, we, cf, cs, cm, tx, le, rr, wk, sh, fo, fl, el, ec, ke, kl, em, oe, be, pl, po) (nI c) 12 a b :=
  br_f (by decide) (br_f (by decide) (br_f (by decide) (br_f (by decide) (br_f (by decide) (br_f (by decide) (br_f (by decide) (br_f (by decide) (br_f (by decide) (br_f (by decide) (br_f (by decide) (br_f (by decide) (br_f (by decide) (br_f (by decide) (br_t rfl (xs_character (fun z => br_f (by decide) (xs_character (fun y => br_f (by decide) (h1 ⟨z, y⟩)) (fun y => br_t rfl (h0 (fun x => y x.2))))) (fun z => br_t rfl (h0 (fun x => z x.1))))))))))))))))))
theorem x_fit13 {post : Int32 → Prop} {c : Nat} {a b : Int32} (h1 : sc_W a 0 47 → post 1) (h0 : ¬ (sc_W a 0 47) → post 0) : wpX_operandsFit post (cc, rl, wl, cl, dt, df, ds, ex, lo, uf, us, fi, ki, ef, es, di, we, cf, cs, cm, tx, le, rr, wk, sh, fo, fl, el, ec, ke, kl, em, oe, be, pl, po) (nI c) 13 a b :=
  br_f (by decide) (br_f (by decide) (br_f (by decide) (br_f (by decide) (br_f (by decide) (br_f (by decide) (br_f (by decide) (br_f (by decide) (br_f (by decide) (br_f (by decide) (br_f (by decide) (br_f (by decide) (br_f (by decide) (br_f (by decide) (br_f (by decide) (br_t rfl (xs_character (fun z => ⟨rfl, h1 z⟩) (fun z => ⟨rfl, h0 z⟩)))))))))))))))))
theorem x_fit14 {post : Int32 → Prop} {c : Nat} {a b : Int32} (h1 : sc_W a 0 6 → post 1) (h0 : ¬ (sc_W a 0 6) → post 0) : wpX_operandsFit post (cc, rl, wl, cl, dt, df, ds, ex, lo, uf, us, fi, ki, ef, es, di, we, cf, cs, cm, tx, le, rr, wk, sh, fo, fl, el, ec, ke, kl, em, oe, be, pl, po) (nI c) 14 a b :=
  br_f (by decide) (br_f (by decide) (br_f (by decide) (br_f (by decide) (br_f (by decide) (br_f (by decide) (br_f (by decide) (br_f (by decide) (br_f (by decide) (br_f (by decide) (br_f (by decide) (br_f (by decide) (br_f (by decide) (br_f (by decide) (br_f (by decide) (br_f (by decide) (br_t rfl (xs_within (fun z => ⟨rfl, h1 z⟩) (fun z => ⟨rfl, h0 z⟩))))))))))))))))))
theorem x_fitN {post : Int32 → Prop} {c w a b : Int32} (hw : w < 0 ∨ ¬ w < 0 ∧ 14 < w) (h : post 0) : wpX_operandsFit post (cc, rl, wl, cl, dt, df, ds, ex, lo, uf, us, fi, ki, ef, es, di, we, cf, cs, cm, tx, le, rr, wk, sh, fo, fl, el, ec, ke, kl, em, oe, be, pl, po) c w a b :=
  hw.elim (fun z => br_t z h) (fun z => br_f z.1 (br_t z.2 h))
theorem x_d0 {post : Int32 → SX → Prop} {c : Nat} {a b : Int32} (hc : c < 48) (h1 : sc_W a 0 9 → post 1 (cc, rl, wl, upd cl c a, dt, df, ds, ex, lo, uf, us, fi, ki, ef, es, di, we, cf, cs, cm, tx, le, rr, wk, sh, fo, fl, el, ec, ke, kl, em, oe, be, pl, po)) (h0 : ¬ (sc_W a 0 9) → post 0 (cc, rl, wl, cl, dt, df, ds, ex, lo, uf, us, fi, ki, ef, es, di, we, cf, cs, cm, tx, le, rr, wk, sh, fo, fl, el, ec, ke, kl, em, oe, be, pl, po)) : wpX_describe post (cc, rl, wl, cl, dt, df, ds, ex, lo, uf, us, fi, ki, ef, es, di, we, cf, cs, cm, tx, le, rr, wk, sh, fo, fl, el, ec, ke, kl, em, oe, be, pl, po) (nI c) 0 a b := by
  have v : vp_in (nI c) 48 := vp_in_nI hc (by decide)
  have e : (nI c).toNatClampNeg = c := nI_clamp (by omega)
  unfold wpX_describe
  refine xs_char1 hc (br_f (by decide) (x_fit0 (fun z => br_f (by decide) (br_f (by decide) (br_f (by decide) (br_f (by decide) (br_f (by decide) (?_)))))) (fun z => br_t rfl (h0 z))))
  exact br_f (by decide) (br_f (by decide) (br_t rfl (⟨v, nm_r (by rw [e]) (h1 z)⟩)))
theorem x_d3 {post : Int32 → SX → Prop} {c : Nat} {a b : Int32} (hc : c < 48) (h1 : True → post 1 (cc, rl, wl, cl, upd dt c 0, df, ds, ex, lo, uf, us, fi, ki, ef, es, di, we, cf, cs, cm, tx, le, rr, wk, sh, fo, fl, el, ec, ke, kl, em, oe, be, pl, po)) (h0 : ¬ (True) → post 0 (cc, rl, wl, cl, dt, df, ds, ex, lo, uf, us, fi, ki, ef, es, di, we, cf, cs, cm, tx, le, rr, wk, sh, fo, fl, el, ec, ke, kl, em, oe, be, pl, po)) : wpX_describe post (cc, rl, wl, cl, dt, df, ds, ex, lo, uf, us, fi, ki, ef, es, di, we, cf, cs, cm, tx, le, rr, wk, sh, fo, fl, el, ec, ke, kl, em, oe, be, pl, po) (nI c) 3 a b := by
  have v : vp_in (nI c) 48 := vp_in_nI hc (by decide)
  have e : (nI c).toNatClampNeg = c := nI_clamp (by omega)
  unfold wpX_describe
  refine xs_char1 hc (br_f (by decide) (x_fit3 (fun z => br_f (by decide) (br_f (by decide) (br_f (by decide) (br_f (by decide) (br_f (by decide) (?_)))))) (fun z => br_t rfl (h0 z))))
  exact br_f (by decide) (br_f (by decide) (br_f (by decide) (br_f (by decide) (br_f (by decide) (br_t rfl (⟨v, nm_r (by rw [e]) (h1 z)⟩))))))
theorem x_d5 {post : Int32 → SX → Prop} {c : Nat} {a b : Int32} (hc : c < 48) (h1 : sc_W a 0 47 → post 1 (cc, rl, wl, cl, dt, df, ds, ex, upd lo c a, uf, us, fi, ki, ef, es, di, we, cf, cs, cm, tx, le, rr, wk, sh, fo, fl, el, ec, ke, kl, em, oe, be, pl, po)) (h0 : ¬ (sc_W a 0 47) → post 0 (cc, rl, wl, cl, dt, df, ds, ex, lo, uf, us, fi, ki, ef, es, di, we, cf, cs, cm, tx, le, rr, wk, sh, fo, fl, el, ec, ke, kl, em, oe, be, pl, po)) : wpX_describe post (cc, rl, wl, cl, dt, df, ds, ex, lo, uf, us, fi, ki, ef, es, di, we, cf, cs, cm, tx, le, rr, wk, sh, fo, fl, el, ec, ke, kl, em, oe, be, pl, po) (nI c) 5 a b := by
  have v : vp_in (nI c) 48 := vp_in_nI hc (by decide)
  have e : (nI c).toNatClampNeg = c := nI_clamp (by omega)
  unfold wpX_describe
  refine xs_char1 hc (br_f (by decide) (x_fit5 (fun z => br_f (by decide) (br_f (by decide) (br_f (by decide) (br_f (by decide) (br_f (by decide) (?_)))))) (fun z => br_t rfl (h0 z))))
  exact br_f (by decide) (br_f (by decide) (br_f (by decide) (br_f (by decide) (br_f (by decide) (br_f (by decide) (br_f (by decide) (br_t rfl (⟨v, nm_r (by rw [e]) (h1 z)⟩))))))))
theorem x_d6 {post : Int32 → SX → Prop} {c : Nat} {a b : Int32} (hc : c < 48) (h1 : sc_W a 0 47 ∧ sc_W b (-1) 47 → post 1 (cc, rl, wl, cl, dt, df, ds, ex, lo, upd uf c a, upd us c b, fi, ki, ef, es, di, we, cf, cs, cm, tx, le, rr, wk, sh, fo, fl, el, ec, ke, kl, em, oe, be, pl, po)) (h0 : ¬ (sc_W a 0 47 ∧ sc_W b (-1) 47) → post 0 (cc, rl, wl, cl, dt, df, ds, ex, lo, uf, us, fi, ki, ef, es, di, we, cf, cs, cm, tx, le, rr, wk, sh, fo, fl, el, ec, ke, kl, em, oe, be, pl, po)) : wpX_describe post (cc, rl, wl, cl, dt, df, ds, ex, lo, uf, us, fi, ki, ef, es, di, we, cf, cs, cm, tx, le, rr, wk, sh, fo, fl, el, ec, ke, kl, em, oe, be, pl, po) (nI c) 6 a b := by
  have v : vp_in (nI c) 48 := vp_in_nI hc (by decide)
  have e : (nI c).toNatClampNeg = c := nI_clamp (by omega)
  unfold wpX_describe
  refine xs_char1 hc (br_f (by decide) (x_fit6 (fun z => br_f (by decide) (br_f (by decide) (br_f (by decide) (br_f (by decide) (br_f (by decide) (?_)))))) (fun z => br_t rfl (h0 z))))
  exact br_f (by decide) (br_f (by decide) (br_f (by decide) (br_f (by decide) (br_f (by decide) (br_f (by decide) (br_f (by decide) (br_f (by decide) (br_t rfl (⟨v, nm_r (by rw [e]) (⟨v, nm_r (by rw [e]) (h1 z)⟩)⟩)))))))))
theorem x_d7 {post : Int32 → SX → Prop} {c : Nat} {a b : Int32} (hc : c < 48) (h1 : sc_W a (-1) 47 → post 1 (cc, rl, wl, cl, dt, df, ds, ex, lo, uf, us, upd fi c a, ki, ef, es, di, we, cf, cs, cm, tx, le, rr, wk, sh, fo, fl, el, ec, ke, kl, em, oe, be, pl, po)) (h0 : ¬ (sc_W a (-1) 47) → post 0 (cc, rl, wl, cl, dt, df, ds, ex, lo, uf, us, fi, ki, ef, es, di, we, cf, cs, cm, tx, le, rr, wk, sh, fo, fl, el, ec, ke, kl, em, oe, be, pl, po)) : wpX_describe post (cc, rl, wl, cl, dt, df, ds, ex, lo, uf, us, fi, ki, ef, es, di, we, cf, cs, cm, tx, le, rr, wk, sh, fo, fl, el, ec, ke, kl, em, oe, be, pl, po) (nI c) 7 a b := by
  have v : vp_in (nI c) 48 := vp_in_nI hc (by decide)
  have e : (nI c).toNatClampNeg = c := nI_clamp (by omega)
  unfold wpX_describe
  refine xs_char1 hc (br_f (by decide) (x_fit7 (fun z => br_f (by decide) (br_f (by decide) (br_f (by decide) (br_f (by decide) (br_f (by decide) (?_)))))) (fun z => br_t rfl (h0 z))))
  exact br_f (by decide) (br_f (by decide) (br_f (by decide) (br_f (by decide) (br_f (by decide) (br_f (by decide) (br_f (by decide) (br_f (by decide) (br_f (by decide) (br_t rfl (⟨v, nm_r (by rw [e]) (h1 z)⟩))))))))))
theorem x_d8 {post : Int32 → SX → Prop} {c : Nat} {a b : Int32} (hc : c < 48) (h1 : sc_W a 0 7 → post 1 (cc, rl, wl, cl, dt, df, ds, ex, lo, uf, us, fi, upd ki c a, ef, es, di, we, cf, cs, cm, tx, le, rr, wk, sh, fo, fl, el, ec, ke, kl, em, oe, be, pl, po)) (h0 : ¬ (sc_W a 0 7) → post 0 (cc, rl, wl, cl, dt, df, ds, ex, lo, uf, us, fi, ki, ef, es, di, we, cf, cs, cm, tx, le, rr, wk, sh, fo, fl, el, ec, ke, kl, em, oe, be, pl, po)) : wpX_describe post (cc, rl, wl, cl, dt, df, ds, ex, lo, uf, us, fi, ki, ef, es, di, we, cf, cs, cm, tx, le, rr, wk, sh, fo, fl, el, ec, ke, kl, em, oe, be, pl, po) (nI c) 8 a b := by
  have v : vp_in (nI c) 48 := vp_in_nI hc (by decide)
  have e : (nI c).toNatClampNeg = c := nI_clamp (by omega)
  unfold wpX_describe
  refine xs_char1 hc (br_f (by decide) (x_fit8 (fun z => br_f (by decide) (br_f (by decide) (br_f (by decide) (br_f (by decide) (br_f (by decide) (?_)))))) (fun z => br_t rfl (h0 z))))
  exact br_f (by decide) (br_f (by decide) (br_f (by decide) (br_f (by decide) (br_f (by decide) (br_f (by decide) (br_f (by decide) (br_f (by decide) (br_f (by decide) (br_f (by decide) (br_t rfl (⟨v, nm_r (by rw [e]) (h1 z)⟩)))))))))))
theorem x_d10 {post : Int32 → SX → Prop} {c : Nat} {a b : Int32} (hc : c < 48) (h1 : sc_W a 0 47 ∧ sc_W b 0 47 → post 1 (cc, rl, wl, cl, dt, df, ds, ex, lo, uf, us, fi, ki, upd ef c a, upd es c b, di, we, cf, cs, cm, tx, le, rr, wk, sh, fo, fl, el, ec, ke, kl, em, oe, be, pl, po)) (h0 : ¬ (sc_W a 0 47 ∧ sc_W b 0 47) → post 0 (cc, rl, wl, cl, dt, df, ds, ex, lo, uf, us, fi, ki, ef, es, di, we, cf, cs, cm, tx, le, rr, wk, sh, fo, fl, el, ec, ke, kl, em, oe, be, pl, po)) : wpX_describe post (cc, rl, wl, cl, dt, df, ds, ex, lo, uf, us, fi, ki, ef, es, di, we, cf, cs, cm, tx, le, rr, wk, sh, fo, fl, el, ec, ke, kl, em, oe, be, pl, po) (nI c) 10 a b := by
  have v : vp_in (nI c) 48 := vp_in_nI hc (by decide)
  have e : (nI c).toNatClampNeg = c := nI_clamp (by omega)
  unfold wpX_describe
  refine xs_char1 hc (br_f (by decide) (x_fit10 (fun z => br_f (by decide) (br_f (by decide) (br_f (by decide) (br_f (by decide) (br_f (by decide) (?_)))))) (fun z => br_t rfl (h0 z))))
  exact br_f (by decide) (br_f (by decide) (br_f (by decide) (br_f (by decide) (br_f (by decide) (br_f (by decide) (br_f (by decide) (br_f (by decide) (br_f (by decide) (br_f (by decide) (br_f (by decide) (br_f (by decide) (br_t rfl (⟨v, nm_r (by rw [e]) (⟨v, nm_r (by rw [e]) (h1 z)⟩)⟩)))))))))))))
theorem x_d11 {post : Int32 → SX → Prop} {c : Nat} {a b : Int32} (hc : c < 48) (h1 : True → post 1 (cc, rl, wl, cl, dt, df, ds, ex, lo, uf, us, fi, ki, upd ef c (-1), upd es c (-1), di, we, cf, cs, cm, tx, le, rr, wk, sh, fo, fl, el, ec, ke, kl, em, oe, be, pl, po)) (h0 : ¬ (True) → post 0 (cc, rl, wl, cl, dt, df, ds, ex, lo, uf, us, fi, ki, ef, es, di, we, cf, cs, cm, tx, le, rr, wk, sh, fo, fl, el, ec, ke, kl, em, oe, be, pl, po)) : wpX_describe post (cc, rl, wl, cl, dt, df, ds, ex, lo, uf, us, fi, ki, ef, es, di, we, cf, cs, cm, tx, le, rr, wk, sh, fo, fl, el, ec, ke, kl, em, oe, be, pl, po) (nI c) 11 a b := by
  have v : vp_in (nI c) 48 := vp_in_nI hc (by decide)
  have e : (nI c).toNatClampNeg = c := nI_clamp (by omega)
  unfold wpX_describe
  refine xs_char1 hc (br_f (by decide) (x_fit11 (fun z => br_f (by decide) (br_f (by decide) (br_f (by decide) (br_f (by decide) (br_f (by decide) (?_)))))) (fun z => br_t rfl (h0 z))))
  exact br_f (by decide) (br_f (by decide) (br_f (by decide) (br_f (by decide) (br_f (by decide) (br_f (by decide) (br_f (by decide) (br_f (by decide) (br_f (by decide) (br_f (by decide) (br_f (by decide) (br_f (by decide) (br_f (by decide) (br_t rfl (⟨v, nm_r (by rw [e]) (⟨v, nm_r (by rw [e]) (h1 z)⟩)⟩))))))))))))))
theorem x_d14 {post : Int32 → SX → Prop} {c : Nat} {a b : Int32} (hc : c < 48) (h1 : sc_W a 0 6 → post 1 (cc, rl, wl, cl, dt, df, ds, ex, lo, uf, us, fi, ki, ef, es, upd di c a, we, cf, cs, cm, tx, le, rr, wk, sh, fo, fl, el, ec, ke, kl, em, oe, be, pl, po)) (h0 : ¬ (sc_W a 0 6) → post 0 (cc, rl, wl, cl, dt, df, ds, ex, lo, uf, us, fi, ki, ef, es, di, we, cf, cs, cm, tx, le, rr, wk, sh, fo, fl, el, ec, ke, kl, em, oe, be, pl, po)) : wpX_describe post (cc, rl, wl, cl, dt, df, ds, ex, lo, uf, us, fi, ki, ef, es, di, we, cf, cs, cm, tx, le, rr, wk, sh, fo, fl, el, ec, ke, kl, em, oe, be, pl, po) (nI c) 14 a b := by
  have v : vp_in (nI c) 48 := vp_in_nI hc (by decide)
  have e : (nI c).toNatClampNeg = c := nI_clamp (by omega)
  unfold wpX_describe
  refine xs_char1 hc (br_f (by decide) (x_fit14 (fun z => br_f (by decide) (br_f (by decide) (br_f (by decide) (br_f (by decide) (br_f (by decide) (?_)))))) (fun z => br_t rfl (h0 z))))
  exact br_f (by decide) (br_f (by decide) (br_f (by decide) (br_f (by decide) (br_f (by decide) (br_f (by decide) (br_f (by decide) (br_f (by decide) (br_f (by decide) (br_f (by decide) (br_f (by decide) (br_f (by decide) (br_f (by decide) (br_f (by decide) (br_f (by decide) (br_f (by decide) (br_t rfl (⟨v, nm_r (by rw [e]) (h1 z)⟩)))))))))))))))))
theorem x_d4 {post : Int32 → SX → Prop} {c : Nat} {a b : Int32} (hc : c < 48) (h1 : sc_W a 0 1 → post 1 (cc, rl, wl, cl, dt, df, ds, upd ex c (vp_nar .boolean (if a = 1 then 1 else 0)), lo, uf, us, fi, ki, ef, es, di, we, cf, cs, cm, tx, le, rr, wk, sh, fo, fl, el, ec, ke, kl, em, oe, be, pl, po)) (h0 : ¬ (sc_W a 0 1) → post 0 (cc, rl, wl, cl, dt, df, ds, ex, lo, uf, us, fi, ki, ef, es, di, we, cf, cs, cm, tx, le, rr, wk, sh, fo, fl, el, ec, ke, kl, em, oe, be, pl, po)) : wpX_describe post (cc, rl, wl, cl, dt, df, ds, ex, lo, uf, us, fi, ki, ef, es, di, we, cf, cs, cm, tx, le, rr, wk, sh, fo, fl, el, ec, ke, kl, em, oe, be, pl, po) (nI c) 4 a b := by
  have v : vp_in (nI c) 48 := vp_in_nI hc (by decide)
  have e : (nI c).toNatClampNeg = c := nI_clamp (by omega)
  unfold wpX_describe
  refine xs_char1 hc (br_f (by decide) (x_fit4 (fun z => br_f (by decide) (br_f (by decide) (br_f (by decide) (br_f (by decide) (br_f (by decide) (?_)))))) (fun z => br_t rfl (h0 z))))
  have h := h1 z
  refine br_f (by decide) (br_f (by decide) (br_f (by decide) (br_f (by decide) (br_f (by decide) (br_f (by decide) (br_t rfl ?_))))))
  refine br_c (fun y => ?_) (fun y => ?_)
  · rw [if_pos y] at h; exact ⟨v, nm_r (by rw [e]) h⟩
  · rw [if_neg y] at h; exact ⟨v, nm_r (by rw [e]) h⟩
theorem x_d9 {post : Int32 → SX → Prop} {c : Nat} {a b : Int32} (hc : c < 48) (h1 : sc_W a 0 99 ∧ sc_W b 0 99 → post 1 (cc, rl, wl, cl, dt, df, ds, ex, lo, uf, us, fi, ki, ef, es, di, upd (upd (upd we c a) (48 + c) (b / 10)) (96 + c) (b - b / 10 * 10), cf, cs, cm, tx, le, rr, wk, sh, fo, fl, el, ec, ke, kl, em, oe, be, pl, po)) (h0 : ¬ (sc_W a 0 99 ∧ sc_W b 0 99) → post 0 (cc, rl, wl, cl, dt, df, ds, ex, lo, uf, us, fi, ki, ef, es, di, we, cf, cs, cm, tx, le, rr, wk, sh, fo, fl, el, ec, ke, kl, em, oe, be, pl, po)) : wpX_describe post (cc, rl, wl, cl, dt, df, ds, ex, lo, uf, us, fi, ki, ef, es, di, we, cf, cs, cm, tx, le, rr, wk, sh, fo, fl, el, ec, ke, kl, em, oe, be, pl, po) (nI c) 9 a b := by
  have v : vp_in (nI c) 48 := vp_in_nI hc (by decide)
  have e : (nI c).toNatClampNeg = c := nI_clamp (by omega)
  have e48 : 48 + nI c = nI (48 + c) := nI_add 48 c
  have e96 : 96 + nI c = nI (96 + c) := nI_add 96 c
  unfold wpX_describe
  refine xs_char1 hc (br_f (by decide) (x_fit9 (fun z => br_f (by decide) (br_f (by decide) (br_f (by decide) (br_f (by decide) (br_f (by decide) (?_)))))) (fun z => br_t rfl (h0 z))))
  refine br_f (by decide) (br_f (by decide) (br_f (by decide) (br_f (by decide) (br_f (by decide) (br_f (by decide) (br_f (by decide) (br_f (by decide) (br_f (by decide) (br_f (by decide) (br_f (by decide) (br_t rfl ?_)))))))))))
  unfold wpX_setWeights
  exact ⟨vp_in_nI (by omega) (by decide), nm_r (by rw [e]) ⟨by decide, pk_in (48 + c) 144 (by omega) e48, nm_r (by rw [e48, nI_clamp (by omega)]) ⟨by decide, pk_in (96 + c) 144 (by omega) e96, nm_r (by rw [e96, nI_clamp (by omega)]) (h1 z)⟩⟩⟩
theorem x_dN {post : Int32 → SX → Prop} {c : Nat} {w a b : Int32} (hc : c < 48) (hw : w < 0 ∨ ¬ w < 0 ∧ 14 < w) (h : post 0 (cc, rl, wl, cl, dt, df, ds, ex, lo, uf, us, fi, ki, ef, es, di, we, cf, cs, cm, tx, le, rr, wk, sh, fo, fl, el, ec, ke, kl, em, oe, be, pl, po)) : wpX_describe post (cc, rl, wl, cl, dt, df, ds, ex, lo, uf, us, fi, ki, ef, es, di, we, cf, cs, cm, tx, le, rr, wk, sh, fo, fl, el, ec, ke, kl, em, oe, be, pl, po) (nI c) w a b := by
  unfold wpX_describe
  exact xs_char1 hc (br_f (by decide) (x_fitN hw (br_t rfl h)))
theorem x_dC {post : Int32 → SX → Prop} {c w a b : Int32} (hc : c < 0 ∨ ¬ c < 0 ∧ 48 ≤ c) (h : post 0 (cc, rl, wl, cl, dt, df, ds, ex, lo, uf, us, fi, ki, ef, es, di, we, cf, cs, cm, tx, le, rr, wk, sh, fo, fl, el, ec, ke, kl, em, oe, be, pl, po)) : wpX_describe post (cc, rl, wl, cl, dt, df, ds, ex, lo, uf, us, fi, ki, ef, es, di, we, cf, cs, cm, tx, le, rr, wk, sh, fo, fl, el, ec, ke, kl, em, oe, be, pl, po) c w a b := by
  unfold wpX_describe
  exact xs_char0 hc (br_t rfl h)
end
