/-! the constructors -/
def sc_ini (i : Nat) (v : Nat → Int32) : Nat → Int32 := fun j => if j < i then v j else 0
theorem sc_ini0 (v : Nat → Int32) : sc_ini 0 v = fun _ => 0 := by funext j; exact if_neg (by omega)
theorem sc_iniS (i : Nat) (v : Nat → Int32) : upd (sc_ini i v) i (v i) = sc_ini (i + 1) v := by
  funext j
  unfold upd sc_ini
  by_cases e : j = i
  · rw [if_pos e, if_pos (by omega), e]
  · rw [if_neg e]
    by_cases h : j < i
    · rw [if_pos h, if_pos (by omega)]
    · rw [if_neg h, if_neg (by omega)]
def sc_wX (i : Nat) (we : Nat → Int32) : Prop := ∀ c, c < i → we c = nI (c + 1) ∧ we (48 + c) = 1 ∧ we (96 + c) = 1
def sc_wY (i : Nat) (wt : Nat → Int32) : Prop := ∀ c, c < i → wt (3 * c) = nI (c + 1) ∧ wt (3 * c + 1) = 1 ∧ wt (3 * c + 2) = 1
theorem sc_wXs {i : Nat} {we : Nat → Int32} (hi : i < 48) (h : sc_wX i we) : sc_wX (i + 1) (upd (upd (upd we i (nI (i + 1))) (48 + i) 1) (96 + i) 1) := by
  intro c hc
  unfold upd
  by_cases e : c = i
  · subst e
    simp
  · obtain ⟨a, b, d⟩ := h c (by omega)
    refine ⟨?_, ?_, ?_⟩
    · rw [if_neg (by omega), if_neg (by omega), if_neg (by omega)]; exact a
    · rw [if_neg (by omega), if_neg (by omega), if_neg (by omega)]; exact b
    · rw [if_neg (by omega), if_neg (by omega), if_neg (by omega)]; exact d
theorem sc_wYs {i : Nat} {wt : Nat → Int32} (h : sc_wY i wt) : sc_wY (i + 1) (upd (upd (upd wt (3 * i) (nI (i + 1))) (3 * i + 1) 1) (3 * i + 2) 1) := by
  intro c hc
  unfold upd
  by_cases e : c = i
  · subst e
    simp
  · obtain ⟨a, b, d⟩ := h c (by omega)
    refine ⟨?_, ?_, ?_⟩
    · rw [if_neg (by omega), if_neg (by omega), if_neg (by omega)]; exact a
    · rw [if_neg (by omega), if_neg (by omega), if_neg (by omega)]; exact b
    · rw [if_neg (by omega), if_neg (by omega), if_neg (by omega)]; exact d
theorem sc_iniR {i j : Nat} (v : Nat → Int32) (x : Int32) (hx : x = v i) (h : j = i) : upd (sc_ini i v) j x = sc_ini (i + 1) v := by
  subst h; subst hx; exact sc_iniS _ v
section
variable {cc rl wl : Int32} {cl dt df ds ex lo uf us fi ki ef es di we cf cs cm tx le rr wk sh fo fl el ec ke kl em oe be pl po : Nat → Int32}
theorem x_ini_l {post : SX → Prop} (h : ∀ we, sc_wX 48 we → post (cc, rl, wl, cl, dt, df, sc_ini 48 (fun _ => -1), ex, sc_ini 48 nI, sc_ini 48 nI, sc_ini 48 (fun _ => -1), sc_ini 48 (fun _ => -1), ki, sc_ini 48 (fun _ => -1), sc_ini 48 (fun _ => -1), di, we, cf, cs, cm, tx, le, rr, wk, sh, fo, fl, el, ec, ke, kl, em, oe, be, pl, po)) :
    ∀ (d i : Nat) (we : Nat → Int32), i + d = 48 → sc_wX i we →
    wX_init_285 post cc rl wl (d + 1) (nI i) cl dt df (sc_ini i (fun _ => -1)) ex (sc_ini i nI) (sc_ini i nI) (sc_ini i (fun _ => -1)) (sc_ini i (fun _ => -1)) ki (sc_ini i (fun _ => -1)) (sc_ini i (fun _ => -1)) di we cf cs cm tx le rr wk sh fo fl el ec ke kl em oe be pl po := by
  intro d
  induction d with
  | zero =>
    intro i we hi hw
    obtain rfl : i = 48 := by omega
    exact br_t (nI_le (a := 48) (by omega) (by omega)) (h we hw)
  | succ d ih =>
    intro i we hi hw
    have c : (nI i).toNatClampNeg = i := nI_clamp (by omega)
    have v : vp_in (nI i) 48 := vp_in_nI (by omega) (by decide)
    have e48 : 48 + nI i = nI (48 + i) := nI_add 48 i
    have e96 : 96 + nI i = nI (96 + i) := nI_add 96 i
    refine br_f (nI_ge (b := 48) (by omega) (by decide)) ⟨v, nm_r (sc_iniR _ _ rfl c) ⟨v, nm_r (sc_iniR _ _ rfl c) ⟨v, nm_r (sc_iniR _ _ rfl c) ⟨v, nm_r (sc_iniR _ _ rfl c) ⟨v, nm_r (sc_iniR _ _ rfl c) ⟨v, nm_r (sc_iniR _ _ rfl c) ⟨v, nm_r (sc_iniR _ _ rfl c) ?_⟩⟩⟩⟩⟩⟩⟩
    refine ⟨vp_in_nI (by omega) (by decide), nm_r (by rw [c, nI_1]) ⟨pk_in (48 + i) 144 (by omega) e48, nm_r (by rw [e48, nI_clamp (by omega)]) ⟨pk_in (96 + i) 144 (by omega) e96, nm_r (by rw [e96, nI_clamp (by omega)]) (nm_r (nI_1 i) ?_)⟩⟩⟩
    exact ih (i + 1) _ (by omega) (sc_wXs (by omega) hw)
theorem x_ini {post : SX → Prop} (h : ∀ we, sc_wX 48 we → post (cc, rl, wl, cl, dt, df, sc_ini 48 (fun _ => -1), ex, sc_ini 48 nI, sc_ini 48 nI, sc_ini 48 (fun _ => -1), sc_ini 48 (fun _ => -1), ki, sc_ini 48 (fun _ => -1), sc_ini 48 (fun _ => -1), di, we, cf, cs, cm, tx, le, rr, wk, sh, fo, fl, el, ec, ke, kl, em, oe, be, pl, po)) :
    wX_init_285 post cc rl wl 49 0 cl dt df (fun _ => 0) ex (fun _ => 0) (fun _ => 0) (fun _ => 0) (fun _ => 0) ki (fun _ => 0) (fun _ => 0) di (fun _ => 0) cf cs cm tx le rr wk sh fo fl el ec ke kl em oe be pl po := by
  have e := x_ini_l h 48 0 (fun _ => 0) rfl (fun c hc => absurd hc (by omega))
  simp only [sc_ini0] at e
  exact e
end
section
variable {cc rl yn : Int32} {cl dt df pb lo uf us fi ki wt ef eb di ex cf cs cm lg tx le rr ro fm fL ee en ye lv se pg ou : Nat → Int32}
theorem y_ini_l {post : SY → Prop} (h : ∀ wt, sc_wY 48 wt → post (cc, rl, yn, cl, dt, df, pb, sc_ini 48 nI, sc_ini 48 nI, sc_ini 48 (fun _ => -1), sc_ini 48 (fun _ => -1), ki, wt, sc_ini 48 (fun _ => -1), eb, di, ex, cf, cs, cm, lg, tx, le, rr, ro, fm, fL, ee, en, ye, lv, se, pg, ou)) :
    ∀ (d i : Nat) (wt : Nat → Int32), i + d = 48 → sc_wY i wt →
    wY_init_254 post cc rl yn (d + 1) (nI i) cl dt df pb (sc_ini i nI) (sc_ini i nI) (sc_ini i (fun _ => -1)) (sc_ini i (fun _ => -1)) ki wt (sc_ini i (fun _ => -1)) eb di ex cf cs cm lg tx le rr ro fm fL ee en ye lv se pg ou := by
  intro d
  induction d with
  | zero =>
    intro i wt hi hw
    obtain rfl : i = 48 := by omega
    exact br_t (nI_le (a := 48) (by omega) (by omega)) (h wt hw)
  | succ d ih =>
    intro i wt hi hw
    have c : (nI i).toNatClampNeg = i := nI_clamp (by omega)
    have v : vp_in (nI i) 48 := vp_in_nI (by omega) (by decide)
    have e0 : 3 * nI i = nI (3 * i) := pk_mul 3 i
    have e1 : 3 * nI i + 1 = nI (3 * i + 1) := by rw [e0, nI_1]
    have e2 : 3 * nI i + 2 = nI (3 * i + 2) := by rw [e0]; exact nI_add _ 2
    refine br_f (nI_ge (b := 48) (by omega) (by decide)) ⟨v, nm_r (sc_iniR _ _ rfl c) ⟨v, nm_r (sc_iniR _ _ rfl c) ⟨v, nm_r (sc_iniR _ _ rfl c) ⟨v, nm_r (sc_iniR _ _ rfl c) ⟨v, nm_r (sc_iniR _ _ rfl c) ?_⟩⟩⟩⟩⟩
    refine ⟨pk_in (3 * i) 144 (by omega) e0, nm_r (by rw [e0, nI_clamp (by omega), nI_1]) ⟨pk_in (3 * i + 1) 144 (by omega) e1, nm_r (by rw [e1, nI_clamp (by omega)]) ⟨pk_in (3 * i + 2) 144 (by omega) e2, nm_r (by rw [e2, nI_clamp (by omega)]) (nm_r (nI_1 i) ?_)⟩⟩⟩
    exact ih (i + 1) _ (by omega) (sc_wYs hw)
theorem y_ini {post : SY → Prop} (h : ∀ wt, sc_wY 48 wt → post (cc, rl, yn, cl, dt, df, pb, sc_ini 48 nI, sc_ini 48 nI, sc_ini 48 (fun _ => -1), sc_ini 48 (fun _ => -1), ki, wt, sc_ini 48 (fun _ => -1), eb, di, ex, cf, cs, cm, lg, tx, le, rr, ro, fm, fL, ee, en, ye, lv, se, pg, ou)) :
    wY_init_254 post cc rl yn 49 0 cl dt df pb (fun _ => 0) (fun _ => 0) (fun _ => 0) (fun _ => 0) ki (fun _ => 0) (fun _ => 0) eb di ex cf cs cm lg tx le rr ro fm fL ee en ye lv se pg ou := by
  have e := y_ini_l h 48 0 (fun _ => 0) rfl (fun c hc => absurd hc (by omega))
  simp only [sc_ini0] at e
  exact e
end
theorem sc_in0 (n : Nat) (h : 0 < n) : vp_in 0 n := fun z => z.elim (fun z => absurd z (by decide)) (fun z => by rw [show (0 : Int32).toNatClampNeg = 0 from by decide] at z; omega)
theorem sc_iniC : sc_Chr (sc_ini 48 nI) := by
  intro j
  unfold sc_ini
  by_cases h : j < 48
  · rw [if_pos h]; exact vp_in_nI h (by decide)
  · rw [if_neg h]; exact sc_in0 48 (by decide)
theorem sc_iniO : sc_Opt (sc_ini 48 (fun _ => -1)) := by
  intro j
  unfold sc_ini
  by_cases h : j < 48
  · rw [if_pos h]; exact Or.inl rfl
  · rw [if_neg h]; exact Or.inr (sc_in0 48 (by decide))
theorem i_vc0 : wpX_init (fun u => wpY_init (fun v => i_Rel 0 u v)) := by
  refine ⟨49, ?_⟩
  have key : ∀ we wt, sc_wX 48 we → sc_wY 48 wt → sc_Inv 0 0 (fun _ => 0) (fun _ => 0) (fun _ => 0) (sc_ini 48 (fun _ => -1)) (fun _ => 0) (sc_ini 48 nI) (sc_ini 48 nI) (sc_ini 48 (fun _ => -1)) (sc_ini 48 (fun _ => -1)) (sc_ini 48 (fun _ => -1)) (sc_ini 48 (fun _ => -1)) (fun _ => 0) (fun _ => 0) (fun _ => 0) (fun _ => 0) (fun _ => 0) (fun _ => 0) we wt := by
    intro we wt hX hY
    refine ⟨⟨0, by omega, rfl⟩, ⟨0, by omega, rfl⟩, fun t _ => ⟨0, by omega, rfl⟩, fun _ => sc_in0 48 (by decide), fun _ => sc_in0 48 (by decide), sc_iniC, sc_iniC, sc_iniO, sc_iniO, fun _ => sc_in0 10 (by decide), fun _ => sc_in0 7 (by decide), fun _ => sc_in0 48 (by decide), sc_iniO, ?_, ?_, ?_, ?_⟩
    · intro i hi h
      exact absurd (if_pos hi) h
    · intro i hi h
      exact absurd rfl h
    · exact ⟨fun _ => Or.inl rfl, fun i _ h => absurd rfl h, fun _ => 1, fun _ => ⟨Nat.le_refl 1, (by decide : 1 ≤ 4)⟩, fun i _ h => absurd rfl h⟩
    · intro c l hc hl
      obtain ⟨a0, a1, a2⟩ := hX c hc
      obtain ⟨b0, b1, b2⟩ := hY c hc
      rcases Nat.lt_or_ge l 1 with z | z
      · obtain rfl : l = 0 := by omega
        rw [show 48 * 0 + c = c by omega, a0]; exact b0.symm
      · rcases Nat.lt_or_ge l 2 with z2 | z2
        · obtain rfl : l = 1 := by omega
          rw [show 48 * 1 + c = 48 + c by omega, a1]; exact b1.symm
        · obtain rfl : l = 2 := by omega
          rw [show 48 * 2 + c = 96 + c by omega, a2]; exact b2.symm
  exact x_ini (fun we hX => ⟨49, y_ini (fun wt hY => sc_mk (key we wt hX hY))⟩)
