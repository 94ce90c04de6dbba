/-! describe -/
theorem sc_Win {a hi : Int32} {N : Nat} (n : Nat) (hn : n < N) (hN : N < 2 ^ 31) (e : hi.toInt = n) (h : sc_W a 0 hi) : vp_in a N := by
  obtain ⟨j, hj, rfl⟩ := sc_Wn (by omega) e h
  exact vp_in_nI (by omega) hN
theorem sc_W47 {a : Int32} (h : sc_W a 0 47) : vp_in a 48 := sc_Win 47 (by omega) (by omega) (by decide) h
theorem sc_W47m {a : Int32} (h : sc_W a (-1) 47) : a = -1 ∨ vp_in a 48 := (sc_Wm h).elim Or.inl (fun z => Or.inr (sc_W47 z))
theorem sc_updO {f : Nat → Int32} (h : sc_Opt f) (c : Nat) {x : Int32} (hx : x = -1 ∨ vp_in x 48) : sc_Opt (upd f c x) := by
  intro i
  by_cases e : i = c
  · rw [e, pk_us]; exact hx
  · rw [pk_un e]; exact h i
theorem sc_Wc {c : Nat} (hc : c < 48) {a : Int32} (h : sc_W a 0 (nI c - 1)) : ∃ j, j < c ∧ a = nI j := by
  obtain ⟨p, q⟩ := h
  obtain ⟨j, hj, rfl⟩ := nI_of p
  rw [Int32.lt_iff_toInt_lt, nI_toInt hj, show (1 : Int32) = nI 1 from rfl, pk_sub_toInt (by omega) (by omega)] at q
  exact ⟨j, by omega, rfl⟩
theorem sc_mkSD {dt df ds : Nat → Int32} (h : sc_Dec dt df ds) {c : Nat} (hc : c < 48) (w : Int32) {a b : Int32} (hf : sc_W a 0 (nI c - 1) ∧ sc_W b (-1) (nI c - 1)) : sc_SD (upd dt c w) (upd df c a) (upd ds c b) := by
  intro i hi h0
  by_cases e : i = c
  · subst e
    rw [pk_us, pk_us]
    exact ⟨sc_Wc hc hf.1, (sc_Wm hf.2).elim Or.inl (fun z => Or.inr (sc_Wc hc z))⟩
  · rw [pk_un e] at h0
    rw [pk_un e, pk_un e]
    exact h.2.1 i hi h0
theorem sc_mkDec {dt df ds : Nat → Int32} (h : sc_Dec dt df ds) {c : Nat} {w : Int32} (hw : w = 0 ∨ w = 1 ∨ w = 2) {a b : Int32} (sd : sc_SD (upd dt c w) (upd df c a) (upd ds c b)) (h4 : ∀ j, j < 48 → sc_T (upd dt c w) (upd df c a) (upd ds c b) j ≤ 4) : sc_Dec (upd dt c w) (upd df c a) (upd ds c b) := by
  refine ⟨fun i => ?_, sd, sc_TL sd h4⟩
  by_cases e : i = c
  · rw [e, pk_us]; exact hw
  · rw [pk_un e]; exact h.1 i
theorem sc_noDec {dt df ds : Nat → Int32} (h : sc_Dec dt df ds) (c : Nat) : sc_Dec (upd dt c 0) df ds := by
  obtain ⟨h1, h2, L, p, q⟩ := h
  refine ⟨fun i => ?_, fun i hi h0 => ?_, L, p, fun i hi h0 => ?_⟩
  · by_cases e : i = c
    · rw [e, pk_us]; exact Or.inl rfl
    · rw [pk_un e]; exact h1 i
  · by_cases e : i = c
    · rw [e, pk_us] at h0; exact absurd rfl h0
    · rw [pk_un e] at h0; exact h2 i hi h0
  · by_cases e : i = c
    · rw [e, pk_us] at h0; exact absurd rfl h0
    · rw [pk_un e] at h0; exact q i hi h0
theorem sc_pbU {dt ds pb : Nat → Int32} (h : ∀ i, i < 48 → ¬ dt i = 0 → pb i = ds i) (c : Nat) (w b : Int32) : ∀ i, i < 48 → ¬ upd dt c w i = 0 → upd pb c b i = upd ds c b i := by
  intro i hi h0
  by_cases e : i = c
  · rw [e, pk_us, pk_us]
  · rw [pk_un e] at h0; rw [pk_un e, pk_un e]; exact h i hi h0
theorem sc_pb0 {dt ds pb : Nat → Int32} (h : ∀ i, i < 48 → ¬ dt i = 0 → pb i = ds i) (c : Nat) : ∀ i, i < 48 → ¬ upd dt c 0 i = 0 → pb i = ds i := by
  intro i hi h0
  by_cases e : i = c
  · rw [e, pk_us] at h0; exact absurd rfl h0
  · rw [pk_un e] at h0; exact h i hi h0
theorem sc_ebU {ef es eb : Nat → Int32} (h : ∀ i, i < 48 → ¬ ef i = -1 → vp_in (es i) 48 ∧ eb i = es i) (c : Nat) (a : Int32) {b : Int32} (hb : vp_in b 48) : ∀ i, i < 48 → ¬ upd ef c a i = -1 → vp_in (upd es c b i) 48 ∧ upd eb c b i = upd es c b i := by
  intro i hi h0
  by_cases e : i = c
  · rw [e, pk_us, pk_us]; exact ⟨hb, rfl⟩
  · rw [pk_un e] at h0; rw [pk_un e, pk_un e]; exact h i hi h0
theorem sc_eb0 {ef es eb : Nat → Int32} (h : ∀ i, i < 48 → ¬ ef i = -1 → vp_in (es i) 48 ∧ eb i = es i) (c : Nat) : ∀ i, i < 48 → ¬ upd ef c (-1) i = -1 → vp_in (upd es c (-1) i) 48 ∧ eb i = upd es c (-1) i := by
  intro i hi h0
  by_cases e : i = c
  · rw [e, pk_us] at h0; exact absurd rfl h0
  · rw [pk_un e] at h0; rw [pk_un e]; exact h i hi h0
theorem sc_weU {we wt : Nat → Int32} (h : ∀ c l, c < 48 → l < 3 → we (48 * l + c) = wt (3 * c + l)) {c : Nat} (hc : c < 48) (p q r : Int32) : ∀ c' l, c' < 48 → l < 3 → upd (upd (upd we c p) (48 + c) q) (96 + c) r (48 * l + c') = upd (upd (upd wt (3 * c) p) (3 * c + 1) q) (3 * c + 2) r (3 * c' + l) := by
  intro c' l hc' hl
  unfold upd
  by_cases e : c' = c
  · subst e
    rcases Nat.lt_or_ge l 1 with z | z
    · rw [if_neg (by omega), if_neg (by omega), if_pos (by omega), if_neg (by omega), if_neg (by omega), if_pos (by omega)]
    · rcases Nat.lt_or_ge l 2 with z2 | z2
      · rw [if_neg (by omega), if_pos (by omega), if_neg (by omega), if_pos (by omega)]
      · rw [if_pos (by omega), if_pos (by omega)]
  · rw [if_neg (by omega), if_neg (by omega), if_neg (by omega), if_neg (by omega), if_neg (by omega), if_neg (by omega)]
    exact h c' l hc' hl
theorem i_vc_describe {k : Nat} {u : SX} {v : SY} (I : i_Rel k u v) (hk : k + 5 ≤ 2560) (v1 : Int32) (v2 : Int32) (v3 : Int32) (v4 : Int32) : wpX_describe (fun r u' => wpY_describe (fun r' v' => r' = r ∧ i_Rel (k + 5) u' v') v v1 v2 v3 v4) u v1 v2 v3 v4 := by
  obtain ⟨cc, rl, wl, yn, cl, dt, df, ds, ex, lo, uf, us, fi, ki, ef, es, di, we, cf, cs, cm, tx, le, rr, wk, sh, fo, fl, el, ec, ke, kl, em, oe, be, pl, po, pb, wt, eb, lg, ro, fm, fL, ee, en, rfl, rfl, I⟩ := I
  rcases sn_char v1 with ⟨c, hc, rfl⟩ | h
  rotate_left
  · exact x_dC h (y_dC h ⟨rfl, sc_mk I⟩)
  rcases pk_ix v2 (n := 15) (by decide) with h | h | ⟨w, hw, rfl⟩
  · exact x_dN hc (Or.inl h) (y_dN hc (Or.inl h) ⟨rfl, sc_mk I⟩)
  · have h' : ¬ v2 < 0 ∧ 14 < v2 := by
      rw [Int32.le_iff_toInt_le] at h
      rw [Int32.lt_iff_toInt_lt, Int32.lt_iff_toInt_lt]
      have e1 : (nI 15).toInt = 15 := nI_toInt (by decide)
      have e2 : (14 : Int32).toInt = 14 := by decide
      have e3 : (0 : Int32).toInt = 0 := by decide
      omega
    exact x_dN hc (Or.inr h') (y_dN hc (Or.inr h') ⟨rfl, sc_mk I⟩)
  have I0 := I
  obtain ⟨i1, i2, i3, i4, i5, i6, i7, i8, i9, i10, i11, i12, i13, i14, i15, i16, i17⟩ := I
  match w, hw with
  | 0, _ => exact x_d0 hc (fun z => y_d0 hc (fun _ => ⟨rfl, sc_mk ⟨i1, i2, i3, i4, i5, i6, i7, i8, i9, sc_updC i10 c (sc_Win 9 (by omega) (by omega) (by decide) z), i11, i12, i13, i14, i15, i16, i17⟩⟩) (fun y => absurd z y)) (fun z => y_d0 hc (fun y => absurd y z) (fun _ => ⟨rfl, sc_mk I0⟩))
  | 1, _ =>
    refine x_d1 hc (sc_mkSD i16 hc 1) (fun z g sh' => ?_) (fun z g sh' => ?_) (fun z => ?_)
    · exact y_d1 (ds := ds) hc (sc_mkSD i16 hc 1) i15 (fun _ _ _ => ⟨rfl, sc_mk ⟨i1, i2, i3, i4, i5, i6, i7, i8, i9, i10, i11, i12, i13, i14, sc_pbU i15 c 1 v4, sc_mkDec i16 (by decide) (sc_mkSD i16 hc 1 z) g, i17⟩⟩) (fun _ y => absurd g y) (fun y => absurd z y)
    · exact y_d1 (ds := ds) hc (sc_mkSD i16 hc 1) i15 (fun _ y => absurd y g) (fun _ _ _ => ⟨rfl, sc_mk I0⟩) (fun y => absurd z y)
    · exact y_d1 (ds := ds) hc (sc_mkSD i16 hc 1) i15 (fun y => absurd y z) (fun y => absurd y z) (fun _ => ⟨rfl, sc_mk I0⟩)
  | 2, _ =>
    refine x_d2 hc (sc_mkSD i16 hc 2) (fun z g sh' => ?_) (fun z g sh' => ?_) (fun z => ?_)
    · exact y_d2 (ds := ds) hc (sc_mkSD i16 hc 2) i15 (fun _ _ _ => ⟨rfl, sc_mk ⟨i1, i2, i3, i4, i5, i6, i7, i8, i9, i10, i11, i12, i13, i14, sc_pbU i15 c 2 v4, sc_mkDec i16 (by decide) (sc_mkSD i16 hc 2 z) g, i17⟩⟩) (fun _ y => absurd g y) (fun y => absurd z y)
    · exact y_d2 (ds := ds) hc (sc_mkSD i16 hc 2) i15 (fun _ y => absurd y g) (fun _ _ _ => ⟨rfl, sc_mk I0⟩) (fun y => absurd z y)
    · exact y_d2 (ds := ds) hc (sc_mkSD i16 hc 2) i15 (fun y => absurd y z) (fun y => absurd y z) (fun _ => ⟨rfl, sc_mk I0⟩)
  | 3, _ => exact x_d3 hc (fun z => y_d3 hc (fun _ => ⟨rfl, sc_mk ⟨i1, i2, i3, i4, i5, i6, i7, i8, i9, i10, i11, i12, i13, i14, sc_pb0 i15 c, sc_noDec i16 c, i17⟩⟩) (fun y => absurd z y)) (fun z => y_d3 hc (fun y => absurd y z) (fun _ => ⟨rfl, sc_mk I0⟩))
  | 4, _ => exact x_d4 hc (fun z => y_d4 hc (fun _ => ⟨rfl, sc_mk I0⟩) (fun y => absurd z y)) (fun z => y_d4 hc (fun y => absurd y z) (fun _ => ⟨rfl, sc_mk I0⟩))
  | 5, _ => exact x_d5 hc (fun z => y_d5 hc (fun _ => ⟨rfl, sc_mk ⟨i1, i2, i3, i4, i5, sc_updC i6 c (sc_W47 z), i7, i8, i9, i10, i11, i12, i13, i14, i15, i16, i17⟩⟩) (fun y => absurd z y)) (fun z => y_d5 hc (fun y => absurd y z) (fun _ => ⟨rfl, sc_mk I0⟩))
  | 6, _ => exact x_d6 hc (fun z => y_d6 hc (fun _ => ⟨rfl, sc_mk ⟨i1, i2, i3, i4, i5, i6, sc_updC i7 c (sc_W47 z.1), sc_updO i8 c (sc_W47m z.2), i9, i10, i11, i12, i13, i14, i15, i16, i17⟩⟩) (fun y => absurd z y)) (fun z => y_d6 hc (fun y => absurd y z) (fun _ => ⟨rfl, sc_mk I0⟩))
  | 7, _ => exact x_d7 hc (fun z => y_d7 hc (fun _ => ⟨rfl, sc_mk ⟨i1, i2, i3, i4, i5, i6, i7, i8, sc_updO i9 c (sc_W47m z), i10, i11, i12, i13, i14, i15, i16, i17⟩⟩) (fun y => absurd z y)) (fun z => y_d7 hc (fun y => absurd y z) (fun _ => ⟨rfl, sc_mk I0⟩))
  | 8, _ => exact x_d8 hc (fun z => y_d8 hc (fun _ => ⟨rfl, sc_mk I0⟩) (fun y => absurd z y)) (fun z => y_d8 hc (fun y => absurd y z) (fun _ => ⟨rfl, sc_mk I0⟩))
  | 9, _ => exact x_d9 hc (fun z => y_d9 hc (fun _ => ⟨rfl, sc_mk ⟨i1, i2, i3, i4, i5, i6, i7, i8, i9, i10, i11, i12, i13, i14, i15, i16, sc_weU i17 hc _ _ _⟩⟩) (fun y => absurd z y)) (fun z => y_d9 hc (fun y => absurd y z) (fun _ => ⟨rfl, sc_mk I0⟩))
  | 10, _ => exact x_d10 hc (fun z => y_d10 hc (fun _ => ⟨rfl, sc_mk ⟨i1, i2, i3, i4, i5, i6, i7, i8, i9, i10, i11, i12, sc_updO i13 c (Or.inr (sc_W47 z.1)), sc_ebU i14 c v3 (sc_W47 z.2), i15, i16, i17⟩⟩) (fun y => absurd z y)) (fun z => y_d10 hc (fun y => absurd y z) (fun _ => ⟨rfl, sc_mk I0⟩))
  | 11, _ => exact x_d11 hc (fun z => y_d11 hc (fun _ => ⟨rfl, sc_mk ⟨i1, i2, i3, i4, i5, i6, i7, i8, i9, i10, i11, i12, sc_updO i13 c (Or.inl rfl), sc_eb0 i14 c, i15, i16, i17⟩⟩) (fun y => absurd z y)) (fun z => y_d11 hc (fun y => absurd y z) (fun _ => ⟨rfl, sc_mk I0⟩))
  | 12, _ =>
    obtain ⟨m, hm, rfl⟩ := i1
    refine x_d12 hm hc (fun z p q => ?_) (fun z p q => ?_) (fun z k' p q => ?_) (fun z => ?_)
    · exact y_d12 hm hc (fun _ _ _ => ⟨rfl, sc_mk ⟨⟨m + 1, by omega, rfl⟩, i2, i3, i4, i5, i6, i7, i8, i9, i10, i11, sc_updC i12 m (sc_W47 z.2), i13, i14, i15, i16, i17⟩⟩) (fun _ _ y => absurd y (by omega)) (fun _ k' _ y => absurd (y.symm.trans p) (sc_m1 k' (by omega))) (fun y => absurd z y)
    · exact y_d12 hm hc (fun _ _ y => absurd y (by omega)) (fun _ _ _ => ⟨rfl, sc_mk I0⟩) (fun _ k' _ y => absurd (y.symm.trans p) (sc_m1 k' (by omega))) (fun y => absurd z y)
    · refine y_d12 hm hc (fun _ y _ => absurd (q.symm.trans y) (sc_m1 k' (by omega))) (fun _ y _ => absurd (q.symm.trans y) (sc_m1 k' (by omega))) (fun _ k'' p'' y => ?_) (fun y => absurd z y)
      obtain rfl : k'' = k' := (nI_eq (by omega) (by omega)).mp (y.symm.trans q)
      exact ⟨rfl, sc_mk ⟨⟨m, hm, rfl⟩, i2, i3, i4, i5, i6, i7, i8, i9, i10, i11, sc_updC i12 k'' (sc_W47 z.2), i13, i14, i15, i16, i17⟩⟩
    · exact y_d12 hm hc (fun y => absurd y z) (fun y => absurd y z) (fun y => absurd y z) (fun _ => ⟨rfl, sc_mk I0⟩)
  | 13, _ =>
    obtain ⟨m, hm, rfl⟩ := i1
    refine x_d13 hm hc (fun z p => ?_) (fun z k' p q => ?_) (fun z => ?_)
    · exact y_d13 hm hc (fun _ _ => ⟨rfl, sc_mk I0⟩) (fun _ k' _ y => absurd (y.symm.trans p) (sc_m1 k' (by omega))) (fun y => absurd z y)
    · refine y_d13 hm hc (fun _ y => absurd (q.symm.trans y) (sc_m1 k' (by omega))) (fun _ k'' p'' y => ?_) (fun y => absurd z y)
      obtain rfl : k'' = k' := (nI_eq (by omega) (by omega)).mp (y.symm.trans q)
      exact ⟨rfl, sc_mk ⟨⟨m - 1, by omega, rfl⟩, i2, i3, i4, i5, i6, i7, i8, i9, i10, i11, sc_updC i12 k'' (i12 _), i13, i14, i15, i16, i17⟩⟩
    · exact y_d13 hm hc (fun y => absurd y z) (fun y => absurd y z) (fun _ => ⟨rfl, sc_mk I0⟩)
  | 14, _ => exact x_d14 hc (fun z => y_d14 hc (fun _ => ⟨rfl, sc_mk ⟨i1, i2, i3, i4, i5, i6, i7, i8, i9, i10, sc_updC i11 c (sc_Win 6 (by omega) (by omega) (by decide) z), i12, i13, i14, i15, i16, i17⟩⟩) (fun y => absurd z y)) (fun z => y_d14 hc (fun y => absurd y z) (fun _ => ⟨rfl, sc_mk I0⟩))
  | n + 15, h => exact absurd h (by omega)
