/-! decomposition of the row: one pure machine for both sides -/
def sc_is (dt : Nat → Int32) (mo c : Int32) : Prop := ¬ dt c.toNatClampNeg = 0 ∧ dt c.toNatClampNeg ≤ mo
def sc_tl (ds : Nat → Int32) (c : Int32) : List Int32 := if ds c.toNatClampNeg = -1 then [] else [ds c.toNatClampNeg]
noncomputable def sc_dc (dt df ds : Nat → Int32) (mo : Int32) : Nat → List Int32 → List Int32 → List Int32
  | 0, pre, todo => pre ++ todo
  | _ + 1, pre, [] => pre
  | f + 1, pre, c :: rest => @ite _ (sc_is dt mo c) (Classical.propDecidable _) (sc_dc dt df ds mo f pre (df c.toNatClampNeg :: (sc_tl ds c ++ rest))) (sc_dc dt df ds mo f (pre ++ [c]) rest)
def sc_ms : List Int32 → Nat
  | [] => 0
  | c :: l => 3 ^ c.toNatClampNeg + sc_ms l
def sc_ls (L : Nat → Nat) : List Int32 → Nat
  | [] => 0
  | c :: l => L c.toNatClampNeg + sc_ls L l
theorem sc_ls_app (L : Nat → Nat) (m : List Int32) : ∀ l, sc_ls L (l ++ m) = sc_ls L l + sc_ls L m
  | [] => (Nat.zero_add _).symm
  | c :: l => by show L _ + sc_ls L (l ++ m) = L _ + sc_ls L l + sc_ls L m; rw [sc_ls_app L m l, Nat.add_assoc]
theorem sc_ls_len {dt df ds : Nat → Int32} {L : Nat → Nat} (h : sc_Pot dt df ds L) : ∀ l : List Int32, l.length ≤ sc_ls L l
  | [] => Nat.le_refl _
  | c :: l => by
    have := (h.1 c.toNatClampNeg).1
    have := sc_ls_len h l
    show l.length + 1 ≤ L _ + sc_ls L l
    omega
theorem sc_ls_le {dt df ds : Nat → Int32} {L : Nat → Nat} (h : sc_Pot dt df ds L) : ∀ l : List Int32, sc_ls L l ≤ 4 * l.length
  | [] => Nat.le_refl _
  | c :: l => by
    have := (h.1 c.toNatClampNeg).2
    have := sc_ls_le h l
    show L _ + sc_ls L l ≤ 4 * (l.length + 1)
    omega
theorem sc_ms_app (m : List Int32) : ∀ l, sc_ms (l ++ m) = sc_ms l + sc_ms m
  | [] => (Nat.zero_add _).symm
  | c :: l => by show 3 ^ _ + sc_ms (l ++ m) = 3 ^ _ + sc_ms l + sc_ms m; rw [sc_ms_app m l, Nat.add_assoc]
/-- what a replacement does to measure, potential and range -/
theorem sc_rep {dt df ds : Nat → Int32} {L : Nat → Nat} (hd : sc_Dec dt df ds) (hp : sc_Pot dt df ds L) {mo c : Int32} (hc : vp_in c 48) (hi : sc_is dt mo c) (rest : List Int32) :
    (∃ j, j < c.toNatClampNeg ∧ df c.toNatClampNeg = nI j) ∧ (ds c.toNatClampNeg = -1 ∨ vp_in (ds c.toNatClampNeg) 48 ∧ ¬ ds c.toNatClampNeg = -1) ∧
    vp_in (df c.toNatClampNeg) 48 ∧ sc_All (sc_tl ds c) ∧ sc_ms (df c.toNatClampNeg :: (sc_tl ds c ++ rest)) < sc_ms (c :: rest) ∧ sc_ls L (df c.toNatClampNeg :: (sc_tl ds c ++ rest)) ≤ sc_ls L (c :: rest) := by
  have c48 := sn_cl hc
  obtain ⟨⟨j, hj, ej⟩, h2⟩ := hd.2.1 c.toNatClampNeg c48 hi.1
  have hL := hp.2 c.toNatClampNeg c48 hi.1
  have p0 : 3 ^ c.toNatClampNeg = 3 * 3 ^ (c.toNatClampNeg - 1) := by
    obtain ⟨q, hq⟩ : ∃ q, c.toNatClampNeg = q + 1 := ⟨c.toNatClampNeg - 1, by omega⟩
    rw [hq, Nat.pow_succ, Nat.add_sub_cancel, Nat.mul_comm]
  have p1 : 3 ^ j ≤ 3 ^ (c.toNatClampNeg - 1) := Nat.pow_le_pow_right (by decide) (by omega)
  have pp : 0 < 3 ^ (c.toNatClampNeg - 1) := Nat.pow_pos (by decide)
  refine ⟨⟨j, hj, ej⟩, ?_, by rw [ej]; exact vp_in_nI (by omega) (by decide), ?_⟩
  · rcases h2 with h2 | ⟨i, hi', ei⟩
    · exact Or.inl h2
    · exact Or.inr (by rw [ei]; exact ⟨vp_in_nI (by omega) (by decide), sc_m1 i (by omega)⟩)
  · unfold sc_tl
    rw [ej] at hL ⊢
    rw [nI_clamp (by omega)] at hL
    rcases h2 with h2 | ⟨i, hi', ei⟩
    · rw [if_pos h2] at hL ⊢
      refine ⟨sc_All_nil, ?_, ?_⟩
      · show 3 ^ (nI j).toNatClampNeg + sc_ms rest < 3 ^ c.toNatClampNeg + sc_ms rest
        rw [nI_clamp (by omega)]
        omega
      · show L (nI j).toNatClampNeg + sc_ls L rest ≤ L c.toNatClampNeg + sc_ls L rest
        rw [nI_clamp (by omega)]
        omega
    · have p2 : 3 ^ i ≤ 3 ^ (c.toNatClampNeg - 1) := Nat.pow_le_pow_right (by decide) (by omega)
      rw [ei, if_neg (sc_m1 i (by omega))] at hL ⊢
      rw [nI_clamp (by omega)] at hL
      refine ⟨sc_All_cons.mpr ⟨vp_in_nI (by omega) (by decide), sc_All_nil⟩, ?_, ?_⟩
      · show 3 ^ (nI j).toNatClampNeg + (3 ^ (nI i).toNatClampNeg + sc_ms rest) < 3 ^ c.toNatClampNeg + sc_ms rest
        rw [nI_clamp (by omega), nI_clamp (by omega)]
        omega
      · show L (nI j).toNatClampNeg + (L (nI i).toNatClampNeg + sc_ls L rest) ≤ L c.toNatClampNeg + sc_ls L rest
        rw [nI_clamp (by omega), nI_clamp (by omega)]
        omega
theorem sc_dcP {dt df ds : Nat → Int32} {L : Nat → Nat} (hd : sc_Dec dt df ds) (hp : sc_Pot dt df ds L) (mo : Int32) : ∀ f pre todo, sc_All (pre ++ todo) → sc_ls L (pre ++ todo) ≤ 64 → sc_All (sc_dc dt df ds mo f pre todo) ∧ sc_ls L (sc_dc dt df ds mo f pre todo) ≤ 64 := by
  intro f
  induction f with
  | zero => exact fun pre todo h1 h2 => ⟨h1, h2⟩
  | succ f ih =>
    intro pre todo h1 h2
    cases todo with
    | nil => rw [List.append_nil] at h1 h2; exact ⟨h1, h2⟩
    | cons c rest =>
      unfold sc_dc
      obtain ⟨a1, a2⟩ := sc_All_app.mp h1
      obtain ⟨a3, a4⟩ := sc_All_cons.mp a2
      by_cases hi : sc_is dt mo c
      · rw [if_pos hi]
        obtain ⟨-, -, b1, b2, -, b3⟩ := sc_rep hd hp a3 hi rest
        refine ih _ _ (sc_All_app.mpr ⟨a1, sc_All_cons.mpr ⟨b1, sc_All_app.mpr ⟨b2, a4⟩⟩⟩) ?_
        rw [sc_ls_app] at h2 ⊢
        omega
      · rw [if_neg hi]
        refine ih _ _ ?_ ?_
        · rw [List.append_assoc]; exact h1
        · rw [List.append_assoc]; exact h2
section
variable {cc rl yn : Int32} {cl dt df pb lo uf us fi ki wt ef eb di ex cf cs cm lg tx le rr ro fm fL ee en ye lv se pg ou : Nat → Int32}
theorem y_put_l {post : SY → Prop} {n p : Nat} {c : Int32} (hn : n < 64) (hp : p ≤ n) : ∀ (d : Nat) (ro : Nat → Int32), p + d ≤ n →
    post (cc, rl, nI (n + 1), cl, dt, df, pb, lo, uf, us, fi, ki, wt, ef, eb, di, ex, cf, cs, cm, lg, tx, le, rr, upd (sc_up 0 d p ro) p c, fm, fL, ee, en, ye, lv, se, pg, ou) → wY_putIn_5 post (nI p) c cc rl (nI n) (d + 1) (nI (p + d)) cl dt df pb lo uf us fi ki wt ef eb di ex cf cs cm lg tx le rr ro fm fL ee en ye lv se pg ou := by
  intro d
  induction d with
  | zero => exact fun ro hi h => br_t (nI_le (by omega) (by omega)) ⟨vp_in_nI (by omega) (by decide), nm_r (e' := upd ro p c) (by rw [nI_clamp (by omega)]) (nm_r (nI_1 n) h)⟩
  | succ d ih => exact fun ro hi h => br_f (nI_ge (by omega) (by omega)) ⟨pk_in (p + d) 64 (by omega) (nI_pred _), vp_in_nI (by omega) (by decide),
      nm_r (e' := upd ro (0 + p + d + 1) (ro (0 + p + d))) (by rw [show p + (d + 1) = p + d + 1 by omega, nI_pred, nI_clamp (by omega), nI_clamp (by omega), Nat.zero_add]) (nm_r (pk_m1 _) (ih _ (by omega) h))⟩
theorem y_put {post : SY → Prop} {l m : List Int32} {c : Int32} (hn : (l ++ m).length < 64) (hr : sc_Rp ro (l ++ m)) (h : ∀ ro, sc_Rp ro (l ++ c :: m) → post (cc, rl, nI (l ++ c :: m).length, cl, dt, df, pb, lo, uf, us, fi, ki, wt, ef, eb, di, ex, cf, cs, cm, lg, tx, le, rr, ro, fm, fL, ee, en, ye, lv, se, pg, ou)) : wpY_putIn post (cc, rl, nI (l ++ m).length, cl, dt, df, pb, lo, uf, us, fi, ki, wt, ef, eb, di, ex, cf, cs, cm, lg, tx, le, rr, ro, fm, fL, ee, en, ye, lv, se, pg, ou) (nI l.length) c := by
  have hl : (l ++ m).length = l.length + m.length := by simp
  have h' := h _ (sc_Rp_ins c hr)
  rw [sc_len_mid, ← hl] at h'
  have e := y_put_l (post := post) (c := c) hn (by omega : l.length ≤ (l ++ m).length) m.length ro (by omega) h'
  rw [← hl] at e
  exact ⟨_, e⟩
theorem y_decomp_l {post : SY → Prop} {mo : Int32} {ds : Nat → Int32} {L : Nat → Nat} (hd : sc_Dec dt df ds) (hp : sc_Pot dt df ds L) (hpb : ∀ i, i < 48 → ¬ dt i = 0 → pb i = ds i) :
    ∀ (f : Nat) (pre todo : List Int32) (ro : Nat → Int32), sc_ms todo < f → sc_All (pre ++ todo) → sc_ls L (pre ++ todo) ≤ 64 → sc_Rp ro (pre ++ todo) →
    (∀ ro, sc_Rp ro (sc_dc dt df ds mo f pre todo) → post (cc, rl, nI (sc_dc dt df ds mo f pre todo).length, cl, dt, df, pb, lo, uf, us, fi, ki, wt, ef, eb, di, ex, cf, cs, cm, lg, tx, le, rr, ro, fm, fL, ee, en, ye, lv, se, pg, ou)) →
    wY_decompose_2 post mo f (nI pre.length) cc rl (nI (pre ++ todo).length) cl dt df pb lo uf us fi ki wt ef eb di ex cf cs cm lg tx le rr ro fm fL ee en ye lv se pg ou := by
  intro f
  induction f with
  | zero => intro pre todo ro hm; omega
  | succ f ih =>
    intro pre todo ro hm hA hL hr h
    have hlen := sc_ls_len hp (pre ++ todo)
    cases todo with
    | nil =>
      rw [List.append_nil] at hr hlen hL ⊢
      exact br_t (nI_le (by omega) (by omega)) (h ro hr)
    | cons c rest =>
      have hl := sc_len_mid pre rest c
      obtain ⟨a1, a2⟩ := sc_All_app.mp hA
      obtain ⟨a3, a4⟩ := sc_All_cons.mp a2
      have ec : ro (nI pre.length).toNatClampNeg = c := by rw [nI_clamp (by omega)]; exact sc_Rp_mid hr
      have v : vp_in (nI pre.length) 64 := vp_in_nI (by omega) (by decide)
      have keep : ¬ sc_is dt mo c → wY_decompose_2 post mo f (nI (pre.length + 1)) cc rl (nI (pre ++ c :: rest).length) cl dt df pb lo uf us fi ki wt ef eb di ex cf cs cm lg tx le rr ro fm fL ee en ye lv se pg ou := by
        intro hi
        unfold sc_dc at h
        rw [if_neg hi] at h
        have g := ih (pre ++ [c]) rest ro
        rw [List.append_assoc, List.length_append (as := pre) (bs := [c])] at g
        have hm' : sc_ms rest < f := by
          have : 0 < 3 ^ c.toNatClampNeg := Nat.pow_pos (by decide)
          have e : sc_ms (c :: rest) = 3 ^ c.toNatClampNeg + sc_ms rest := rfl
          omega
        exact g hm' hA hL hr h
      refine br_f (nI_ge (by omega) (by omega)) ⟨v, nm_r ec ⟨a3, br_c (fun z => nm_r (nI_1 _) (keep (fun y => y.1 z))) (fun z => ⟨a3, br_c (fun y => ?_) (fun y => nm_r (nI_1 _) (keep (fun w => y w.2)))⟩)⟩⟩
      have hi : sc_is dt mo c := ⟨z, y⟩
      obtain ⟨-, b0, b1, b2, b3, b4⟩ := sc_rep hd hp a3 hi rest
      unfold sc_dc at h
      rw [if_pos hi] at h
      have hpb' : pb c.toNatClampNeg = ds c.toNatClampNeg := hpb _ (sn_cl a3) z
      have hr' : sc_Rp (upd ro pre.length (df c.toNatClampNeg)) (pre ++ df c.toNatClampNeg :: rest) := sc_Rp_set _ hr
      have g := ih pre (df c.toNatClampNeg :: (sc_tl ds c ++ rest))
      have hA' : sc_All (pre ++ df c.toNatClampNeg :: (sc_tl ds c ++ rest)) := sc_All_app.mpr ⟨a1, sc_All_cons.mpr ⟨b1, sc_All_app.mpr ⟨b2, a4⟩⟩⟩
      have hL' : sc_ls L (pre ++ df c.toNatClampNeg :: (sc_tl ds c ++ rest)) ≤ 64 := by
        rw [sc_ls_app] at hL ⊢
        omega
      refine ⟨a3, v, nm_r (e' := upd ro pre.length (df c.toNatClampNeg)) (by rw [nI_clamp (by omega)]) ⟨a3, ?_⟩⟩
      rw [hpb']
      rcases b0 with b0 | ⟨b0, b5⟩
      · unfold sc_tl at g h hA' hL' b3
        rw [if_pos b0] at g h hA' hL' b3
        refine br_t (by rw [b0]; decide) ?_
        have g' := g (upd ro pre.length (df c.toNatClampNeg)) (by omega) hA' hL' hr' h
        rw [show (pre ++ df c.toNatClampNeg :: ([] ++ rest)).length = (pre ++ c :: rest).length by simp] at g'
        exact g'
      · have hlen' := sc_ls_len hp (pre ++ df c.toNatClampNeg :: (sc_tl ds c ++ rest))
        unfold sc_tl at g h hA' hL' b3 hlen'
        rw [if_neg b5] at g h hA' hL' b3 hlen'
        refine br_f (sn_pos b0) ⟨a3, ?_⟩
        have e1 : (pre ++ c :: rest).length = ((pre ++ [df c.toNatClampNeg]) ++ rest).length := by simp
        have e2 : nI pre.length + 1 = nI (pre ++ [df c.toNatClampNeg]).length := by rw [nI_1]; simp
        rw [e1, e2]
        refine y_put ?_ ?_ (fun ro' hr'' => ?_)
        · have hlx : (pre ++ df c.toNatClampNeg :: ([ds c.toNatClampNeg] ++ rest)).length = pre.length + rest.length + 2 := by simp only [List.length_append, List.length_cons, List.length_nil]; omega
          simp only [List.length_append, List.length_cons, List.length_nil]; omega
        · rw [List.append_assoc]; exact hr'
        · have g' := g ro' (by omega) hA' hL' (by rw [List.append_assoc] at hr''; exact hr'') h
          rw [List.append_assoc]
          exact g'
theorem y_decomp {post : SY → Prop} {mo : Int32} {ds : Nat → Int32} {L : Nat → Nat} {l : List Int32} (hd : sc_Dec dt df ds) (hp : sc_Pot dt df ds L) (hpb : ∀ i, i < 48 → ¬ dt i = 0 → pb i = ds i)
    (hA : sc_All l) (hL : l.length ≤ 16) (hr : sc_Rp ro l) (h : ∀ ro, sc_Rp ro (sc_dc dt df ds mo (sc_ms l + 1) [] l) → post (cc, rl, nI (sc_dc dt df ds mo (sc_ms l + 1) [] l).length, cl, dt, df, pb, lo, uf, us, fi, ki, wt, ef, eb, di, ex, cf, cs, cm, lg, tx, le, rr, ro, fm, fL, ee, en, ye, lv, se, pg, ou)) : wpY_decompose post (cc, rl, nI l.length, cl, dt, df, pb, lo, uf, us, fi, ki, wt, ef, eb, di, ex, cf, cs, cm, lg, tx, le, rr, ro, fm, fL, ee, en, ye, lv, se, pg, ou) mo := by
  have := sc_ls_le hp l
  exact ⟨_, y_decomp_l hd hp hpb (sc_ms l + 1) [] l ro (by omega) hA (by show sc_ls L l ≤ 64; omega) hr h⟩
end
section
variable {cc rl wl : Int32} {cl dt df ds ex lo uf us fi ki ef es di we cf cs cm tx le rr wk sh fo fl el ec ke kl em oe be pl po : Nat → Int32}
theorem x_rep_l {post : SX → Prop} {n p : Nat} {c : Int32} (hc : vp_in c 48) (hn : n < 64) (hp : p + 1 ≤ n) : ∀ (d : Nat) (wk : Nat → Int32), p + 1 + d ≤ n →
    post (cc, rl, nI (n + 1), cl, dt, df, ds, ex, lo, uf, us, fi, ki, ef, es, di, we, cf, cs, cm, tx, le, rr, upd (sc_up 0 d (p + 1) wk) (p + 1) (ds c.toNatClampNeg), sh, fo, fl, el, ec, ke, kl, em, oe, be, pl, po) → wX_replaceByDecomposition_43 post (nI p) c cc rl (nI n) (d + 1) (nI (p + 1 + d)) cl dt df ds ex lo uf us fi ki ef es di we cf cs cm tx le rr wk sh fo fl el ec ke kl em oe be pl po := by
  intro d
  induction d with
  | zero => exact fun wk hi h => br_t (by rw [nI_1]; exact nI_le (by omega) (by omega)) ⟨hc, pk_in (p + 1) 64 (by omega) (nI_1 p), nm_r (e' := upd wk (p + 1) (ds c.toNatClampNeg)) (by rw [nI_1, nI_clamp (by omega)]) (nm_r (nI_1 n) h)⟩
  | succ d ih => exact fun wk hi h => br_f (by rw [nI_1]; exact nI_ge (by omega) (by omega)) ⟨pk_in (p + 1 + d) 64 (by omega) (nI_pred _), vp_in_nI (by omega) (by decide),
      nm_r (e' := upd wk (0 + (p + 1) + d + 1) (wk (0 + (p + 1) + d))) (by rw [show p + 1 + (d + 1) = p + 1 + d + 1 by omega, nI_pred, nI_clamp (by omega), nI_clamp (by omega), Nat.zero_add]) (nm_r (pk_m1 _) (ih _ (by omega) h))⟩
theorem x_rep {post : SX → Prop} {pre rest : List Int32} {c : Int32} (hc : vp_in c 48) (hn : (pre ++ c :: rest).length ≤ 64) (hr : sc_Rp wk (pre ++ c :: rest)) (hb : ds c.toNatClampNeg = -1 ∨ ¬ ds c.toNatClampNeg = -1 ∧ (pre ++ c :: rest).length < 64)
    (h : ∀ wk, sc_Rp wk (pre ++ df c.toNatClampNeg :: (sc_tl ds c ++ rest)) → post (cc, rl, nI (pre ++ df c.toNatClampNeg :: (sc_tl ds c ++ rest)).length, cl, dt, df, ds, ex, lo, uf, us, fi, ki, ef, es, di, we, cf, cs, cm, tx, le, rr, wk, sh, fo, fl, el, ec, ke, kl, em, oe, be, pl, po)) : wpX_replaceByDecomposition post (cc, rl, nI (pre ++ c :: rest).length, cl, dt, df, ds, ex, lo, uf, us, fi, ki, ef, es, di, we, cf, cs, cm, tx, le, rr, wk, sh, fo, fl, el, ec, ke, kl, em, oe, be, pl, po) (nI pre.length) := by
  have hl := sc_len_mid pre rest c
  have hwc : wk (nI pre.length).toNatClampNeg = c := by rw [nI_clamp (by omega)]; exact sc_Rp_mid hr
  have v : vp_in (nI pre.length) 64 := vp_in_nI (by omega) (by decide)
  have hr' : sc_Rp (upd wk pre.length (df c.toNatClampNeg)) (pre ++ df c.toNatClampNeg :: rest) := sc_Rp_set _ hr
  unfold wpX_replaceByDecomposition
  refine ⟨v, nm_r hwc ⟨hc, v, nm_r (e' := upd wk pre.length (df c.toNatClampNeg)) (by rw [nI_clamp (by omega)]) ⟨hc, ?_⟩⟩⟩
  unfold sc_tl at h
  rcases hb with hb | ⟨hb, hb'⟩
  · rw [if_pos hb] at h
    have h' := h _ hr'
    rw [show (pre ++ df c.toNatClampNeg :: ([] ++ rest)).length = (pre ++ c :: rest).length by simp] at h'
    exact br_t hb h'
  · rw [if_neg hb] at h
    refine br_f hb (br_f (nI_ge (b := 64) hb' (by decide)) ?_)
    have e0 : (pre ++ [df c.toNatClampNeg]).length = pre.length + 1 := by simp
    have r1 := sc_Rp_ins (l := pre ++ [df c.toNatClampNeg]) (m := rest) (ds c.toNatClampNeg) (by rw [List.append_assoc]; exact hr')
    rw [e0, List.append_assoc] at r1
    have h' := h _ r1
    rw [show (pre ++ df c.toNatClampNeg :: ([ds c.toNatClampNeg] ++ rest)).length = (pre ++ c :: rest).length + 1 by simp only [List.length_append, List.length_cons, List.length_nil]; omega] at h'
    have e := x_rep_l (post := post) hc hb' (by omega : pre.length + 1 ≤ (pre ++ c :: rest).length) rest.length (upd wk pre.length (df c.toNatClampNeg)) (by omega) h'
    rw [show pre.length + 1 + rest.length = (pre ++ c :: rest).length by omega] at e
    exact ⟨_, e⟩
theorem x_decomp_l {post : SX → Prop} {mo : Int32} {L : Nat → Nat} (hd : sc_Dec dt df ds) (hp : sc_Pot dt df ds L) :
    ∀ (f : Nat) (pre todo : List Int32) (wk : Nat → Int32), sc_ms todo < f → sc_All (pre ++ todo) → sc_ls L (pre ++ todo) ≤ 64 → sc_Rp wk (pre ++ todo) →
    (∀ wk, sc_Rp wk (sc_dc dt df ds mo f pre todo) → post (cc, rl, nI (sc_dc dt df ds mo f pre todo).length, cl, dt, df, ds, ex, lo, uf, us, fi, ki, ef, es, di, we, cf, cs, cm, tx, le, rr, wk, sh, fo, fl, el, ec, ke, kl, em, oe, be, pl, po)) →
    (∀ m, 65 ≤ m + pre.length → wX_decomposeWork_2 post mo m (nI pre.length) cc rl (nI (pre ++ todo).length) cl dt df ds ex lo uf us fi ki ef es di we cf cs cm tx le rr wk sh fo fl el ec ke kl em oe be pl po) ∧
    (∀ c rest, todo = c :: rest → ∀ m n s, c.toNatClampNeg + s ≤ 47 → 49 ≤ n + s → 65 ≤ m + pre.length + 1 → wX_decomposeWork_18 post (wX_decomposeWork_2 post mo m) mo (nI pre.length) n (nI s) cc rl (nI (pre ++ todo).length) cl dt df ds ex lo uf us fi ki ef es di we cf cs cm tx le rr wk sh fo fl el ec ke kl em oe be pl po) := by
  intro f
  induction f with
  | zero => intro pre todo wk hm; omega
  | succ f ih =>
    intro pre todo wk hm hA hL hr h
    have hlen := sc_ls_len hp (pre ++ todo)
    have B : ∀ c rest, todo = c :: rest → ∀ m n s, c.toNatClampNeg + s ≤ 47 → 49 ≤ n + s → 65 ≤ m + pre.length + 1 → wX_decomposeWork_18 post (wX_decomposeWork_2 post mo m) mo (nI pre.length) n (nI s) cc rl (nI (pre ++ todo).length) cl dt df ds ex lo uf us fi ki ef es di we cf cs cm tx le rr wk sh fo fl el ec ke kl em oe be pl po := by
      intro c rest et m n s hs hn hm2
      subst et
      have hl := sc_len_mid pre rest c
      obtain ⟨a1, a2⟩ := sc_All_app.mp hA
      obtain ⟨a3, a4⟩ := sc_All_cons.mp a2
      have hwc : wk (nI pre.length).toNatClampNeg = c := by rw [nI_clamp (by omega)]; exact sc_Rp_mid hr
      have v : vp_in (nI pre.length) 64 := vp_in_nI (by omega) (by decide)
      have keep : ¬ sc_is dt mo c → wX_decomposeWork_2 post mo m (nI (pre.length + 1)) cc rl (nI (pre ++ c :: rest).length) cl dt df ds ex lo uf us fi ki ef es di we cf cs cm tx le rr wk sh fo fl el ec ke kl em oe be pl po := by
        intro hi
        unfold sc_dc at h
        rw [if_neg hi] at h
        have g := ih (pre ++ [c]) rest wk
        rw [List.append_assoc, List.length_append (as := pre) (bs := [c])] at g
        have hm' : sc_ms rest < f := by
          have : 0 < 3 ^ c.toNatClampNeg := Nat.pow_pos (by decide)
          have e : sc_ms (c :: rest) = 3 ^ c.toNatClampNeg + sc_ms rest := rfl
          omega
        exact (g hm' hA hL hr h).1 m (by show 65 ≤ m + (pre.length + 1); omega)
      obtain ⟨n, rfl⟩ : ∃ q, n = q + 1 := ⟨n - 1, by omega⟩
      refine br_f (nI_ge (b := 48) (by omega) (by decide)) ⟨v, by rw [hwc]; exact a3, nm_r (e' := dt c.toNatClampNeg) (by rw [hwc]) (br_c (fun z => nm_r (nI_1 _) (keep (fun y => y.1 z))) (fun z => br_c (fun y => ?_) (fun y => nm_r (nI_1 _) (keep (fun w => y w.2)))))⟩
      have hi : sc_is dt mo c := ⟨z, y⟩
      obtain ⟨⟨j, hj, ej⟩, b0, b1, b2, b3, b4⟩ := sc_rep hd hp a3 hi rest
      unfold sc_dc at h
      rw [if_pos hi] at h
      have hA' : sc_All (pre ++ df c.toNatClampNeg :: (sc_tl ds c ++ rest)) := sc_All_app.mpr ⟨a1, sc_All_cons.mpr ⟨b1, sc_All_app.mpr ⟨b2, a4⟩⟩⟩
      have hL' : sc_ls L (pre ++ df c.toNatClampNeg :: (sc_tl ds c ++ rest)) ≤ 64 := by
        rw [sc_ls_app] at hL ⊢
        omega
      have hlen' := sc_ls_len hp (pre ++ df c.toNatClampNeg :: (sc_tl ds c ++ rest))
      refine x_rep a3 (by omega) hr ?_ (fun wk' hr' => nm_r (nI_1 s) ?_)
      · rcases b0 with b0 | ⟨b0, b5⟩
        · exact Or.inl b0
        · refine Or.inr ⟨b5, ?_⟩
          unfold sc_tl at hlen' hL'
          rw [if_neg b5] at hlen' hL'
          have hlx : (pre ++ df c.toNatClampNeg :: ([ds c.toNatClampNeg] ++ rest)).length = pre.length + rest.length + 2 := by simp only [List.length_append, List.length_cons, List.length_nil]; omega
          omega
      · refine (ih pre _ wk' (by omega) hA' hL' hr' h).2 _ _ rfl m n (s + 1) ?_ (by omega) hm2
        rw [ej, nI_clamp (by omega)]
        omega
    refine ⟨?_, B⟩
    intro m hm2
    cases todo with
    | nil =>
      rw [List.append_nil] at hr hlen hL ⊢
      obtain ⟨m, rfl⟩ : ∃ q, m = q + 1 := ⟨m - 1, by omega⟩
      have h' := h wk hr
      by_cases e : 64 ≤ pre.length
      · exact br_t (nI_le (a := 64) e (by omega)) h'
      · exact br_f (nI_ge (b := 64) (by omega) (by decide)) (br_t (nI_le (by omega) (by omega)) h')
    | cons c rest =>
      have hl := sc_len_mid pre rest c
      obtain ⟨m, rfl⟩ : ∃ q, m = q + 1 := ⟨m - 1, by omega⟩
      have a3 := sn_cl (sc_All_cons.mp (sc_All_app.mp hA).2).1
      exact br_f (nI_ge (b := 64) (by omega) (by decide)) (br_f (nI_ge (by omega) (by omega)) ⟨49, B c rest rfl m 49 0 (by omega) (by omega) (by omega)⟩)
theorem x_decomp {post : SX → Prop} {mo : Int32} {L : Nat → Nat} {l : List Int32} (hd : sc_Dec dt df ds) (hp : sc_Pot dt df ds L)
    (hA : sc_All l) (hL : l.length ≤ 16) (hr : sc_Rp wk l) (h : ∀ wk, sc_Rp wk (sc_dc dt df ds mo (sc_ms l + 1) [] l) → post (cc, rl, nI (sc_dc dt df ds mo (sc_ms l + 1) [] l).length, cl, dt, df, ds, ex, lo, uf, us, fi, ki, ef, es, di, we, cf, cs, cm, tx, le, rr, wk, sh, fo, fl, el, ec, ke, kl, em, oe, be, pl, po)) : wpX_decomposeWork post (cc, rl, nI l.length, cl, dt, df, ds, ex, lo, uf, us, fi, ki, ef, es, di, we, cf, cs, cm, tx, le, rr, wk, sh, fo, fl, el, ec, ke, kl, em, oe, be, pl, po) mo := by
  have := sc_ls_le hp l
  exact ⟨65, (x_decomp_l hd hp (sc_ms l + 1) [] l wk (by omega) hA (by show sc_ls L l ≤ 64; omega) hr h).1 65 (by simp)⟩
end
