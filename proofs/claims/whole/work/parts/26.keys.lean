/-! keys, and comparison of rows -/
def sc_h (we : Nat → Int32) (l : Nat) (E : List Int32) (i : Nat) : Int32 := we (48 * l + (sc_at E i).toNatClampNeg)
def sc_kh (h : Nat → Int32) : Nat → Nat → List Int32
  | 0, _ => []
  | d + 1, i => if h i = 0 then sc_kh h d (i + 1) else h i :: sc_kh h d (i + 1)
def sc_nw (h : Nat → Int32) : Nat → Nat → Nat
  | 0, i => i
  | d + 1, i => if h i = 0 then sc_nw h d (i + 1) else i
def sc_cmp : List Int32 → List Int32 → Int32
  | [], [] => 0
  | [], _ :: _ => -1
  | _ :: _, [] => 1
  | x :: a, y :: b => if x = y then sc_cmp a b else if y ≤ x then 1 else -1
theorem sc_khL (h : Nat → Int32) : ∀ d i, (sc_kh h d i).length ≤ d := by
  intro d
  induction d with
  | zero => exact fun i => Nat.le_refl _
  | succ d ih =>
    intro i
    unfold sc_kh
    have := ih (i + 1)
    split
    · omega
    · rw [List.length_cons]; omega
theorem sc_khE {h h' : Nat → Int32} : ∀ d i, (∀ j, i ≤ j → j < i + d → h j = h' j) → sc_kh h d i = sc_kh h' d i := by
  intro d
  induction d with
  | zero => exact fun i _ => rfl
  | succ d ih =>
    intro i e
    unfold sc_kh
    rw [e i (by omega) (by omega), ih (i + 1) (fun j a b => e j (by omega) (by omega))]
theorem sc_nwR (h : Nat → Int32) : ∀ d i, i ≤ sc_nw h d i ∧ sc_nw h d i ≤ i + d ∧ (sc_nw h d i < i + d → ¬ h (sc_nw h d i) = 0) ∧ sc_kh h d i = sc_kh h (i + d - sc_nw h d i) (sc_nw h d i) := by
  intro d
  induction d with
  | zero => exact fun i => ⟨Nat.le_refl _, Nat.le_refl _, fun z => absurd z (Nat.lt_irrefl i), by show sc_kh h 0 i = sc_kh h (i + 0 - i) i; rw [Nat.add_zero, Nat.sub_self]⟩
  | succ d ih =>
    intro i
    unfold sc_nw
    by_cases z : h i = 0
    · rw [if_pos z]
      obtain ⟨a, b, c, e⟩ := ih (i + 1)
      refine ⟨by omega, by omega, fun w => c (by omega), ?_⟩
      rw [sc_kh, if_pos z, e]
      congr 1
      omega
    · rw [if_neg z]
      exact ⟨Nat.le_refl _, by omega, fun _ => z, by rw [show i + (d + 1) - i = d + 1 by omega]⟩
theorem sc_khC {h : Nat → Int32} {d i : Nat} (z : ¬ h i = 0) : sc_kh h (d + 1) i = h i :: sc_kh h d (i + 1) := by
  rw [sc_kh, if_neg z]
def sc_KX (sd : Nat) (ke kl : Nat → Int32) (K : List Int32) : Prop := sc_Sg ke (128 * sd) K ∧ kl sd = nI K.length
section
variable {cc rl wl : Int32} {cl dt df ds ex lo uf us fi ki ef es di we cf cs cm tx le rr wk sh fo fl el ec ke kl em oe be pl po : Nat → Int32}
theorem x_key_l {post : SX → Prop} {sd l : Nat} {E : List Int32} {ke0 : Nat → Int32} (hs : sd < 2) (hl : l < 3) (hE : E.length ≤ 128) (hA : sc_All E) (hel : sc_Sg el (128 * sd) E) (hec : ec sd = nI E.length)
    (h : ∀ ke, sc_Sg ke (128 * sd) (sc_kh (sc_h we l E) E.length 0) → (∀ j, j < 128 * sd ∨ 128 * sd + 128 ≤ j → ke j = ke0 j) → post (cc, rl, wl, cl, dt, df, ds, ex, lo, uf, us, fi, ki, ef, es, di, we, cf, cs, cm, tx, le, rr, wk, sh, fo, fl, el, ec, ke, upd kl sd (nI (sc_kh (sc_h we l E) E.length 0).length), em, oe, be, pl, po)) :
    ∀ (d i : Nat) (acc : List Int32) (ke : Nat → Int32), i + d = E.length → acc.length ≤ i → sc_kh (sc_h we l E) E.length 0 = acc ++ sc_kh (sc_h we l E) d i → sc_Sg ke (128 * sd) acc → (∀ j, j < 128 * sd ∨ 128 * sd + 128 ≤ j → ke j = ke0 j) →
    wX_loadKey_12 post (nI sd) (nI (l + 1)) (nI (128 * sd)) cc rl wl (d + 1) (nI acc.length) (nI i) cl dt df ds ex lo uf us fi ki ef es di we cf cs cm tx le rr wk sh fo fl el ec ke kl em oe be pl po := by
  have cs' : (nI sd).toNatClampNeg = sd := nI_clamp (by omega)
  have hv : vp_in (nI sd) 2 := vp_in_nI hs (by decide)
  intro d
  induction d with
  | zero =>
    intro i acc ke hi ha hk hsg hfr
    rw [sc_kh, List.append_nil] at hk
    rw [hk] at h
    refine ⟨hv, ?_⟩
    rw [cs', hec]
    exact br_t (nI_le (by omega) (by omega)) ⟨hv, nm_e (h ke hsg hfr)⟩
  | succ d ih =>
    intro i acc ke hi ha hk hsg hfr
    refine ⟨hv, ?_⟩
    rw [cs', hec]
    have e1 : nI (128 * sd) + nI i = nI (128 * sd + i) := nI_add _ _
    obtain ⟨q, hq, eq⟩ := vp_in_of (hA _ (sc_at_mem E i (by omega))) (by decide)
    have e2 : el (nI (128 * sd) + nI i).toNatClampNeg = nI q := by rw [e1, nI_clamp (by omega), hel i (by omega)]; exact eq
    have e3 : (nI (l + 1) - 1) * 48 + nI q = nI (48 * l + q) := by rw [nI_pred, show (48 : Int32) = nI 48 from rfl, pk_mul, nI_add, Nat.mul_comm]
    have e4 : sc_h we l E i = we (48 * l + q) := by unfold sc_h; rw [eq, nI_clamp (by omega)]
    have e5 : nI (128 * sd) + nI acc.length = nI (128 * sd + acc.length) := nI_add _ _
    rw [sc_kh] at hk
    rw [e2, e3]
    refine br_f (nI_ge (by omega) (by omega)) ⟨by rw [e1]; exact vp_in_nI (by omega) (by decide), vp_in_nI (by omega) (by decide), nm_r (e' := we (48 * l + q)) (by rw [nI_clamp (by omega)]) (br_c (fun a => nm_r (nI_1 i) (ih (i + 1) acc ke (by omega) (by omega) ?_ hsg hfr)) (fun a => ⟨by rw [e5]; exact vp_in_nI (by omega) (by decide), nm_r (e' := upd ke (128 * sd + acc.length) (we (48 * l + q))) (by rw [e5, nI_clamp (by omega)]) (nm_r (nI_1 _) (nm_r (nI_1 i) ?_))⟩))⟩
    · rw [if_pos (e4.trans a)] at hk; exact hk
    · rw [if_neg (fun z => a (e4.symm.trans z)), e4] at hk
      have g := ih (i + 1) (acc ++ [we (48 * l + q)]) (upd ke (128 * sd + acc.length) (we (48 * l + q))) (by omega) (by rw [List.length_append]; show acc.length + 1 ≤ i + 1; omega) (by rw [List.append_assoc]; exact hk) (fun j hj => ?_) (fun j hj => ?_)
      · rw [List.length_append] at g
        exact g
      · have hj' : j < acc.length + 1 := by simpa using hj
        by_cases e : j = acc.length
        · rw [e, pk_us, sc_at_mid]
        · rw [pk_un (by omega), hsg j (by omega), sc_at_lt _ _ _ (by omega)]
      · rw [pk_un (by omega)]; exact hfr j hj
theorem x_loadKey {post : SX → Prop} {sd l : Nat} {F E : List Int32} (hs : sd < 2) (hl : l < 3) (hE : E.length ≤ 128) (hA : sc_All E) (hX : sc_SX sd fo fl el ec F E)
    (h : ∀ ke' kl', sc_KX sd ke' kl' (sc_kh (sc_h we l E) E.length 0) → (∀ s' K', s' < 2 → ¬ s' = sd → K'.length ≤ 128 → sc_KX s' ke kl K' → sc_KX s' ke' kl' K') → post (cc, rl, wl, cl, dt, df, ds, ex, lo, uf, us, fi, ki, ef, es, di, we, cf, cs, cm, tx, le, rr, wk, sh, fo, fl, el, ec, ke', kl', em, oe, be, pl, po)) : wpX_loadKey post (cc, rl, wl, cl, dt, df, ds, ex, lo, uf, us, fi, ki, ef, es, di, we, cf, cs, cm, tx, le, rr, wk, sh, fo, fl, el, ec, ke, kl, em, oe, be, pl, po) (nI sd) (nI (l + 1)) := by
  unfold wpX_loadKey
  refine nm_r (e' := nI (128 * sd)) (by rw [show (128 : Int32) = nI 128 from rfl, pk_mul, Nat.mul_comm]) ⟨E.length + 1, x_key_l (ke0 := ke) hs hl hE hA hX.2.2.1 hX.2.2.2 (fun ke' hsg hfr => h _ _ ⟨hsg, pk_us⟩ (fun s' K' hs' hne hK q => ⟨fun j hj => ?_, (pk_un hne).trans q.2⟩)) E.length 0 [] ke (by omega) (Nat.le_refl _) rfl (fun i hi => absurd hi (Nat.not_lt_zero _)) (fun j _ => rfl)⟩
  rw [hfr _ (by omega)]; exact q.1 j hj
theorem x_cmpk_l {post : Int32 → Prop} {K0 K1 : List Int32} (h0 : sc_Sg ke 0 K0) (h1 : sc_Sg ke 128 K1) (l0 : kl 0 = nI K0.length) (l1 : kl 1 = nI K1.length) (b0 : K0.length ≤ 128) (b1 : K1.length ≤ 128) :
    ∀ (a b p0 p1 : List Int32), K0 = p0 ++ a → K1 = p1 ++ b → p0.length = p1.length → post (sc_cmp a b) → wX_compareRows__keys_keyLengths_3 post 128 cc rl wl cl dt df ds ex lo uf us fi ki ef es di we cf cs cm tx le rr wk sh fo fl el ec ke kl em oe be pl po (a.length + 1) (nI p0.length) := by
  intro a
  induction a with
  | nil =>
    intro b p0 p1 e0 e1 el' h
    have n0 : K0.length = p0.length := by rw [e0, List.append_nil]
    have fin : wX_compareRows__keys_keyLengths_63 post cc rl wl cl dt df ds ex lo uf us fi ki ef es di we cf cs cm tx le rr wk sh fo fl el ec ke kl em oe be pl po := by
      unfold wX_compareRows__keys_keyLengths_63
      rw [l0, l1]
      cases b with
      | nil =>
        have n1 : K1.length = p1.length := by rw [e1, List.append_nil]
        exact br_t (by rw [n0, n1, el']) h
      | cons y b =>
        have n1 : K1.length = p1.length + b.length + 1 := by rw [e1]; exact sc_len_mid p1 b y
        exact br_f (fun z => by have := (nI_eq (by omega) (by omega)).mp z; omega) (br_f (nI_ge (by omega) (by omega)) h)
    by_cases z : 128 ≤ p0.length
    · exact br_t (nI_le (a := 128) z (by omega)) fin
    · exact br_f (nI_ge (b := 128) (by omega) (by decide)) (br_t (by rw [l0]; exact nI_le (by omega) (by omega)) fin)
  | cons x a ih =>
    intro b p0 p1 e0 e1 el' h
    have n0 : K0.length = p0.length + a.length + 1 := by rw [e0]; exact sc_len_mid p0 a x
    refine br_f (nI_ge (b := 128) (by omega) (by decide)) (br_f (by rw [l0]; exact nI_ge (by omega) (by omega)) ?_)
    rw [l1]
    cases b with
    | nil =>
      have n1 : K1.length = p1.length := by rw [e1, List.append_nil]
      refine br_t (nI_le (by omega) (by omega)) ?_
      unfold wX_compareRows__keys_keyLengths_63
      rw [l0, l1]
      exact br_f (fun z => by have := (nI_eq (by omega) (by omega)).mp z; omega) (br_t (nI_le (by omega) (by omega)) h)
    | cons y b =>
      have n1 : K1.length = p1.length + b.length + 1 := by rw [e1]; exact sc_len_mid p1 b y
      have ex' : ke (nI p0.length).toNatClampNeg = x := by
        have := h0 p0.length (by omega)
        rw [Nat.zero_add, e0, sc_at_mid] at this
        rw [nI_clamp (by omega)]; exact this
      have er : (128 : Int32) + nI p0.length = nI (128 + p0.length) := nI_add 128 p0.length
      have ey : ke ((128 : Int32) + nI p0.length).toNatClampNeg = y := by
        have := h1 p1.length (by omega)
        rw [e1, sc_at_mid] at this
        rw [er, nI_clamp (by omega), el']; exact this
      have v0 : vp_in (nI p0.length) 256 := vp_in_nI (by omega) (by decide)
      have v1 : vp_in ((128 : Int32) + nI p0.length) 256 := by rw [er]; exact vp_in_nI (by omega) (by decide)
      refine br_f (nI_ge (by omega) (by omega)) ⟨v0, v1, ?_⟩
      rw [ex', ey]
      rw [sc_cmp] at h
      refine br_c (fun q => nm_r (nI_1 _) ?_) (fun q => ⟨v0, v1, br_c (fun r => ?_) (fun r => ?_)⟩)
      · rw [if_pos q] at h
        have g := ih b (p0 ++ [x]) (p1 ++ [y]) (by rw [List.append_assoc]; exact e0) (by rw [List.append_assoc]; exact e1) (by rw [List.length_append, List.length_append, el']; rfl) h
        rw [List.length_append] at g
        exact g
      · rw [if_neg q, if_pos r] at h; exact h
      · rw [if_neg q, if_neg r] at h; exact h
theorem x_cmpf_l {post : Int32 → Prop} {K0 K1 : List Int32} (h0 : sc_Sg fo 0 K0) (h1 : sc_Sg fo 64 K1) (l0 : fl 0 = nI K0.length) (l1 : fl 1 = nI K1.length) (b0 : K0.length ≤ 64) (b1 : K1.length ≤ 64) :
    ∀ (a b p0 p1 : List Int32), K0 = p0 ++ a → K1 = p1 ++ b → p0.length = p1.length → post (sc_cmp a b) → wX_compareRows__forms_formLengths_3 post 64 cc rl wl cl dt df ds ex lo uf us fi ki ef es di we cf cs cm tx le rr wk sh fo fl el ec ke kl em oe be pl po (a.length + 1) (nI p0.length) := by
  intro a
  induction a with
  | nil =>
    intro b p0 p1 e0 e1 el' h
    have n0 : K0.length = p0.length := by rw [e0, List.append_nil]
    have fin : wX_compareRows__forms_formLengths_63 post cc rl wl cl dt df ds ex lo uf us fi ki ef es di we cf cs cm tx le rr wk sh fo fl el ec ke kl em oe be pl po := by
      unfold wX_compareRows__forms_formLengths_63
      rw [l0, l1]
      cases b with
      | nil =>
        have n1 : K1.length = p1.length := by rw [e1, List.append_nil]
        exact br_t (by rw [n0, n1, el']) h
      | cons y b =>
        have n1 : K1.length = p1.length + b.length + 1 := by rw [e1]; exact sc_len_mid p1 b y
        exact br_f (fun z => by have := (nI_eq (by omega) (by omega)).mp z; omega) (br_f (nI_ge (by omega) (by omega)) h)
    by_cases z : 64 ≤ p0.length
    · exact br_t (nI_le (a := 64) z (by omega)) fin
    · exact br_f (nI_ge (b := 64) (by omega) (by decide)) (br_t (by rw [l0]; exact nI_le (by omega) (by omega)) fin)
  | cons x a ih =>
    intro b p0 p1 e0 e1 el' h
    have n0 : K0.length = p0.length + a.length + 1 := by rw [e0]; exact sc_len_mid p0 a x
    refine br_f (nI_ge (b := 64) (by omega) (by decide)) (br_f (by rw [l0]; exact nI_ge (by omega) (by omega)) ?_)
    rw [l1]
    cases b with
    | nil =>
      have n1 : K1.length = p1.length := by rw [e1, List.append_nil]
      refine br_t (nI_le (by omega) (by omega)) ?_
      unfold wX_compareRows__forms_formLengths_63
      rw [l0, l1]
      exact br_f (fun z => by have := (nI_eq (by omega) (by omega)).mp z; omega) (br_t (nI_le (by omega) (by omega)) h)
    | cons y b =>
      have n1 : K1.length = p1.length + b.length + 1 := by rw [e1]; exact sc_len_mid p1 b y
      have ex' : fo (nI p0.length).toNatClampNeg = x := by
        have := h0 p0.length (by omega)
        rw [Nat.zero_add, e0, sc_at_mid] at this
        rw [nI_clamp (by omega)]; exact this
      have er : (64 : Int32) + nI p0.length = nI (64 + p0.length) := nI_add 64 p0.length
      have ey : fo ((64 : Int32) + nI p0.length).toNatClampNeg = y := by
        have := h1 p1.length (by omega)
        rw [e1, sc_at_mid] at this
        rw [er, nI_clamp (by omega), el']; exact this
      have v0 : vp_in (nI p0.length) 128 := vp_in_nI (by omega) (by decide)
      have v1 : vp_in ((64 : Int32) + nI p0.length) 128 := by rw [er]; exact vp_in_nI (by omega) (by decide)
      refine br_f (nI_ge (by omega) (by omega)) ⟨v0, v1, ?_⟩
      rw [ex', ey]
      rw [sc_cmp] at h
      refine br_c (fun q => nm_r (nI_1 _) ?_) (fun q => ⟨v0, v1, br_c (fun r => ?_) (fun r => ?_)⟩)
      · rw [if_pos q] at h
        have g := ih b (p0 ++ [x]) (p1 ++ [y]) (by rw [List.append_assoc]; exact e0) (by rw [List.append_assoc]; exact e1) (by rw [List.length_append, List.length_append, el']; rfl) h
        rw [List.length_append] at g
        exact g
      · rw [if_neg q, if_pos r] at h; exact h
      · rw [if_neg q, if_neg r] at h; exact h
end
section
variable {cc rl yn : Int32} {cl dt df pb lo uf us fi ki wt ef eb di ex cf cs cm lg tx le rr ro fm fL ee en ye lv se pg ou : Nat → Int32}
theorem y_cmpf_l {post : Int32 → Prop} {K0 K1 : List Int32} (h0 : sc_Sg fm 0 K0) (h1 : sc_Sg fm 64 K1) (l0 : fL 0 = nI K0.length) (l1 : fL 1 = nI K1.length) (b0 : K0.length ≤ 64) (b1 : K1.length ≤ 64) :
    ∀ (a b p0 p1 : List Int32), K0 = p0 ++ a → K1 = p1 ++ b → p0.length = p1.length → post (sc_cmp a b) → wY_compareForms_2 post cc rl yn cl dt df pb lo uf us fi ki wt ef eb di ex cf cs cm lg tx le rr ro fm fL ee en ye lv se pg ou (a.length + 1) (nI p0.length) := by
  intro a
  induction a with
  | nil =>
    intro b p0 p1 e0 e1 el' h
    have n0 : K0.length = p0.length := by rw [e0, List.append_nil]
    refine br_t (by rw [l0]; exact nI_le (by omega) (by omega)) ?_
    unfold wY_compareForms_70
    rw [l0, l1]
    cases b with
    | nil =>
      have n1 : K1.length = p1.length := by rw [e1, List.append_nil]
      exact br_t (nI_le (by omega) (by omega)) (br_t (nI_le (by omega) (by omega)) h)
    | cons y b =>
      have n1 : K1.length = p1.length + b.length + 1 := by rw [e1]; exact sc_len_mid p1 b y
      exact br_f (nI_ge (by omega) (by omega)) h
  | cons x a ih =>
    intro b p0 p1 e0 e1 el' h
    have n0 : K0.length = p0.length + a.length + 1 := by rw [e0]; exact sc_len_mid p0 a x
    refine br_f (by rw [l0]; exact nI_ge (by omega) (by omega)) ?_
    rw [l1]
    cases b with
    | nil =>
      have n1 : K1.length = p1.length := by rw [e1, List.append_nil]
      refine br_t (nI_le (by omega) (by omega)) ?_
      unfold wY_compareForms_70
      rw [l0, l1]
      exact br_t (nI_le (by omega) (by omega)) (br_f (nI_ge (by omega) (by omega)) h)
    | cons y b =>
      have n1 : K1.length = p1.length + b.length + 1 := by rw [e1]; exact sc_len_mid p1 b y
      have ex' : fm (nI p0.length).toNatClampNeg = x := by
        have := h0 p0.length (by omega)
        rw [Nat.zero_add, e0, sc_at_mid] at this
        rw [nI_clamp (by omega)]; exact this
      have er : (64 : Int32) + nI p0.length = nI (64 + p0.length) := nI_add 64 p0.length
      have ey : fm ((64 : Int32) + nI p0.length).toNatClampNeg = y := by
        have := h1 p1.length (by omega)
        rw [e1, sc_at_mid] at this
        rw [er, nI_clamp (by omega), el']; exact this
      have v0 : vp_in (nI p0.length) 128 := vp_in_nI (by omega) (by decide)
      have v1 : vp_in ((64 : Int32) + nI p0.length) 128 := by rw [er]; exact vp_in_nI (by omega) (by decide)
      refine br_f (nI_ge (by omega) (by omega)) ⟨v0, v1, ?_⟩
      rw [ex', ey]
      rw [sc_cmp] at h
      refine br_c (fun q => nm_r (nI_1 _) ?_) (fun q => ⟨v0, v1, br_c (fun r => ?_) (fun r => ?_)⟩)
      · rw [if_pos q] at h
        have g := ih b (p0 ++ [x]) (p1 ++ [y]) (by rw [List.append_assoc]; exact e0) (by rw [List.append_assoc]; exact e1) (by rw [List.length_append, List.length_append, el']; rfl) h
        rw [List.length_append] at g
        exact g
      · rw [if_neg q, if_pos r] at h; exact h
      · rw [if_neg q, if_neg r] at h; exact h
theorem y_nw_l {post : Int32 → Prop} {sd l N : Nat} (hs : sd < 2) (hl : l < 3) (hN : N ≤ 128) (hen : en sd = nI N) : ∀ d i, i + d = N → post (nI (sc_nw (fun i => ee (384 * sd + 128 * l + i)) d i)) → wY_nextWeight_3 post (nI sd) (nI l) cc rl yn cl dt df pb lo uf us fi ki wt ef eb di ex cf cs cm lg tx le rr ro fm fL ee en ye lv se pg ou (d + 1) (nI i) := by
  have cs' : (nI sd).toNatClampNeg = sd := nI_clamp (by omega)
  have hv : vp_in (nI sd) 2 := vp_in_nI hs (by decide)
  have ei : ∀ i, 384 * nI sd + 128 * nI l + nI i = nI (384 * sd + 128 * l + i) := fun i => by rw [show (384 : Int32) = nI 384 from rfl, show (128 : Int32) = nI 128 from rfl, pk_mul, pk_mul, nI_add, nI_add]
  intro d
  induction d with
  | zero => exact fun i hi h => ⟨hv, br_t (by rw [cs', hen]; exact nI_le (by omega) (by omega)) h⟩
  | succ d ih =>
    intro i hi h
    unfold sc_nw at h
    refine ⟨hv, br_f (by rw [cs', hen]; exact nI_ge (by omega) (by omega)) ?_⟩
    rw [ei, nI_clamp (by omega)]
    refine ⟨vp_in_nI (by omega) (by decide), br_c (fun a => nm_r (nI_1 i) (ih (i + 1) (by omega) ?_)) (fun a => ?_)⟩
    · rw [if_pos a] at h; exact h
    · rw [if_neg a] at h; exact h
theorem y_nw {post : Int32 → Prop} {sd l N i : Nat} (hs : sd < 2) (hl : l < 3) (hN : N ≤ 128) (hen : en sd = nI N) (hi : i ≤ N) (h : post (nI (sc_nw (fun i => ee (384 * sd + 128 * l + i)) (N - i) i))) : wpY_nextWeight post (cc, rl, yn, cl, dt, df, pb, lo, uf, us, fi, ki, wt, ef, eb, di, ex, cf, cs, cm, lg, tx, le, rr, ro, fm, fL, ee, en, ye, lv, se, pg, ou) (nI sd) (nI l) (nI i) :=
  ⟨N - i + 1, y_nw_l hs hl hN hen (N - i) i (by omega) h⟩
theorem y_cmpk_l {post : Int32 → Prop} {l N0 N1 : Nat} (hl : l < 3) (b0 : N0 ≤ 128) (b1 : N1 ≤ 128) (l0 : en 0 = nI N0) (l1 : en 1 = nI N1) :
    ∀ (n i j : Nat), N0 + 1 ≤ n + i → i ≤ N0 → j ≤ N1 → (i < N0 → ¬ ee (384 * 0 + 128 * l + i) = 0) → (j < N1 → ¬ ee (384 * 1 + 128 * l + j) = 0) →
    post (sc_cmp (sc_kh (fun i => ee (384 * 0 + 128 * l + i)) (N0 - i) i) (sc_kh (fun i => ee (384 * 1 + 128 * l + i)) (N1 - j) j)) → wY_compareKeys_16 post (nI l) cc rl yn cl dt df pb lo uf us fi ki wt ef eb di ex cf cs cm lg tx le rr ro fm fL ee en ye lv se pg ou n (nI i) (nI j) := by
  intro n
  induction n with
  | zero => intro i j hn hi hj; omega
  | succ n ih =>
    intro i j hn hi hj hz0 hz1 h
    by_cases e0 : i < N0
    · obtain ⟨d0, hd0⟩ : ∃ d, N0 - i = d + 1 := ⟨N0 - i - 1, by omega⟩
      rw [hd0, sc_khC (h := fun i => ee (384 * 0 + 128 * l + i)) (hz0 e0)] at h
      refine br_f (by rw [l0]; exact nI_ge e0 (by omega)) ?_
      rw [l1]
      by_cases e1 : j < N1
      · obtain ⟨d1, hd1⟩ : ∃ d, N1 - j = d + 1 := ⟨N1 - j - 1, by omega⟩
        rw [hd1, sc_khC (h := fun i => ee (384 * 1 + 128 * l + i)) (hz1 e1), sc_cmp] at h
        have ex' : 128 * nI l + nI i = nI (384 * 0 + 128 * l + i) := by rw [show (128 : Int32) = nI 128 from rfl, pk_mul, nI_add]; exact congrArg nI (by omega)
        have ey : 384 + 128 * nI l + nI j = nI (384 * 1 + 128 * l + j) := by rw [show (384 : Int32) = nI 384 from rfl, show (128 : Int32) = nI 128 from rfl, pk_mul, nI_add, nI_add]
        rw [ex', ey, nI_clamp (by omega), nI_clamp (by omega)]
        refine br_f (nI_ge e1 (by omega)) ⟨vp_in_nI (by omega) (by decide), nm_e ⟨vp_in_nI (by omega) (by decide), nm_e (br_c (fun q => ?_) (fun q => br_c (fun r => ?_) (fun r => ?_)))⟩⟩
        · rw [if_pos q] at h
          rw [nI_1, nI_1]
          obtain ⟨a1, a2, a3, a4⟩ := sc_nwR (fun i => ee (384 * 0 + 128 * l + i)) (N0 - (i + 1)) (i + 1)
          obtain ⟨c1, c2, c3, c4⟩ := sc_nwR (fun i => ee (384 * 1 + 128 * l + i)) (N1 - (j + 1)) (j + 1)
          refine y_nw (sd := 0) (by omega) hl b0 l0 (by omega) (y_nw (sd := 1) (by omega) hl b1 l1 (by omega) (ih _ _ (by omega) (by omega) (by omega) (fun z => a3 (by omega)) (fun z => c3 (by omega)) ?_))
          rw [show d0 = N0 - (i + 1) by omega, show d1 = N1 - (j + 1) by omega, a4, c4] at h
          rw [show i + 1 + (N0 - (i + 1)) = N0 by omega, show j + 1 + (N1 - (j + 1)) = N1 by omega] at h
          exact h
        · rw [if_neg q, if_pos r] at h; exact h
        · rw [if_neg q, if_neg r] at h; exact h
      · rw [show N1 - j = 0 by omega] at h
        refine br_t (nI_le (by omega) (by omega)) ?_
        unfold wY_compareKeys_111
        rw [l0]
        exact br_f (nI_ge e0 (by omega)) h
    · rw [show N0 - i = 0 by omega] at h
      refine br_t (by rw [l0]; exact nI_le (by omega) (by omega)) ?_
      unfold wY_compareKeys_111
      rw [l0, l1]
      refine br_t (nI_le (by omega) (by omega)) ?_
      by_cases e1 : j < N1
      · obtain ⟨d1, hd1⟩ : ∃ d, N1 - j = d + 1 := ⟨N1 - j - 1, by omega⟩
        rw [hd1, sc_khC (h := fun i => ee (384 * 1 + 128 * l + i)) (hz1 e1)] at h
        exact br_f (nI_ge e1 (by omega)) h
      · rw [show N1 - j = 0 by omega] at h
        exact br_t (nI_le (by omega) (by omega)) h
theorem y_cmpk {post : Int32 → Prop} {l N0 N1 : Nat} (hl : l < 3) (b0 : N0 ≤ 128) (b1 : N1 ≤ 128) (l0 : en 0 = nI N0) (l1 : en 1 = nI N1)
    (h : post (sc_cmp (sc_kh (fun i => ee (384 * 0 + 128 * l + i)) N0 0) (sc_kh (fun i => ee (384 * 1 + 128 * l + i)) N1 0))) : wpY_compareKeys post (cc, rl, yn, cl, dt, df, pb, lo, uf, us, fi, ki, wt, ef, eb, di, ex, cf, cs, cm, lg, tx, le, rr, ro, fm, fL, ee, en, ye, lv, se, pg, ou) (nI l) := by
  unfold wpY_compareKeys
  obtain ⟨a1, a2, a3, a4⟩ := sc_nwR (fun i => ee (384 * 0 + 128 * l + i)) N0 0
  obtain ⟨c1, c2, c3, c4⟩ := sc_nwR (fun i => ee (384 * 1 + 128 * l + i)) N1 0
  rw [a4, c4, Nat.zero_add N0, Nat.zero_add N1] at h
  rw [Nat.zero_add N0] at a2 a3
  rw [Nat.zero_add N1] at c2 c3
  refine y_nw (sd := 0) (i := 0) (by omega) hl b0 l0 (by omega) (y_nw (sd := 1) (i := 0) (by omega) hl b1 l1 (by omega) ⟨N0 + 1, y_cmpk_l hl b0 b1 l0 l1 (N0 + 1) _ _ (by omega) ?_ ?_ ?_ ?_ ?_⟩)
  · rw [Nat.sub_zero]; exact a2
  · rw [Nat.sub_zero]; exact c2
  · rw [Nat.sub_zero]; exact a3
  · rw [Nat.sub_zero]; exact c3
  · rw [Nat.sub_zero, Nat.sub_zero]; exact h
theorem y_at_l {post : Int32 → SY → Prop} {l N k : Nat} (hl : l < 3) (hk : k < 2 ^ 31) (b0 : N ≤ 128) (l0 : en 0 = nI N) :
    ∀ (n a i : Nat), N + 1 ≤ n + a → a ≤ N → i ≤ k → (a < N → ¬ ee (384 * 0 + 128 * l + a) = 0) →
    post (sc_at (sc_kh (fun i => ee (384 * 0 + 128 * l + i)) (N - a) a) (k - i)) (cc, rl, yn, cl, dt, df, pb, lo, uf, us, fi, ki, wt, ef, eb, di, ex, cf, cs, cm, lg, tx, le, rr, ro, fm, fL, ee, en, ye, lv, se, pg, ou) → wY_key_53 post (nI (l + 1)) (nI k) cc rl yn cl dt df pb lo uf us fi ki wt ef eb di ex cf cs cm lg tx le rr ro fm fL ee en ye lv se pg ou n (nI a) (nI i) := by
  have fin : ∀ a, a ≤ N → (a < N → ¬ ee (384 * 0 + 128 * l + a) = 0) → (∀ x, (x = (if a < N then ee (384 * 0 + 128 * l + a) else 0)) → post x (cc, rl, yn, cl, dt, df, pb, lo, uf, us, fi, ki, wt, ef, eb, di, ex, cf, cs, cm, lg, tx, le, rr, ro, fm, fL, ee, en, ye, lv, se, pg, ou)) → wY_key_90 post (nI (l + 1)) (nI a) cc rl yn cl dt df pb lo uf us fi ki wt ef eb di ex cf cs cm lg tx le rr ro fm fL ee en ye lv se pg ou := by
    intro a ha hz h
    unfold wY_key_90
    rw [l0, nI_pred]
    have ex' : 128 * nI l + nI a = nI (384 * 0 + 128 * l + a) := by rw [show (128 : Int32) = nI 128 from rfl, pk_mul, nI_add]; exact congrArg nI (by omega)
    by_cases e : a < N
    · refine br_f (nI_ge e (by omega)) ?_
      rw [ex', nI_clamp (by omega)]
      exact ⟨vp_in_nI (by omega) (by decide), h _ (if_pos e).symm⟩
    · exact br_t (nI_le (by omega) (by omega)) (h _ (if_neg e).symm)
  intro n
  induction n with
  | zero => intro a i hn ha; omega
  | succ n ih =>
    intro a i hn ha hi hz h
    by_cases ei : k ≤ i
    · refine br_t (nI_le ei (by omega)) (fin a ha hz (fun x ex' => ?_))
      rw [show k - i = 0 by omega] at h
      rw [ex']
      by_cases e : a < N
      · obtain ⟨d0, hd0⟩ : ∃ d, N - a = d + 1 := ⟨N - a - 1, by omega⟩
        rw [hd0, sc_khC (h := fun i => ee (384 * 0 + 128 * l + i)) (hz e)] at h
        rw [if_pos e]; exact h
      · rw [show N - a = 0 by omega] at h
        rw [if_neg e]; exact h
    · refine br_f (nI_ge (by omega) (by omega)) ?_
      rw [l0]
      by_cases e : a < N
      · obtain ⟨d0, hd0⟩ : ∃ d, N - a = d + 1 := ⟨N - a - 1, by omega⟩
        obtain ⟨q, hq⟩ : ∃ q, k - i = q + 1 := ⟨k - i - 1, by omega⟩
        rw [hd0, sc_khC (h := fun i => ee (384 * 0 + 128 * l + i)) (hz e), hq] at h
        obtain ⟨a1, a2, a3, a4⟩ := sc_nwR (fun i => ee (384 * 0 + 128 * l + i)) (N - (a + 1)) (a + 1)
        refine br_f (nI_ge e (by omega)) ?_
        rw [nI_pred, nI_1 a]
        refine y_nw (sd := 0) (by omega) hl b0 l0 (by omega) (nm_r (nI_1 i) (ih _ (i + 1) (by omega) (by omega) (by omega) (fun z => a3 (by omega)) ?_))
        have h' : post (sc_at (sc_kh (fun i => ee (384 * 0 + 128 * l + i)) d0 (a + 1)) q) (cc, rl, yn, cl, dt, df, pb, lo, uf, us, fi, ki, wt, ef, eb, di, ex, cf, cs, cm, lg, tx, le, rr, ro, fm, fL, ee, en, ye, lv, se, pg, ou) := h
        rw [show d0 = N - (a + 1) by omega, a4, show a + 1 + (N - (a + 1)) = N by omega, show q = k - (i + 1) by omega] at h'
        exact h'
      · refine br_t (nI_le (by omega) (by omega)) (fin a ha hz (fun x ex' => ?_))
        rw [show N - a = 0 by omega] at h
        rw [ex', if_neg e]; exact h
end
