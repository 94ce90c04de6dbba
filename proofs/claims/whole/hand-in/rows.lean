section
theorem pk_us {f : Nat → Int32} {k : Nat} {x : Int32} : upd f k x k = x := if_pos rfl
theorem pk_un {f : Nat → Int32} {k j : Nat} {x : Int32} (h : j ≠ k) : upd f k x j = f j := if_neg h
theorem pk_sub {a b : Nat} (h : b ≤ a) : nI a - nI b = nI (a - b) := by
  obtain ⟨c, rfl⟩ : ∃ c, a = c + b := ⟨a - b, by omega⟩
  rw [← nI_add, Int32.add_sub_cancel, Nat.add_sub_cancel]
theorem pk_m1 (n : Nat) : nI (n + 1) + (-1) = nI n := by
  rw [← nI_1, Int32.add_assoc, show (1 : Int32) + (-1) = 0 from rfl, Int32.add_zero]
theorem pk_mul (a b : Nat) : nI a * nI b = nI (a * b) := (Int32.ofNat_mul a b).symm
theorem pk_div {a d : Nat} (ha : a < 2 ^ 31) (h0 : 0 < d) (hd : d < 2 ^ 31) : nI a / nI d = nI (a / d) := by
  apply Int32.toInt_inj.mp
  rw [lg_idiv_nonneg (by rw [nI_toInt ha]; omega) (by rw [nI_toInt hd]; omega), nI_toInt ha, nI_toInt hd, nI_toInt (Nat.lt_of_le_of_lt (Nat.div_le_self a d) ha)]
  first | rfl | exact (Int.natCast_ediv _ _).symm
theorem pk_rem {a d : Nat} (ha : a < 2 ^ 31) (h0 : 0 < d) (hd : d < 2 ^ 31) : nI a - nI a / nI d * nI d = nI (a % d) := by
  rw [pk_div ha h0 hd, pk_mul, pk_sub (Nat.div_mul_le_self a d)]
  exact congrArg nI (by have := Nat.div_add_mod' a d; omega)
theorem pk_sub_toInt {a b : Nat} (ha : a < 2 ^ 30) (hb : b < 2 ^ 30) : (nI a - nI b).toInt = (a : Int) - b := by
  rw [Int32.toInt_sub, nI_toInt (by omega), nI_toInt (by omega)]
  exact Int.bmod_eq_of_le (by omega) (by omega)
theorem pk_sneg {a b : Nat} (hb : b < 2 ^ 30) (h : a < b) : nI a - nI b < 0 := by
  rw [Int32.lt_iff_toInt_lt, pk_sub_toInt (by omega) hb, show (0 : Int32).toInt = 0 from by decide]
  omega
theorem pk_ix (x : Int32) {n : Nat} (hn : n < 2 ^ 31) : x < 0 ∨ nI n ≤ x ∨ ∃ j : Nat, j < n ∧ x = nI j := by
  by_cases h : x < 0
  · exact Or.inl h
  · obtain ⟨j, hj, rfl⟩ := nI_of h
    by_cases h2 : j < n
    · exact Or.inr (Or.inr ⟨j, h2, rfl⟩)
    · exact Or.inr (Or.inl (nI_le (by omega) hj))
theorem pk_le {x y : Int32} {A B : Prop} (a b : Nat) (f : a ≤ b → A) (g : b < a → B) (hx : x = nI a := by rfl) (hy : y = nI b := by rfl) (ha : a < 2 ^ 31 := by omega) (hb : b < 2 ^ 31 := by omega) : (x ≤ y → A) ∧ (¬ x ≤ y → B) := by
  subst hx hy
  rw [nI_leI ha hb]
  exact ⟨f, fun z => g (by omega)⟩
theorem pk_lt {x y : Int32} {A B : Prop} (a b : Nat) (f : a < b → A) (g : b ≤ a → B) (hx : x = nI a := by rfl) (hy : y = nI b := by rfl) (ha : a < 2 ^ 31 := by omega) (hb : b < 2 ^ 31 := by omega) : (x < y → A) ∧ (¬ x < y → B) := by
  subst hx hy
  rw [nI_ltI ha hb]
  exact ⟨f, fun z => g (by omega)⟩
theorem pk_eq {x y : Int32} {A B : Prop} (a b : Nat) (f : a = b → A) (g : a ≠ b → B) (hx : x = nI a := by rfl) (hy : y = nI b := by rfl) (ha : a < 2 ^ 31 := by omega) (hb : b < 2 ^ 31 := by omega) : (x = y → A) ∧ (¬ x = y → B) := by
  subst hx hy
  rw [nI_eq ha hb]
  exact ⟨f, g⟩
theorem pk_in {x : Int32} (n N : Nat) (h : n < N) (hx : x = nI n := by rfl) (hN : N < 2 ^ 31 := by omega) : vp_in x N := by
  subst hx
  exact vp_in_nI h hN
theorem pk_cl {x : Int32} (n : Nat) (hx : x = nI n := by rfl) (h : n < 2 ^ 31 := by omega) : x.toNatClampNeg = n := by
  subst hx
  exact nI_clamp h
theorem pk_tn {n : Nat} (h : n < 2 ^ 32) : (nI n).toBitVec.toNat = n := Nat.mod_eq_of_lt h
theorem pk_and (x : Int32) {m : Int32} (k : Nat) (hm : m.toBitVec.toNat = 2 ^ k - 1) : x &&& m = nI (x.toBitVec.toNat % 2 ^ k) := by
  apply Int32.toBitVec_inj.mp
  apply BitVec.eq_of_toNat_eq
  rw [Int32.toBitVec_and, BitVec.toNat_and, hm, Nat.and_two_pow_sub_one_eq_mod]
  show _ = (BitVec.ofNat 32 _).toNat
  rw [BitVec.toNat_ofNat]
  exact (Nat.mod_eq_of_lt (Nat.lt_of_le_of_lt (Nat.mod_le _ _) x.toBitVec.isLt)).symm
theorem pk_andN {n : Nat} (h : n < 2 ^ 32) {m : Int32} (k : Nat) (hm : m.toBitVec.toNat = 2 ^ k - 1) : nI n &&& m = nI (n % 2 ^ k) := by
  rw [pk_and _ k hm, pk_tn h]
theorem pk_andE (x : Int32) {m : Int32} (k : Nat) (hm : m.toBitVec.toNat = 2 ^ k - 1) : ∃ j : Nat, j < 2 ^ k ∧ x &&& m = nI j := ⟨_, Nat.mod_lt _ (Nat.two_pow_pos k), pk_and x k hm⟩
theorem pk_andIn (x : Int32) {m : Int32} (k : Nat) (hm : m.toBitVec.toNat = 2 ^ k - 1) (hk : k ≤ 30) : vp_in (x &&& m) (2 ^ k) := by
  obtain ⟨j, hj, e⟩ := pk_andE x k hm
  rw [e]
  exact vp_in_nI hj (Nat.lt_of_le_of_lt (Nat.pow_le_pow_right (by decide) hk) (by decide))
theorem pk_shl (a s : Int32) (k : Nat) (hs : (s.toBitVec.smod 32).toNat = k) : (a <<< s).toBitVec.toNat = a.toBitVec.toNat * 2 ^ k % 2 ^ 32 := by
  show (a.toBitVec <<< (s.toBitVec.smod 32).toNat).toNat = _
  rw [hs, BitVec.toNat_shiftLeft, Nat.shiftLeft_eq]
theorem pk_shlN {n : Nat} (s : Int32) (k : Nat) (hs : (s.toBitVec.smod 32).toNat = k) (h : n * 2 ^ k < 2 ^ 32) : nI n <<< s = nI (n * 2 ^ k) := by
  apply Int32.toBitVec_inj.mp
  apply BitVec.eq_of_toNat_eq
  have hn : n < 2 ^ 32 := Nat.lt_of_le_of_lt (Nat.le_mul_of_pos_right n (Nat.two_pow_pos k)) h
  rw [pk_shl _ _ k hs, pk_tn hn, pk_tn h, Nat.mod_eq_of_lt h]
theorem pk_shr (a s : Int32) (k : Nat) (hs : (s.toBitVec.smod 32).toNat = k) : (a >>> s).toInt = a.toInt >>> k := by
  show (a.toBitVec.sshiftRight (s.toBitVec.smod 32).toNat).toInt = _
  rw [hs, BitVec.toInt_sshiftRight]
  rfl
theorem pk_shrN {n : Nat} (h : n < 2 ^ 31) (s : Int32) (k : Nat) (hs : (s.toBitVec.smod 32).toNat = k) : nI n >>> s = nI (n / 2 ^ k) := by
  apply Int32.toInt_inj.mp
  have h2 : n / 2 ^ k ≤ n := Nat.div_le_self _ _
  rw [pk_shr _ _ k hs, nI_toInt h, nI_toInt (by omega), Int.shiftRight_eq_div_pow]
  rfl
theorem pk_loop {σ : Type} (W : Nat → Nat → σ → Prop) (I : Nat → σ → Prop) (e i0 : Nat) (s : σ) (hi : i0 ≤ e) (h0 : I i0 s) (hx : ∀ n s, I e s → W (n + 1) e s)
    (hs : ∀ n i s, i < e → I i s → (∀ s', I (i + 1) s' → W n (i + 1) s') → W (n + 1) i s) : ∃ n, W n i0 s :=
  ⟨e + 1, loop_i W I e hx hs (e + 1) i0 s hi (by omega) h0⟩
theorem pk_loopD {σ : Type} (W : Nat → Nat → σ → Prop) (I : Nat → σ → Prop) (hx : ∀ n s, I 0 s → W (n + 1) 0 s)
    (hs : ∀ n i s, I (i + 1) s → (∀ s', I i s' → W n i s') → W (n + 1) (i + 1) s) : ∀ (e : Nat) (s : σ), I e s → W (e + 1) e s := by
  intro e
  induction e with
  | zero => exact fun s h => hx 0 s h
  | succ e ih => exact fun s h => hs (e + 1) e s h (fun s' h' => ih s' h')
theorem lp1 {A1 : Type} (W : Nat → A1 → Prop) (I : A1 → Prop) (μ : A1 → Nat) (hs : ∀ (n : Nat) (a1 : A1), I a1 → (∀ (b1 : A1), I b1 → μ b1 < μ a1 → W n b1) → W (n + 1) a1) (a1 : A1) (h : I a1) : ∃ n, W n a1 :=
  loop_m (σ := A1) (fun n s => W n s) (fun s => I s) (fun s => μ s) (fun n s hI hk => hs n s hI (fun b1 h9 hm => hk b1 h9 hm)) a1 h
theorem lp2 {A1 A2 : Type} (W : Nat → A1 → A2 → Prop) (I : A1 → A2 → Prop) (μ : A1 → A2 → Nat) (hs : ∀ (n : Nat) (a1 : A1) (a2 : A2), I a1 a2 → (∀ (b1 : A1) (b2 : A2), I b1 b2 → μ b1 b2 < μ a1 a2 → W n b1 b2) → W (n + 1) a1 a2) (a1 : A1) (a2 : A2) (h : I a1 a2) : ∃ n, W n a1 a2 :=
  loop_m (σ := A1 × A2) (fun n s => W n s.1 s.2) (fun s => I s.1 s.2) (fun s => μ s.1 s.2) (fun n s hI hk => hs n s.1 s.2 hI (fun b1 b2 h9 hm => hk (b1, b2) h9 hm)) (a1, a2) h
theorem lp3 {A1 A2 A3 : Type} (W : Nat → A1 → A2 → A3 → Prop) (I : A1 → A2 → A3 → Prop) (μ : A1 → A2 → A3 → Nat) (hs : ∀ (n : Nat) (a1 : A1) (a2 : A2) (a3 : A3), I a1 a2 a3 → (∀ (b1 : A1) (b2 : A2) (b3 : A3), I b1 b2 b3 → μ b1 b2 b3 < μ a1 a2 a3 → W n b1 b2 b3) → W (n + 1) a1 a2 a3) (a1 : A1) (a2 : A2) (a3 : A3) (h : I a1 a2 a3) : ∃ n, W n a1 a2 a3 :=
  loop_m (σ := A1 × A2 × A3) (fun n s => W n s.1 s.2.1 s.2.2) (fun s => I s.1 s.2.1 s.2.2) (fun s => μ s.1 s.2.1 s.2.2) (fun n s hI hk => hs n s.1 s.2.1 s.2.2 hI (fun b1 b2 b3 h9 hm => hk (b1, b2, b3) h9 hm)) (a1, a2, a3) h
theorem lp4 {A1 A2 A3 A4 : Type} (W : Nat → A1 → A2 → A3 → A4 → Prop) (I : A1 → A2 → A3 → A4 → Prop) (μ : A1 → A2 → A3 → A4 → Nat) (hs : ∀ (n : Nat) (a1 : A1) (a2 : A2) (a3 : A3) (a4 : A4), I a1 a2 a3 a4 → (∀ (b1 : A1) (b2 : A2) (b3 : A3) (b4 : A4), I b1 b2 b3 b4 → μ b1 b2 b3 b4 < μ a1 a2 a3 a4 → W n b1 b2 b3 b4) → W (n + 1) a1 a2 a3 a4) (a1 : A1) (a2 : A2) (a3 : A3) (a4 : A4) (h : I a1 a2 a3 a4) : ∃ n, W n a1 a2 a3 a4 :=
  loop_m (σ := A1 × A2 × A3 × A4) (fun n s => W n s.1 s.2.1 s.2.2.1 s.2.2.2) (fun s => I s.1 s.2.1 s.2.2.1 s.2.2.2) (fun s => μ s.1 s.2.1 s.2.2.1 s.2.2.2) (fun n s hI hk => hs n s.1 s.2.1 s.2.2.1 s.2.2.2 hI (fun b1 b2 b3 b4 h9 hm => hk (b1, b2, b3, b4) h9 hm)) (a1, a2, a3, a4) h
theorem pk_least (P : Nat → Prop) (h : ∃ k, P k) : ∃ k, P k ∧ ∀ j, j < k → ¬ P j := by
  obtain ⟨k, hk⟩ := h
  induction k using Nat.strongRecOn with
  | ind k ih =>
    by_cases e : ∃ j, j < k ∧ P j
    · obtain ⟨j, hj, pj⟩ := e
      exact ih j hj pj
    · exact ⟨k, hk, fun j hj pj => e ⟨j, hj, pj⟩⟩
theorem pk_mu {x : Int32} {L : Nat} (h0 : ¬ x < 0) (h : ¬ nI L ≤ x) (hL : L < 2 ^ 31) : ∃ j : Nat, j < L ∧ x = nI j ∧ x + 1 = nI (j + 1) ∧ x.toNatClampNeg = j ∧ L - (x + 1).toNatClampNeg < L - x.toNatClampNeg := by
  obtain ⟨j, hj, rfl⟩ := nI_of h0
  have hl : j < L := Nat.not_le.mp fun q => h (nI_le q hj)
  refine ⟨j, hl, rfl, nI_1 j, nI_clamp hj, ?_⟩
  rw [nI_1, nI_clamp (by omega), nI_clamp hj]
  omega
def bt (x : Int32) (i : Nat) : Bool := x.toBitVec.getLsbD i
theorem b_ext {x y : Int32} (h : ∀ i, i < 32 → bt x i = bt y i) : x = y := Int32.toBitVec_inj.mp (BitVec.eq_of_getLsbD_eq (fun i hi => h i hi))
theorem b_or (x y : Int32) (i : Nat) : bt (x ||| y) i = (bt x i || bt y i) := by unfold bt; rw [Int32.toBitVec_or, BitVec.getLsbD_or]
theorem b_and (x y : Int32) (i : Nat) : bt (x &&& y) i = (bt x i && bt y i) := by unfold bt; rw [Int32.toBitVec_and, BitVec.getLsbD_and]
theorem b_xor (x y : Int32) (i : Nat) : bt (x ^^^ y) i = (bt x i ^^ bt y i) := by unfold bt; rw [Int32.toBitVec_xor, BitVec.getLsbD_xor]
theorem b_big {x : Int32} {i : Nat} (h : 32 ≤ i) : bt x i = false := BitVec.getLsbD_of_ge _ _ h
theorem b_255 (i : Nat) : bt 255 i = decide (i < 8) := by
  rcases Nat.lt_or_ge i 32 with h | h
  · exact (by decide +kernel : ∀ i, i < 32 → bt 255 i = decide (i < 8)) i h
  · rw [b_big h, decide_eq_false (by omega)]
theorem b_65535 (i : Nat) : bt 65535 i = decide (i < 16) := by
  rcases Nat.lt_or_ge i 32 with h | h
  · exact (by decide +kernel : ∀ i, i < 32 → bt 65535 i = decide (i < 16)) i h
  · rw [b_big h, decide_eq_false (by omega)]
theorem b_m1 : ∀ i, i < 32 → bt (-1) i = true := by decide +kernel
theorem b_0 (i : Nat) : bt 0 i = false := BitVec.getLsbD_zero
theorem s_l : ∀ n, n < 32 → ((nI n &&& 31).toBitVec.smod 32).toNat = n := by decide +kernel
theorem s_u : ∀ n, n < 32 → (((nI n).toUInt32 &&& Int32.toUInt32 31).toBitVec % 32).toNat = n := by decide +kernel
theorem b_shl (n : Nat) (hn : n < 32) (x : Int32) {i : Nat} (hi : i < 32) : bt (x <<< (nI n &&& 31)) i = (decide (n ≤ i) && bt x (i - n)) := by
  unfold bt
  rw [Int32.toBitVec_shiftLeft]
  show (x.toBitVec <<< ((nI n &&& 31).toBitVec.smod 32).toNat).getLsbD i = _
  rw [s_l n hn, BitVec.getLsbD_shiftLeft]
  rcases Nat.lt_or_ge i n with h | h
  · simp [h, Nat.not_le.mpr h]
  · simp [hi, h, Nat.not_lt.mpr h]
theorem b_ushr (n : Nat) (hn : n < 32) (x : Int32) (i : Nat) : bt ((x.toUInt32 >>> ((nI n).toUInt32 &&& Int32.toUInt32 31)).toInt32) i = bt x (n + i) := by
  show (x.toUInt32 >>> ((nI n).toUInt32 &&& Int32.toUInt32 31)).toBitVec.getLsbD i = x.toUInt32.toBitVec.getLsbD (n + i)
  rw [UInt32.toBitVec_shiftRight]
  show (x.toUInt32.toBitVec >>> (((nI n).toUInt32 &&& Int32.toUInt32 31).toBitVec % 32).toNat).getLsbD i = _
  rw [s_u n hn, BitVec.getLsbD_ushiftRight]
theorem b_sshr (n : Nat) (hn : n < 32) (x : Int32) {i : Nat} (hi : i < 32) : bt (x >>> (nI n &&& 31)) i = if n + i < 32 then bt x (n + i) else bt x 31 := by
  unfold bt
  rw [Int32.toBitVec_shiftRight]
  show (x.toBitVec.sshiftRight ((nI n &&& 31).toBitVec.smod 32).toNat).getLsbD i = _
  rw [s_l n hn, BitVec.getLsbD_sshiftRight, BitVec.msb_eq_getLsbD_last]
  simp [hi]
theorem b_shl8 (x : Int32) {i : Nat} (hi : i < 32) : bt (x <<< ((8 : Int32) &&& 31)) i = (decide (8 ≤ i) && bt x (i - 8)) := b_shl 8 (by omega) x hi
theorem b_shl16 (x : Int32) {i : Nat} (hi : i < 32) : bt (x <<< ((16 : Int32) &&& 31)) i = (decide (16 ≤ i) && bt x (i - 16)) := b_shl 16 (by omega) x hi
theorem b_shl24 (x : Int32) {i : Nat} (hi : i < 32) : bt (x <<< ((24 : Int32) &&& 31)) i = (decide (24 ≤ i) && bt x (i - 24)) := b_shl 24 (by omega) x hi
theorem b_sshr8 (x : Int32) {i : Nat} (hi : i < 32) : bt (x >>> ((8 : Int32) &&& 31)) i = if 8 + i < 32 then bt x (8 + i) else bt x 31 := b_sshr 8 (by omega) x hi
end
section
/-! the relation: both sides hold the same descriptions, texts and result; the rows for the page too; other scratch fields are free -/
def sc_Chr (f : Nat → Int32) : Prop := ∀ i, vp_in (f i) 48
def sc_Opt (f : Nat → Int32) : Prop := ∀ i, f i = -1 ∨ vp_in (f i) 48
def sc_Pot (dt df ds : Nat → Int32) (L : Nat → Nat) : Prop :=
  (∀ i, 1 ≤ L i ∧ L i ≤ 4) ∧ ∀ i, i < 48 → ¬ dt i = 0 → L (df i).toNatClampNeg + (if ds i = -1 then 0 else L (ds i).toNatClampNeg) ≤ L i
def sc_Dec (dt df ds : Nat → Int32) : Prop :=
  (∀ i, dt i = 0 ∨ dt i = 1 ∨ dt i = 2) ∧
  (∀ i, i < 48 → ¬ dt i = 0 → (∃ j, j < i ∧ df i = nI j) ∧ (ds i = -1 ∨ ∃ j, j < i ∧ ds i = nI j)) ∧
  ∃ L : Nat → Nat, sc_Pot dt df ds L
def sc_Inv (cc rl : Int32) (cl dt df ds pb lo uf us fi ef es eb di cm tx le rr we wt : Nat → Int32) : Prop :=
  (∃ m : Nat, m ≤ 6 ∧ cc = nI m) ∧ (∃ r : Nat, r ≤ 64 ∧ rl = nI r) ∧ (∀ t, t < 2 → ∃ n : Nat, n ≤ 16 ∧ le t = nI n) ∧
  sc_Chr tx ∧ sc_Chr rr ∧ sc_Chr lo ∧ sc_Chr uf ∧ sc_Opt us ∧ sc_Opt fi ∧ (∀ i, vp_in (cl i) 10) ∧ (∀ i, vp_in (di i) 7) ∧ sc_Chr cm ∧
  sc_Opt ef ∧ (∀ i, i < 48 → ¬ ef i = -1 → vp_in (es i) 48 ∧ eb i = es i) ∧ (∀ i, i < 48 → ¬ dt i = 0 → pb i = ds i) ∧ sc_Dec dt df ds ∧
  (∀ c l, c < 48 → l < 3 → we (48 * l + c) = wt (3 * c + l))
def i_Rel (k : Nat) (u : SX) (v : SY) : Prop :=
  ∃ (cc rl wl yn : Int32) (cl dt df ds ex lo uf us fi ki ef es di we cf cs cm tx le rr wk sh fo fl el ec ke kl em oe be pl po : Nat → Int32) (pb wt eb lg ro fm fL ee en : Nat → Int32),
    u = (cc, rl, wl, cl, dt, df, ds, ex, lo, uf, us, fi, ki, ef, es, di, we, cf, cs, cm, tx, le, rr, wk, sh, fo, fl, el, ec, ke, kl, em, oe, be, pl, po) ∧ v = (cc, rl, yn, cl, dt, df, pb, lo, uf, us, fi, ki, wt, ef, eb, di, ex, cf, cs, cm, lg, tx, le, rr, ro, fm, fL, ee, en, em, pl, be, po, oe) ∧ sc_Inv cc rl cl dt df ds pb lo uf us fi ef es eb di cm tx le rr we wt
theorem i_up {k : Nat} {u : SX} {v : SY} (h : i_Rel k u v) : i_Rel (k + 5) u v := h
theorem sc_mk {cc rl wl yn : Int32} {cl dt df ds ex lo uf us fi ki ef es di we cf cs cm tx le rr wk sh fo fl el ec ke kl em oe be pl po pb wt eb lg ro fm fL ee en : Nat → Int32} {k : Nat} (h : sc_Inv cc rl cl dt df ds pb lo uf us fi ef es eb di cm tx le rr we wt) : i_Rel k (cc, rl, wl, cl, dt, df, ds, ex, lo, uf, us, fi, ki, ef, es, di, we, cf, cs, cm, tx, le, rr, wk, sh, fo, fl, el, ec, ke, kl, em, oe, be, pl, po) (cc, rl, yn, cl, dt, df, pb, lo, uf, us, fi, ki, wt, ef, eb, di, ex, cf, cs, cm, lg, tx, le, rr, ro, fm, fL, ee, en, em, pl, be, po, oe) :=
  ⟨cc, rl, wl, yn, cl, dt, df, ds, ex, lo, uf, us, fi, ki, ef, es, di, we, cf, cs, cm, tx, le, rr, wk, sh, fo, fl, el, ec, ke, kl, em, oe, be, pl, po, pb, wt, eb, lg, ro, fm, fL, ee, en, rfl, rfl, h⟩
/-! small numbers -/
theorem sn_16 (t k : Nat) : 16 * nI t + nI k = nI (16 * t + k) := by
  rw [show (16 : Int32) = nI 16 from rfl, pk_mul, nI_add]
theorem sn_t16 (t : Nat) : nI t * 16 = nI (16 * t) := by
  rw [show (16 : Int32) = nI 16 from rfl, pk_mul, Nat.mul_comm]
theorem sn_text (t : Int32) : (∃ j, j < 2 ∧ t = nI j) ∨ (¬ t = 0 ∧ ¬ t = 1 ∧ (t < 0 ∨ ¬ t < 0 ∧ 2 ≤ t)) := by
  by_cases h : t < 0
  · exact Or.inr ⟨fun e => by subst e; exact absurd h (by decide), fun e => by subst e; exact absurd h (by decide), Or.inl h⟩
  · obtain ⟨j, hj, rfl⟩ := nI_of h
    by_cases h2 : j < 2
    · exact Or.inl ⟨j, h2, rfl⟩
    · refine Or.inr ⟨fun e => ?_, fun e => ?_, Or.inr ⟨h, nI_le (a := 2) (by omega) hj⟩⟩
      · have := (nI_eq (b := 0) hj (by decide)).mp e; omega
      · have := (nI_eq (b := 1) hj (by decide)).mp e; omega
theorem sn_char (t : Int32) : (∃ j, j < 48 ∧ t = nI j) ∨ (t < 0 ∨ ¬ t < 0 ∧ 48 ≤ t) := by
  by_cases h : t < 0
  · exact Or.inr (Or.inl h)
  · obtain ⟨j, hj, rfl⟩ := nI_of h
    by_cases h2 : j < 48
    · exact Or.inl ⟨j, h2, rfl⟩
    · exact Or.inr (Or.inr ⟨h, nI_le (a := 48) (by omega) hj⟩)
theorem sn_pos {n : Nat} {x : Int32} (h : vp_in x n) : ¬ x < 0 := fun z => h (Or.inl z)
theorem sn_cl {n : Nat} {x : Int32} (h : vp_in x n) : x.toNatClampNeg < n := Nat.lt_of_not_le (fun z => h (Or.inr z))
theorem sn_val {n : Nat} {x : Int32} (h : vp_in x n) (hn : n < 2 ^ 31) : x = nI x.toNatClampNeg := by
  obtain ⟨j, hj, rfl⟩ := vp_in_of h hn
  rw [nI_clamp (by omega)]
section
variable {cc rl wl : Int32} {cl dt df ds ex lo uf us fi ki ef es di we cf cs cm tx le rr wk sh fo fl el ec ke kl em oe be pl po : Nat → Int32}
theorem xs_text1 {post : Int32 → Prop} {t : Nat} (ht : t < 2) (h : post 1) : wpX_isText post (cc, rl, wl, cl, dt, df, ds, ex, lo, uf, us, fi, ki, ef, es, di, we, cf, cs, cm, tx, le, rr, wk, sh, fo, fl, el, ec, ke, kl, em, oe, be, pl, po) (nI t) :=
  br_f (nI_pos (by omega)) (br_f (nI_ge (b := 2) ht (by decide)) h)
theorem xs_text0 {post : Int32 → Prop} {t : Int32} (ht : t < 0 ∨ ¬ t < 0 ∧ 2 ≤ t) (h : post 0) : wpX_isText post (cc, rl, wl, cl, dt, df, ds, ex, lo, uf, us, fi, ki, ef, es, di, we, cf, cs, cm, tx, le, rr, wk, sh, fo, fl, el, ec, ke, kl, em, oe, be, pl, po) t :=
  ht.elim (fun z => br_t z h) (fun z => br_f z.1 (br_t z.2 h))
theorem xs_char1 {post : Int32 → Prop} {t : Nat} (ht : t < 48) (h : post 1) : wpX_isCharacter post (cc, rl, wl, cl, dt, df, ds, ex, lo, uf, us, fi, ki, ef, es, di, we, cf, cs, cm, tx, le, rr, wk, sh, fo, fl, el, ec, ke, kl, em, oe, be, pl, po) (nI t) :=
  br_f (nI_pos (by omega)) (br_f (nI_ge (b := 48) ht (by decide)) h)
theorem xs_char0 {post : Int32 → Prop} {t : Int32} (ht : t < 0 ∨ ¬ t < 0 ∧ 48 ≤ t) (h : post 0) : wpX_isCharacter post (cc, rl, wl, cl, dt, df, ds, ex, lo, uf, us, fi, ki, ef, es, di, we, cf, cs, cm, tx, le, rr, wk, sh, fo, fl, el, ec, ke, kl, em, oe, be, pl, po) t :=
  ht.elim (fun z => br_t z h) (fun z => br_f z.1 (br_t z.2 h))
end
theorem ys_text1 {post : Int32 → Prop} {t : Nat} (ht : t < 2) (h : post 1) : wpY_isText post (nI t) := by
  rcases Nat.lt_or_ge t 1 with z | z
  · obtain rfl : t = 0 := by omega
    exact br_t rfl h
  · obtain rfl : t = 1 := by omega
    exact br_f (by decide) (br_t rfl h)
theorem ys_text0 {post : Int32 → Prop} {t : Int32} (h0 : ¬ t = 0) (h1 : ¬ t = 1) (h : post 0) : wpY_isText post t := br_f h0 (br_f h1 h)
theorem ys_in1 {post : Int32 → Prop} {a b c : Int32} (h1 : ¬ a < b) (h2 : ¬ c < a) (h : post 1) : wpY_in post a b c := br_f h1 (br_f h2 h)
theorem ys_char1 {post : Int32 → Prop} {t : Nat} (ht : t < 48) (h : post 1) : wpY_isChar post (nI t) :=
  ys_in1 (post := fun r_1 => narrow .boolean (.int r_1) = .int r_1 ∧ post r_1) (nI_pos (by omega)) (nI_nlt (a := 47) (by omega) (by decide)) ⟨rfl, h⟩
theorem ys_char0 {post : Int32 → Prop} {t : Int32} (ht : t < 0 ∨ ¬ t < 0 ∧ 48 ≤ t) (h : post 0) : wpY_isChar post t := by
  have e : 48 ≤ t → 47 < t := fun z => by
    rw [Int32.lt_iff_toInt_lt]; rw [Int32.le_iff_toInt_le] at z
    have h1 : (48 : Int32).toInt = 48 := by decide
    have h2 : (47 : Int32).toInt = 47 := by decide
    omega
  exact ht.elim (fun z => br_t z ⟨rfl, h⟩) (fun z => br_f z.1 (br_t (e z.2) ⟨rfl, h⟩))
end
section
/-! result, take, insert, erase: the same stores in the same order -/
def sc_cp (f : Nat → Int32) (o : Nat) : Nat → Nat → (Nat → Int32) → Nat → Int32
  | 0, _, a => a
  | d + 1, i, a => sc_cp f o d (i + 1) (upd a (o + i) (f i))
def sc_up (o : Nat) : Nat → Nat → (Nat → Int32) → Nat → Int32
  | 0, _, a => a
  | d + 1, k, a => sc_up o d k (upd a (o + k + d + 1) (a (o + k + d)))
def sc_dn (o : Nat) : Nat → Nat → (Nat → Int32) → Nat → Int32
  | 0, _, a => a
  | d + 1, i, a => sc_dn o d (i + 1) (upd a (o + i) (a (o + i + 1)))
theorem sc_updC {N : Nat} {a : Nat → Int32} (h : ∀ i, vp_in (a i) N) (k : Nat) {x : Int32} (hx : vp_in x N) : ∀ i, vp_in (upd a k x i) N := by
  intro i
  unfold upd
  by_cases e : i = k
  · rw [if_pos e]; exact hx
  · rw [if_neg e]; exact h i
theorem sc_cpC {f : Nat → Int32} (hf : sc_Chr f) (o : Nat) : ∀ d i a, sc_Chr a → sc_Chr (sc_cp f o d i a) := by
  intro d
  induction d with
  | zero => exact fun i a h => h
  | succ d ih => exact fun i a h => ih (i + 1) _ (sc_updC h _ (hf i))
theorem sc_upC (o : Nat) : ∀ d k a, sc_Chr a → sc_Chr (sc_up o d k a) := by
  intro d
  induction d with
  | zero => exact fun i a h => h
  | succ d ih => exact fun k a h => ih k _ (sc_updC h _ (h _))
theorem sc_dnC (o : Nat) : ∀ d i a, sc_Chr a → sc_Chr (sc_dn o d i a) := by
  intro d
  induction d with
  | zero => exact fun i a h => h
  | succ d ih => exact fun i a h => ih (i + 1) _ (sc_updC h _ (h _))
theorem sc_leU {le : Nat → Int32} (h : ∀ t, t < 2 → ∃ n : Nat, n ≤ 16 ∧ le t = nI n) {s m : Nat} (hm : m ≤ 16) : ∀ t, t < 2 → ∃ n : Nat, n ≤ 16 ∧ upd le s (nI m) t = nI n := by
  intro t ht
  by_cases e : t = s
  · exact ⟨m, hm, if_pos e⟩
  · obtain ⟨n, h1, h2⟩ := h t ht
    exact ⟨n, h1, (if_neg e).trans h2⟩
section
variable {cc rl wl : Int32} {cl dt df ds ex lo uf us fi ki ef es di we cf cs cm tx le rr wk sh fo fl el ec ke kl em oe be pl po : Nat → Int32}
theorem x_take_l {post : Int32 → SX → Prop} {t r : Nat} (ht : t < 2) (hr : r ≤ 16) : ∀ (d i : Nat) (tx : Nat → Int32), i + d = r →
    post 1 (cc, nI r, wl, cl, dt, df, ds, ex, lo, uf, us, fi, ki, ef, es, di, we, cf, cs, cm, sc_cp rr (16 * t) d i tx, upd le t (nI r), rr, wk, sh, fo, fl, el, ec, ke, kl, em, oe, be, pl, po) → wX_take_26 post (nI t) (nI (16 * t)) cc (nI r) wl (d + 1) (nI i) cl dt df ds ex lo uf us fi ki ef es di we cf cs cm tx le rr wk sh fo fl el ec ke kl em oe be pl po := by
  intro d
  induction d with
  | zero => exact fun i tx hi h => br_t (nI_le (by omega) (by omega)) ⟨vp_in_nI ht (by decide), nm_r (by rw [nI_clamp (by omega)]) h⟩
  | succ d ih => exact fun i tx hi h => br_f (nI_ge (by omega) (by omega)) ⟨vp_in_nI (by omega) (by decide), pk_in (16 * t + i) 32 (by omega) (nI_add _ _),
      nm_r (by rw [nI_add, nI_clamp (by omega), nI_clamp (by omega)]) (nm_r (nI_1 i) (ih (i + 1) _ (by omega) h))⟩
theorem x_take1 {post : Int32 → SX → Prop} {t r : Nat} (ht : t < 2) (hr : r ≤ 16) (h : post 1 (cc, nI r, wl, cl, dt, df, ds, ex, lo, uf, us, fi, ki, ef, es, di, we, cf, cs, cm, sc_cp rr (16 * t) r 0 tx, upd le t (nI r), rr, wk, sh, fo, fl, el, ec, ke, kl, em, oe, be, pl, po)) : wpX_take post (cc, nI r, wl, cl, dt, df, ds, ex, lo, uf, us, fi, ki, ef, es, di, we, cf, cs, cm, tx, le, rr, wk, sh, fo, fl, el, ec, ke, kl, em, oe, be, pl, po) (nI t) := by
  unfold wpX_take
  refine xs_text1 ht (br_f (by decide) (br_t (nI_le (b := 16) hr (by decide)) (nm_r (sn_t16 t) ⟨r + 1, ?_⟩)))
  exact x_take_l ht hr r 0 tx (by omega) h
theorem x_take0 {post : Int32 → SX → Prop} {t r : Nat} (ht : t < 2) (hr : 16 < r) (hr2 : r ≤ 64) (h : post 0 (cc, nI r, wl, cl, dt, df, ds, ex, lo, uf, us, fi, ki, ef, es, di, we, cf, cs, cm, tx, le, rr, wk, sh, fo, fl, el, ec, ke, kl, em, oe, be, pl, po)) : wpX_take post (cc, nI r, wl, cl, dt, df, ds, ex, lo, uf, us, fi, ki, ef, es, di, we, cf, cs, cm, tx, le, rr, wk, sh, fo, fl, el, ec, ke, kl, em, oe, be, pl, po) (nI t) := by
  unfold wpX_take
  exact xs_text1 ht (br_f (by decide) (br_f (nI_ge (a := 16) hr (by omega)) h))
theorem x_take2 {post : Int32 → SX → Prop} {t : Int32} (ht : t < 0 ∨ ¬ t < 0 ∧ 2 ≤ t) (h : post 0 (cc, rl, wl, cl, dt, df, ds, ex, lo, uf, us, fi, ki, ef, es, di, we, cf, cs, cm, tx, le, rr, wk, sh, fo, fl, el, ec, ke, kl, em, oe, be, pl, po)) : wpX_take post (cc, rl, wl, cl, dt, df, ds, ex, lo, uf, us, fi, ki, ef, es, di, we, cf, cs, cm, tx, le, rr, wk, sh, fo, fl, el, ec, ke, kl, em, oe, be, pl, po) t := by
  unfold wpX_take
  exact xs_text0 ht (br_t rfl h)
end
section
variable {cc rl yn : Int32} {cl dt df pb lo uf us fi ki wt ef eb di ex cf cs cm lg tx le rr ro fm fL ee en ye lv se pg ou : Nat → Int32}
theorem y_take_l {post : Int32 → SY → Prop} {t r : Nat} (ht : t < 2) (hr : r ≤ 16) : ∀ (d i : Nat) (tx : Nat → Int32), i + d = r →
    post 1 (cc, nI r, yn, cl, dt, df, pb, lo, uf, us, fi, ki, wt, ef, eb, di, ex, cf, cs, cm, lg, sc_cp rr (16 * t) d i tx, le, rr, ro, fm, fL, ee, en, ye, lv, se, pg, ou) → wY_take_30 post (nI t) cc (nI r) yn (d + 1) (nI i) cl dt df pb lo uf us fi ki wt ef eb di ex cf cs cm lg tx le rr ro fm fL ee en ye lv se pg ou := by
  intro d
  induction d with
  | zero => exact fun i tx hi h => br_t (nI_le (by omega) (by omega)) h
  | succ d ih => exact fun i tx hi h => br_f (nI_ge (by omega) (by omega)) ⟨vp_in_nI (by omega) (by decide), pk_in (16 * t + i) 32 (by omega) (sn_16 _ _),
      nm_r (by rw [sn_16, nI_clamp (by omega), nI_clamp (by omega)]) (nm_r (nI_1 i) (ih (i + 1) _ (by omega) h))⟩
theorem y_take1 {post : Int32 → SY → Prop} {t r : Nat} (ht : t < 2) (hr : r ≤ 16) (h : post 1 (cc, nI r, yn, cl, dt, df, pb, lo, uf, us, fi, ki, wt, ef, eb, di, ex, cf, cs, cm, lg, sc_cp rr (16 * t) r 0 tx, upd le t (nI r), rr, ro, fm, fL, ee, en, ye, lv, se, pg, ou)) : wpY_take post (cc, nI r, yn, cl, dt, df, pb, lo, uf, us, fi, ki, wt, ef, eb, di, ex, cf, cs, cm, lg, tx, le, rr, ro, fm, fL, ee, en, ye, lv, se, pg, ou) (nI t) := by
  unfold wpY_take
  refine ys_text1 ht (br_f (by decide) (br_t (nI_le (b := 16) hr (by decide)) ⟨vp_in_nI ht (by decide), nm_r (by rw [nI_clamp (by omega)]) ⟨r + 1, ?_⟩⟩))
  exact y_take_l ht hr r 0 tx (by omega) h
theorem y_take0 {post : Int32 → SY → Prop} {t r : Nat} (ht : t < 2) (hr : 16 < r) (hr2 : r ≤ 64) (h : post 0 (cc, nI r, yn, cl, dt, df, pb, lo, uf, us, fi, ki, wt, ef, eb, di, ex, cf, cs, cm, lg, tx, le, rr, ro, fm, fL, ee, en, ye, lv, se, pg, ou)) : wpY_take post (cc, nI r, yn, cl, dt, df, pb, lo, uf, us, fi, ki, wt, ef, eb, di, ex, cf, cs, cm, lg, tx, le, rr, ro, fm, fL, ee, en, ye, lv, se, pg, ou) (nI t) := by
  unfold wpY_take
  exact ys_text1 ht (br_f (by decide) (br_f (nI_ge (a := 16) hr (by omega)) h))
theorem y_take2 {post : Int32 → SY → Prop} {t : Int32} (h0 : ¬ t = 0) (h1 : ¬ t = 1) (h : post 0 (cc, rl, yn, cl, dt, df, pb, lo, uf, us, fi, ki, wt, ef, eb, di, ex, cf, cs, cm, lg, tx, le, rr, ro, fm, fL, ee, en, ye, lv, se, pg, ou)) : wpY_take post (cc, rl, yn, cl, dt, df, pb, lo, uf, us, fi, ki, wt, ef, eb, di, ex, cf, cs, cm, lg, tx, le, rr, ro, fm, fL, ee, en, ye, lv, se, pg, ou) t := by
  unfold wpY_take
  exact ys_text0 h0 h1 (br_t rfl h)
end
theorem i_vc_take {k : Nat} {u : SX} {v : SY} (I : i_Rel k u v) (hk : k + 5 ≤ 2560) (v1 : Int32) : wpX_take (fun r u' => wpY_take (fun r' v' => r' = r ∧ i_Rel (k + 5) u' v') v v1) u v1 := by
  obtain ⟨cc, rl, wl, yn, cl, dt, df, ds, ex, lo, uf, us, fi, ki, ef, es, di, we, cf, cs, cm, tx, le, rr, wk, sh, fo, fl, el, ec, ke, kl, em, oe, be, pl, po, pb, wt, eb, lg, ro, fm, fL, ee, en, rfl, rfl, I⟩ := I
  rcases sn_text v1 with ⟨t, ht, rfl⟩ | ⟨h0, h1, h2⟩
  · have I0 := I
    obtain ⟨i1, ⟨r, hr, rfl⟩, i3, i4, i5, ir⟩ := I
    by_cases h16 : r ≤ 16
    · exact x_take1 ht h16 (y_take1 ht h16 ⟨rfl, sc_mk ⟨i1, ⟨r, hr, rfl⟩, sc_leU i3 h16, sc_cpC i5 _ _ _ _ i4, i5, ir⟩⟩)
    · exact x_take0 ht (by omega) hr (y_take0 ht (by omega) hr ⟨rfl, sc_mk I0⟩)
  · exact x_take2 h2 (y_take2 h0 h1 ⟨rfl, sc_mk I⟩)
theorem i_vc_result {k : Nat} {u : SX} {v : SY} (I : i_Rel k u v) (hk : k + 5 ≤ 2560) (v1 : Int32) : wpX_result (fun r => wpY_result (fun r' => r' = r ∧ i_Rel (k + 5) u v) v v1) u v1 := by
  obtain ⟨cc, rl, wl, yn, cl, dt, df, ds, ex, lo, uf, us, fi, ki, ef, es, di, we, cf, cs, cm, tx, le, rr, wk, sh, fo, fl, el, ec, ke, kl, em, oe, be, pl, po, pb, wt, eb, lg, ro, fm, fL, ee, en, rfl, rfl, I⟩ := I
  have I0 := I
  obtain ⟨i1, ⟨r, hr, rfl⟩, -⟩ := I
  by_cases h : v1 < 0
  · exact br_t h (br_t h ⟨rfl, sc_mk I0⟩)
  · obtain ⟨j, hj, rfl⟩ := nI_of h
    by_cases h2 : j < r
    · exact br_f h (br_f (nI_ge h2 (by omega)) ⟨vp_in_nI (by omega) (by decide), br_f h (br_t (nI_lt h2 (by omega)) ⟨vp_in_nI (by omega) (by decide), rfl, sc_mk I0⟩)⟩)
    · exact br_f h (br_t (nI_le (by omega) (by omega)) (br_f h (br_f (nI_nlt (by omega) (by omega)) ⟨rfl, sc_mk I0⟩)))
end
section
/-! insert and erase -/
section
variable {cc rl wl : Int32} {cl dt df ds ex lo uf us fi ki ef es di we cf cs cm tx le rr wk sh fo fl el ec ke kl em oe be pl po : Nat → Int32}
theorem x_ins_l {post : Int32 → SX → Prop} {t n p : Nat} {c : Int32} (ht : t < 2) (hn : n < 16) (hp : p ≤ n) : ∀ (d : Nat) (tx : Nat → Int32), p + d ≤ n →
    post 1 (cc, rl, wl, cl, dt, df, ds, ex, lo, uf, us, fi, ki, ef, es, di, we, cf, cs, cm, upd (sc_up (16 * t) d p tx) (16 * t + p) c, upd le t (nI (n + 1)), rr, wk, sh, fo, fl, el, ec, ke, kl, em, oe, be, pl, po) →
    wX_insert_55 post (nI t) (nI p) c (nI n) (nI (16 * t)) cc rl wl (d + 1) (nI (p + d)) cl dt df ds ex lo uf us fi ki ef es di we cf cs cm tx le rr wk sh fo fl el ec ke kl em oe be pl po := by
  intro d
  induction d with
  | zero => exact fun tx hi h => br_t (nI_le (by omega) (by omega)) ⟨pk_in (16 * t + p) 32 (by omega) (nI_add _ _), nm_r (e' := upd tx (16 * t + p) c) (by rw [nI_add, nI_clamp (by omega)]) ⟨vp_in_nI ht (by decide), nm_r (by rw [nI_clamp (by omega), nI_1]) h⟩⟩
  | succ d ih => exact fun tx hi h => br_f (nI_ge (by omega) (by omega)) ⟨pk_in (16 * t + p + d) 32 (by omega) (by rw [nI_add, show 16 * t + (p + (d + 1)) = 16 * t + p + d + 1 by omega]; exact nI_pred _), pk_in (16 * t + p + d + 1) 32 (by omega) (by rw [nI_add]; exact congrArg nI (by omega)),
      nm_r (by rw [nI_add, show 16 * t + (p + (d + 1)) = 16 * t + p + d + 1 by omega, nI_pred, nI_clamp (by omega), nI_clamp (by omega)]) (nm_r (pk_m1 _) (ih _ (by omega) h))⟩
theorem x_ins1 {post : Int32 → SX → Prop} {t n p c : Nat} (ht : t < 2) (hn : n < 16) (hp : p ≤ n) (hc : c < 48) (hl : le t = nI n)
    (h : post 1 (cc, rl, wl, cl, dt, df, ds, ex, lo, uf, us, fi, ki, ef, es, di, we, cf, cs, cm, upd (sc_up (16 * t) (n - p) p tx) (16 * t + p) (nI c), upd le t (nI (n + 1)), rr, wk, sh, fo, fl, el, ec, ke, kl, em, oe, be, pl, po)) : wpX_insert post (cc, rl, wl, cl, dt, df, ds, ex, lo, uf, us, fi, ki, ef, es, di, we, cf, cs, cm, tx, le, rr, wk, sh, fo, fl, el, ec, ke, kl, em, oe, be, pl, po) (nI t) (nI p) (nI c) := by
  have e := x_ins_l (post := post) (c := nI c) ht hn hp (n - p) tx (by omega) h
  rw [show p + (n - p) = n by omega] at e
  unfold wpX_insert
  refine xs_text1 ht (br_f (by decide) (xs_char1 hc (br_f (by decide) ⟨vp_in_nI ht (by decide), nm_r (by rw [nI_clamp (by omega), hl]) ?_⟩)))
  exact br_f (nI_pos (by omega)) (br_f (nI_nlt hp (by omega)) (br_t (nI_lt (b := 16) hn (by decide)) (nm_r (sn_t16 t) ⟨_, e⟩)))
theorem x_ins0 {post : Int32 → SX → Prop} {t n c : Nat} {p : Int32} (ht : t < 2) (hc : c < 48) (hl : le t = nI n) (hp : p < 0 ∨ ¬ p < 0 ∧ (nI n < p ∨ ¬ nI n < p ∧ ¬ nI n < 16))
    (h : post 0 (cc, rl, wl, cl, dt, df, ds, ex, lo, uf, us, fi, ki, ef, es, di, we, cf, cs, cm, tx, le, rr, wk, sh, fo, fl, el, ec, ke, kl, em, oe, be, pl, po)) : wpX_insert post (cc, rl, wl, cl, dt, df, ds, ex, lo, uf, us, fi, ki, ef, es, di, we, cf, cs, cm, tx, le, rr, wk, sh, fo, fl, el, ec, ke, kl, em, oe, be, pl, po) (nI t) p (nI c) := by
  unfold wpX_insert
  refine xs_text1 ht (br_f (by decide) (xs_char1 hc (br_f (by decide) ⟨vp_in_nI ht (by decide), nm_r (by rw [nI_clamp (by omega), hl]) ?_⟩)))
  exact hp.elim (fun z => br_t z h) (fun z => br_f z.1 (z.2.elim (fun z => br_t z h) (fun z => br_f z.1 (br_f z.2 h))))
theorem x_ins2 {post : Int32 → SX → Prop} {t p c : Int32} (ht : t < 0 ∨ ¬ t < 0 ∧ 2 ≤ t) (h : post 0 (cc, rl, wl, cl, dt, df, ds, ex, lo, uf, us, fi, ki, ef, es, di, we, cf, cs, cm, tx, le, rr, wk, sh, fo, fl, el, ec, ke, kl, em, oe, be, pl, po)) : wpX_insert post (cc, rl, wl, cl, dt, df, ds, ex, lo, uf, us, fi, ki, ef, es, di, we, cf, cs, cm, tx, le, rr, wk, sh, fo, fl, el, ec, ke, kl, em, oe, be, pl, po) t p c := by
  unfold wpX_insert
  exact xs_text0 ht (br_t rfl h)
theorem x_ins3 {post : Int32 → SX → Prop} {t : Nat} {p c : Int32} (ht : t < 2) (hc : c < 0 ∨ ¬ c < 0 ∧ 48 ≤ c) (h : post 0 (cc, rl, wl, cl, dt, df, ds, ex, lo, uf, us, fi, ki, ef, es, di, we, cf, cs, cm, tx, le, rr, wk, sh, fo, fl, el, ec, ke, kl, em, oe, be, pl, po)) : wpX_insert post (cc, rl, wl, cl, dt, df, ds, ex, lo, uf, us, fi, ki, ef, es, di, we, cf, cs, cm, tx, le, rr, wk, sh, fo, fl, el, ec, ke, kl, em, oe, be, pl, po) (nI t) p c := by
  unfold wpX_insert
  exact xs_text1 ht (br_f (by decide) (xs_char0 hc (br_t rfl h)))
theorem x_has1 {post : Int32 → Prop} {t n p : Nat} (ht : t < 2) (hn : n ≤ 16) (hp : p < n) (hl : le t = nI n) (h : post 1) : wpX_hasCharacterAt post (cc, rl, wl, cl, dt, df, ds, ex, lo, uf, us, fi, ki, ef, es, di, we, cf, cs, cm, tx, le, rr, wk, sh, fo, fl, el, ec, ke, kl, em, oe, be, pl, po) (nI t) (nI p) := by
  unfold wpX_hasCharacterAt
  exact xs_text1 ht (br_f (by decide) (br_f (nI_pos (by omega)) ⟨vp_in_nI ht (by decide), br_f (by rw [nI_clamp (by omega), hl]; exact nI_ge hp (by omega)) h⟩))
theorem x_has0 {post : Int32 → Prop} {t n : Nat} {p : Int32} (ht : t < 2) (hl : le t = nI n) (hp : p < 0 ∨ ¬ p < 0 ∧ nI n ≤ p) (h : post 0) : wpX_hasCharacterAt post (cc, rl, wl, cl, dt, df, ds, ex, lo, uf, us, fi, ki, ef, es, di, we, cf, cs, cm, tx, le, rr, wk, sh, fo, fl, el, ec, ke, kl, em, oe, be, pl, po) (nI t) p := by
  unfold wpX_hasCharacterAt
  exact xs_text1 ht (br_f (by decide) (hp.elim (fun z => br_t z h) (fun z => br_f z.1 ⟨vp_in_nI ht (by decide), br_t (by rw [nI_clamp (by omega), hl]; exact z.2) h⟩)))
theorem x_has2 {post : Int32 → Prop} {t p : Int32} (ht : t < 0 ∨ ¬ t < 0 ∧ 2 ≤ t) (h : post 0) : wpX_hasCharacterAt post (cc, rl, wl, cl, dt, df, ds, ex, lo, uf, us, fi, ki, ef, es, di, we, cf, cs, cm, tx, le, rr, wk, sh, fo, fl, el, ec, ke, kl, em, oe, be, pl, po) t p := by
  unfold wpX_hasCharacterAt
  exact xs_text0 ht (br_t rfl h)
theorem x_era_l {post : Int32 → SX → Prop} {t n : Nat} (ht : t < 2) (hn : n < 16) : ∀ (d i : Nat) (tx : Nat → Int32), i + d = n →
    post 1 (cc, rl, wl, cl, dt, df, ds, ex, lo, uf, us, fi, ki, ef, es, di, we, cf, cs, cm, sc_dn (16 * t) d i tx, upd le t (nI n), rr, wk, sh, fo, fl, el, ec, ke, kl, em, oe, be, pl, po) → wX_erase_29 post (nI t) (nI (16 * t)) (nI n) cc rl wl (d + 1) (nI i) cl dt df ds ex lo uf us fi ki ef es di we cf cs cm tx le rr wk sh fo fl el ec ke kl em oe be pl po := by
  intro d
  induction d with
  | zero => exact fun i tx hi h => br_t (nI_le (by omega) (by omega)) ⟨vp_in_nI ht (by decide), nm_r (by rw [nI_clamp (by omega)]) h⟩
  | succ d ih => exact fun i tx hi h => br_f (nI_ge (by omega) (by omega)) ⟨pk_in (16 * t + i + 1) 32 (by omega) (by rw [nI_add, nI_1]), pk_in (16 * t + i) 32 (by omega) (nI_add _ _),
      nm_r (by rw [nI_add, nI_1, nI_clamp (by omega), nI_clamp (by omega)]) (nm_r (nI_1 i) (ih (i + 1) _ (by omega) h))⟩
theorem x_era1 {post : Int32 → SX → Prop} {t n p : Nat} (ht : t < 2) (hn : n < 16) (hp : p ≤ n) (hl : le t = nI (n + 1))
    (h : post 1 (cc, rl, wl, cl, dt, df, ds, ex, lo, uf, us, fi, ki, ef, es, di, we, cf, cs, cm, sc_dn (16 * t) (n - p) p tx, upd le t (nI n), rr, wk, sh, fo, fl, el, ec, ke, kl, em, oe, be, pl, po)) : wpX_erase post (cc, rl, wl, cl, dt, df, ds, ex, lo, uf, us, fi, ki, ef, es, di, we, cf, cs, cm, tx, le, rr, wk, sh, fo, fl, el, ec, ke, kl, em, oe, be, pl, po) (nI t) (nI p) := by
  unfold wpX_erase
  refine x_has1 ht (by omega) (by omega : p < n + 1) hl (br_f (by decide) (nm_r (sn_t16 t) ⟨vp_in_nI ht (by decide), nm_r (by rw [nI_clamp (by omega), hl, nI_pred]) ⟨n - p + 1, ?_⟩⟩))
  exact x_era_l ht hn (n - p) p tx (by omega) h
theorem x_era0 {post : Int32 → SX → Prop} {t n : Nat} {p : Int32} (ht : t < 2) (hl : le t = nI n) (hp : p < 0 ∨ ¬ p < 0 ∧ nI n ≤ p) (h : post 0 (cc, rl, wl, cl, dt, df, ds, ex, lo, uf, us, fi, ki, ef, es, di, we, cf, cs, cm, tx, le, rr, wk, sh, fo, fl, el, ec, ke, kl, em, oe, be, pl, po)) : wpX_erase post (cc, rl, wl, cl, dt, df, ds, ex, lo, uf, us, fi, ki, ef, es, di, we, cf, cs, cm, tx, le, rr, wk, sh, fo, fl, el, ec, ke, kl, em, oe, be, pl, po) (nI t) p := by
  unfold wpX_erase
  exact x_has0 ht hl hp (br_t rfl h)
theorem x_era2 {post : Int32 → SX → Prop} {t p : Int32} (ht : t < 0 ∨ ¬ t < 0 ∧ 2 ≤ t) (h : post 0 (cc, rl, wl, cl, dt, df, ds, ex, lo, uf, us, fi, ki, ef, es, di, we, cf, cs, cm, tx, le, rr, wk, sh, fo, fl, el, ec, ke, kl, em, oe, be, pl, po)) : wpX_erase post (cc, rl, wl, cl, dt, df, ds, ex, lo, uf, us, fi, ki, ef, es, di, we, cf, cs, cm, tx, le, rr, wk, sh, fo, fl, el, ec, ke, kl, em, oe, be, pl, po) t p := by
  unfold wpX_erase
  exact x_has2 ht (br_t rfl h)
end
section
variable {cc rl yn : Int32} {cl dt df pb lo uf us fi ki wt ef eb di ex cf cs cm lg tx le rr ro fm fL ee en ye lv se pg ou : Nat → Int32}
theorem y_ins_l {post : Int32 → SY → Prop} {t n p : Nat} {c : Int32} (ht : t < 2) (hn : n < 16) (hp : p ≤ n) (hl : le t = nI n) : ∀ (d : Nat) (tx : Nat → Int32), p + d ≤ n →
    post 1 (cc, rl, yn, cl, dt, df, pb, lo, uf, us, fi, ki, wt, ef, eb, di, ex, cf, cs, cm, lg, upd (sc_up (16 * t) d p tx) (16 * t + p) c, upd le t (nI (n + 1)), rr, ro, fm, fL, ee, en, ye, lv, se, pg, ou) →
    wY_insert_49 post (nI t) (nI p) c cc rl yn (d + 1) (nI (p + d)) cl dt df pb lo uf us fi ki wt ef eb di ex cf cs cm lg tx le rr ro fm fL ee en ye lv se pg ou := by
  intro d
  induction d with
  | zero => exact fun tx hi h => br_t (nI_le (by omega) (by omega)) ⟨pk_in (16 * t + p) 32 (by omega) (sn_16 _ _), nm_r (e' := upd tx (16 * t + p) c) (by rw [sn_16, nI_clamp (by omega)]) ⟨vp_in_nI ht (by decide), vp_in_nI ht (by decide), nm_r (by rw [nI_clamp (by omega), hl, nI_1]) h⟩⟩
  | succ d ih => exact fun tx hi h => br_f (nI_ge (by omega) (by omega)) ⟨pk_in (16 * t + p + d) 32 (by omega) (by rw [sn_16, show 16 * t + (p + (d + 1)) = 16 * t + p + d + 1 by omega]; exact nI_pred _), pk_in (16 * t + p + d + 1) 32 (by omega) (by rw [sn_16]; exact congrArg nI (by omega)),
      nm_r (by rw [sn_16, show 16 * t + (p + (d + 1)) = 16 * t + p + d + 1 by omega, nI_pred, nI_clamp (by omega), nI_clamp (by omega)]) (nm_r (pk_m1 _) (ih _ (by omega) h))⟩
theorem y_ins1 {post : Int32 → SY → Prop} {t n p c : Nat} (ht : t < 2) (hn : n < 16) (hp : p ≤ n) (hc : c < 48) (hl : le t = nI n)
    (h : post 1 (cc, rl, yn, cl, dt, df, pb, lo, uf, us, fi, ki, wt, ef, eb, di, ex, cf, cs, cm, lg, upd (sc_up (16 * t) (n - p) p tx) (16 * t + p) (nI c), upd le t (nI (n + 1)), rr, ro, fm, fL, ee, en, ye, lv, se, pg, ou)) : wpY_insert post (cc, rl, yn, cl, dt, df, pb, lo, uf, us, fi, ki, wt, ef, eb, di, ex, cf, cs, cm, lg, tx, le, rr, ro, fm, fL, ee, en, ye, lv, se, pg, ou) (nI t) (nI p) (nI c) := by
  have e := y_ins_l (post := post) (c := nI c) ht hn hp hl (n - p) tx (by omega) h
  rw [show p + (n - p) = n by omega] at e
  unfold wpY_insert
  refine ys_text1 ht (br_f (by decide) (ys_char1 hc (br_f (by decide) (br_f (nI_pos (by omega)) ⟨vp_in_nI ht (by decide), ?_⟩))))
  have hL : le (nI t).toNatClampNeg = nI n := by rw [nI_clamp (by omega), hl]
  exact br_f (by rw [hL]; exact nI_nlt hp (by omega)) ⟨vp_in_nI ht (by decide), br_f (by rw [hL]; exact fun z => by have := (nI_eq (b := 16) (by omega) (by decide)).mp z; omega) ⟨vp_in_nI ht (by decide), nm_r hL ⟨_, e⟩⟩⟩
theorem y_ins0 {post : Int32 → SY → Prop} {t n c : Nat} {p : Int32} (ht : t < 2) (hn : n ≤ 16) (hc : c < 48) (hl : le t = nI n) (hp : p < 0 ∨ ¬ p < 0 ∧ (nI n < p ∨ ¬ nI n < p ∧ ¬ nI n < 16))
    (h : post 0 (cc, rl, yn, cl, dt, df, pb, lo, uf, us, fi, ki, wt, ef, eb, di, ex, cf, cs, cm, lg, tx, le, rr, ro, fm, fL, ee, en, ye, lv, se, pg, ou)) : wpY_insert post (cc, rl, yn, cl, dt, df, pb, lo, uf, us, fi, ki, wt, ef, eb, di, ex, cf, cs, cm, lg, tx, le, rr, ro, fm, fL, ee, en, ye, lv, se, pg, ou) (nI t) p (nI c) := by
  unfold wpY_insert
  have hL : le (nI t).toNatClampNeg = nI n := by rw [nI_clamp (by omega), hl]
  refine ys_text1 ht (br_f (by decide) (ys_char1 hc (br_f (by decide) (hp.elim (fun z => br_t z h) (fun z => br_f z.1 ⟨vp_in_nI ht (by decide), ?_⟩)))))
  clear hp
  refine z.2.elim (fun z => br_t (by rw [hL]; exact z) h) (fun z => br_f (by rw [hL]; exact z.1) ⟨vp_in_nI ht (by decide), br_t ?_ h⟩)
  rw [hL]
  have : ¬ n < 16 := fun w => z.2 (nI_lt (b := 16) w (by decide))
  rw [show n = 16 by omega]; rfl
theorem y_ins2 {post : Int32 → SY → Prop} {t p c : Int32} (h0 : ¬ t = 0) (h1 : ¬ t = 1) (h : post 0 (cc, rl, yn, cl, dt, df, pb, lo, uf, us, fi, ki, wt, ef, eb, di, ex, cf, cs, cm, lg, tx, le, rr, ro, fm, fL, ee, en, ye, lv, se, pg, ou)) : wpY_insert post (cc, rl, yn, cl, dt, df, pb, lo, uf, us, fi, ki, wt, ef, eb, di, ex, cf, cs, cm, lg, tx, le, rr, ro, fm, fL, ee, en, ye, lv, se, pg, ou) t p c := by
  unfold wpY_insert
  exact ys_text0 h0 h1 (br_t rfl h)
theorem y_ins3 {post : Int32 → SY → Prop} {t : Nat} {p c : Int32} (ht : t < 2) (hc : c < 0 ∨ ¬ c < 0 ∧ 48 ≤ c) (h : post 0 (cc, rl, yn, cl, dt, df, pb, lo, uf, us, fi, ki, wt, ef, eb, di, ex, cf, cs, cm, lg, tx, le, rr, ro, fm, fL, ee, en, ye, lv, se, pg, ou)) : wpY_insert post (cc, rl, yn, cl, dt, df, pb, lo, uf, us, fi, ki, wt, ef, eb, di, ex, cf, cs, cm, lg, tx, le, rr, ro, fm, fL, ee, en, ye, lv, se, pg, ou) (nI t) p c := by
  unfold wpY_insert
  exact ys_text1 ht (br_f (by decide) (ys_char0 hc (br_t rfl h)))
theorem y_era_l {post : Int32 → SY → Prop} {t n : Nat} (ht : t < 2) (hn : n < 16) : ∀ (d i : Nat) (tx : Nat → Int32), i + d = n → le t = nI n →
    post 1 (cc, rl, yn, cl, dt, df, pb, lo, uf, us, fi, ki, wt, ef, eb, di, ex, cf, cs, cm, lg, sc_dn (16 * t) d i tx, le, rr, ro, fm, fL, ee, en, ye, lv, se, pg, ou) → wY_erase_35 post (nI t) cc rl yn (d + 1) (nI i) cl dt df pb lo uf us fi ki wt ef eb di ex cf cs cm lg tx le rr ro fm fL ee en ye lv se pg ou := by
  intro d
  induction d with
  | zero => exact fun i tx hi hl h => ⟨vp_in_nI ht (by decide), br_t (by rw [nI_clamp (by omega), hl]; exact nI_le (by omega) (by omega)) h⟩
  | succ d ih => exact fun i tx hi hl h => ⟨vp_in_nI ht (by decide), br_f (by rw [nI_clamp (by omega), hl]; exact nI_ge (by omega) (by omega)) ⟨pk_in (16 * t + i + 1) 32 (by omega) (by rw [sn_16, nI_1]), pk_in (16 * t + i) 32 (by omega) (sn_16 _ _),
      nm_r (by rw [sn_16, nI_1, nI_clamp (by omega), nI_clamp (by omega)]) (nm_r (nI_1 i) (ih (i + 1) _ (by omega) hl h))⟩⟩
theorem y_era1 {post : Int32 → SY → Prop} {t n p : Nat} (ht : t < 2) (hn : n < 16) (hp : p ≤ n) (hl : le t = nI (n + 1))
    (h : post 1 (cc, rl, yn, cl, dt, df, pb, lo, uf, us, fi, ki, wt, ef, eb, di, ex, cf, cs, cm, lg, sc_dn (16 * t) (n - p) p tx, upd le t (nI n), rr, ro, fm, fL, ee, en, ye, lv, se, pg, ou)) : wpY_erase post (cc, rl, yn, cl, dt, df, pb, lo, uf, us, fi, ki, wt, ef, eb, di, ex, cf, cs, cm, lg, tx, le, rr, ro, fm, fL, ee, en, ye, lv, se, pg, ou) (nI t) (nI p) := by
  unfold wpY_erase
  have hL : le (nI t).toNatClampNeg = nI (n + 1) := by rw [nI_clamp (by omega), hl]
  refine ys_text1 ht (br_f (by decide) (br_f (nI_pos (by omega)) ⟨vp_in_nI ht (by decide), br_t (by rw [hL]; exact nI_lt (by omega) (by omega)) ⟨vp_in_nI ht (by decide), vp_in_nI ht (by decide), nm_r (e' := upd le t (nI n)) (by rw [hL, nI_pred, nI_clamp (by omega)]) ⟨n - p + 1, ?_⟩⟩⟩))
  exact y_era_l ht hn (n - p) p tx (by omega) pk_us h
theorem y_era0 {post : Int32 → SY → Prop} {t n : Nat} {p : Int32} (ht : t < 2) (hl : le t = nI n) (hp : p < 0 ∨ ¬ p < 0 ∧ nI n ≤ p) (h : post 0 (cc, rl, yn, cl, dt, df, pb, lo, uf, us, fi, ki, wt, ef, eb, di, ex, cf, cs, cm, lg, tx, le, rr, ro, fm, fL, ee, en, ye, lv, se, pg, ou)) : wpY_erase post (cc, rl, yn, cl, dt, df, pb, lo, uf, us, fi, ki, wt, ef, eb, di, ex, cf, cs, cm, lg, tx, le, rr, ro, fm, fL, ee, en, ye, lv, se, pg, ou) (nI t) p := by
  unfold wpY_erase
  exact ys_text1 ht (br_f (by decide) (hp.elim (fun z => br_t z h) (fun z => br_f z.1 ⟨vp_in_nI ht (by decide), br_f (by rw [nI_clamp (by omega), hl]; exact Int32.not_lt.mpr z.2) h⟩)))
theorem y_era2 {post : Int32 → SY → Prop} {t p : Int32} (h0 : ¬ t = 0) (h1 : ¬ t = 1) (h : post 0 (cc, rl, yn, cl, dt, df, pb, lo, uf, us, fi, ki, wt, ef, eb, di, ex, cf, cs, cm, lg, tx, le, rr, ro, fm, fL, ee, en, ye, lv, se, pg, ou)) : wpY_erase post (cc, rl, yn, cl, dt, df, pb, lo, uf, us, fi, ki, wt, ef, eb, di, ex, cf, cs, cm, lg, tx, le, rr, ro, fm, fL, ee, en, ye, lv, se, pg, ou) t p := by
  unfold wpY_erase
  exact ys_text0 h0 h1 (br_t rfl h)
end
theorem i_vc_insert {k : Nat} {u : SX} {v : SY} (I : i_Rel k u v) (hk : k + 5 ≤ 2560) (v1 : Int32) (v2 : Int32) (v3 : Int32) : wpX_insert (fun r u' => wpY_insert (fun r' v' => r' = r ∧ i_Rel (k + 5) u' v') v v1 v2 v3) u v1 v2 v3 := by
  obtain ⟨cc, rl, wl, yn, cl, dt, df, ds, ex, lo, uf, us, fi, ki, ef, es, di, we, cf, cs, cm, tx, le, rr, wk, sh, fo, fl, el, ec, ke, kl, em, oe, be, pl, po, pb, wt, eb, lg, ro, fm, fL, ee, en, rfl, rfl, I⟩ := I
  rcases sn_text v1 with ⟨t, ht, rfl⟩ | ⟨h0, h1, h2⟩
  · rcases sn_char v3 with ⟨c, hc, rfl⟩ | h
    · have I0 := I
      obtain ⟨i1, i2, i3, i4, ir⟩ := I
      obtain ⟨n, hn, hl⟩ := i3 t ht
      by_cases hp0 : v2 < 0
      · exact x_ins0 ht hc hl (Or.inl hp0) (y_ins0 ht hn hc hl (Or.inl hp0) ⟨rfl, sc_mk I0⟩)
      · obtain ⟨p, hp, rfl⟩ := nI_of hp0
        by_cases hpn : p ≤ n ∧ n < 16
        · exact x_ins1 ht hpn.2 hpn.1 hc hl (y_ins1 ht hpn.2 hpn.1 hc hl ⟨rfl, sc_mk ⟨i1, i2, sc_leU i3 (by omega), sc_updC (sc_upC _ _ _ _ i4) _ (vp_in_nI hc (by decide)), ir⟩⟩)
        · have z : nI n < nI p ∨ ¬ nI n < nI p ∧ ¬ nI n < 16 := by
            by_cases w : n < p
            · exact Or.inl (nI_lt w hp)
            · exact Or.inr ⟨nI_nlt (by omega) (by omega), nI_nlt (b := 16) (by omega) (by omega)⟩
          exact x_ins0 ht hc hl (Or.inr ⟨hp0, z⟩) (y_ins0 ht hn hc hl (Or.inr ⟨hp0, z⟩) ⟨rfl, sc_mk I0⟩)
    · exact x_ins3 ht h (y_ins3 ht h ⟨rfl, sc_mk I⟩)
  · exact x_ins2 h2 (y_ins2 h0 h1 ⟨rfl, sc_mk I⟩)
theorem i_vc_erase {k : Nat} {u : SX} {v : SY} (I : i_Rel k u v) (hk : k + 5 ≤ 2560) (v1 : Int32) (v2 : Int32) : wpX_erase (fun r u' => wpY_erase (fun r' v' => r' = r ∧ i_Rel (k + 5) u' v') v v1 v2) u v1 v2 := by
  obtain ⟨cc, rl, wl, yn, cl, dt, df, ds, ex, lo, uf, us, fi, ki, ef, es, di, we, cf, cs, cm, tx, le, rr, wk, sh, fo, fl, el, ec, ke, kl, em, oe, be, pl, po, pb, wt, eb, lg, ro, fm, fL, ee, en, rfl, rfl, I⟩ := I
  rcases sn_text v1 with ⟨t, ht, rfl⟩ | ⟨h0, h1, h2⟩
  · have I0 := I
    obtain ⟨i1, i2, i3, i4, ir⟩ := I
    obtain ⟨n, hn, hl⟩ := i3 t ht
    by_cases hp0 : v2 < 0
    · exact x_era0 ht hl (Or.inl hp0) (y_era0 ht hl (Or.inl hp0) ⟨rfl, sc_mk I0⟩)
    · obtain ⟨p, hp, rfl⟩ := nI_of hp0
      by_cases hpn : p < n
      · obtain ⟨m, rfl⟩ : ∃ m, n = m + 1 := ⟨n - 1, by omega⟩
        exact x_era1 ht (by omega) (by omega) hl (y_era1 ht (by omega) (by omega) hl ⟨rfl, sc_mk ⟨i1, i2, sc_leU i3 (by omega), sc_dnC _ _ _ _ i4, ir⟩⟩)
      · have z : nI n ≤ nI p := nI_le (by omega) hp
        exact x_era0 ht hl (Or.inr ⟨hp0, z⟩) (y_era0 ht hl (Or.inr ⟨hp0, z⟩) ⟨rfl, sc_mk I0⟩)
  · exact x_era2 h2 (y_era2 h0 h1 ⟨rfl, sc_mk I⟩)
end
section
/-! the constructors -/
def sc_ini (i : Nat) (v : Nat → Int32) : Nat → Int32 := fun j => if j < i then v j else 0
theorem sc_ini0 (v : Nat → Int32) : sc_ini 0 v = fun _ => 0 := by funext j; exact if_neg (by omega)
theorem sc_iniS (i : Nat) (v : Nat → Int32) : upd (sc_ini i v) i (v i) = sc_ini (i + 1) v := by
  funext j
  unfold upd sc_ini
  by_cases e : j = i
  · rw [if_pos e, if_pos (by omega), e]
  · rw [if_neg e]
    by_cases h : j < i
    · rw [if_pos h, if_pos (by omega)]
    · rw [if_neg h, if_neg (by omega)]
def sc_wX (i : Nat) (we : Nat → Int32) : Prop := ∀ c, c < i → we c = nI (c + 1) ∧ we (48 + c) = 1 ∧ we (96 + c) = 1
def sc_wY (i : Nat) (wt : Nat → Int32) : Prop := ∀ c, c < i → wt (3 * c) = nI (c + 1) ∧ wt (3 * c + 1) = 1 ∧ wt (3 * c + 2) = 1
theorem sc_wXs {i : Nat} {we : Nat → Int32} (hi : i < 48) (h : sc_wX i we) : sc_wX (i + 1) (upd (upd (upd we i (nI (i + 1))) (48 + i) 1) (96 + i) 1) := by
  intro c hc
  unfold upd
  by_cases e : c = i
  · subst e
    simp
  · obtain ⟨a, b, d⟩ := h c (by omega)
    refine ⟨?_, ?_, ?_⟩
    · rw [if_neg (by omega), if_neg (by omega), if_neg (by omega)]; exact a
    · rw [if_neg (by omega), if_neg (by omega), if_neg (by omega)]; exact b
    · rw [if_neg (by omega), if_neg (by omega), if_neg (by omega)]; exact d
theorem sc_wYs {i : Nat} {wt : Nat → Int32} (h : sc_wY i wt) : sc_wY (i + 1) (upd (upd (upd wt (3 * i) (nI (i + 1))) (3 * i + 1) 1) (3 * i + 2) 1) := by
  intro c hc
  unfold upd
  by_cases e : c = i
  · subst e
    simp
  · obtain ⟨a, b, d⟩ := h c (by omega)
    refine ⟨?_, ?_, ?_⟩
    · rw [if_neg (by omega), if_neg (by omega), if_neg (by omega)]; exact a
    · rw [if_neg (by omega), if_neg (by omega), if_neg (by omega)]; exact b
    · rw [if_neg (by omega), if_neg (by omega), if_neg (by omega)]; exact d
theorem sc_iniR {i j : Nat} (v : Nat → Int32) (x : Int32) (hx : x = v i) (h : j = i) : upd (sc_ini i v) j x = sc_ini (i + 1) v := by
  subst h; subst hx; exact sc_iniS _ v
section
variable {cc rl wl : Int32} {cl dt df ds ex lo uf us fi ki ef es di we cf cs cm tx le rr wk sh fo fl el ec ke kl em oe be pl po : Nat → Int32}
theorem x_ini_l {post : SX → Prop} (h : ∀ we, sc_wX 48 we → post (cc, rl, wl, cl, dt, df, sc_ini 48 (fun _ => -1), ex, sc_ini 48 nI, sc_ini 48 nI, sc_ini 48 (fun _ => -1), sc_ini 48 (fun _ => -1), ki, sc_ini 48 (fun _ => -1), sc_ini 48 (fun _ => -1), di, we, cf, cs, cm, tx, le, rr, wk, sh, fo, fl, el, ec, ke, kl, em, oe, be, pl, po)) :
    ∀ (d i : Nat) (we : Nat → Int32), i + d = 48 → sc_wX i we →
    wX_init_285 post cc rl wl (d + 1) (nI i) cl dt df (sc_ini i (fun _ => -1)) ex (sc_ini i nI) (sc_ini i nI) (sc_ini i (fun _ => -1)) (sc_ini i (fun _ => -1)) ki (sc_ini i (fun _ => -1)) (sc_ini i (fun _ => -1)) di we cf cs cm tx le rr wk sh fo fl el ec ke kl em oe be pl po := by
  intro d
  induction d with
  | zero =>
    intro i we hi hw
    obtain rfl : i = 48 := by omega
    exact br_t (nI_le (a := 48) (by omega) (by omega)) (h we hw)
  | succ d ih =>
    intro i we hi hw
    have c : (nI i).toNatClampNeg = i := nI_clamp (by omega)
    have v : vp_in (nI i) 48 := vp_in_nI (by omega) (by decide)
    have e48 : 48 + nI i = nI (48 + i) := nI_add 48 i
    have e96 : 96 + nI i = nI (96 + i) := nI_add 96 i
    refine br_f (nI_ge (b := 48) (by omega) (by decide)) ⟨v, nm_r (sc_iniR _ _ rfl c) ⟨v, nm_r (sc_iniR _ _ rfl c) ⟨v, nm_r (sc_iniR _ _ rfl c) ⟨v, nm_r (sc_iniR _ _ rfl c) ⟨v, nm_r (sc_iniR _ _ rfl c) ⟨v, nm_r (sc_iniR _ _ rfl c) ⟨v, nm_r (sc_iniR _ _ rfl c) ?_⟩⟩⟩⟩⟩⟩⟩
    refine ⟨vp_in_nI (by omega) (by decide), nm_r (by rw [c, nI_1]) ⟨pk_in (48 + i) 144 (by omega) e48, nm_r (by rw [e48, nI_clamp (by omega)]) ⟨pk_in (96 + i) 144 (by omega) e96, nm_r (by rw [e96, nI_clamp (by omega)]) (nm_r (nI_1 i) ?_)⟩⟩⟩
    exact ih (i + 1) _ (by omega) (sc_wXs (by omega) hw)
theorem x_ini {post : SX → Prop} (h : ∀ we, sc_wX 48 we → post (cc, rl, wl, cl, dt, df, sc_ini 48 (fun _ => -1), ex, sc_ini 48 nI, sc_ini 48 nI, sc_ini 48 (fun _ => -1), sc_ini 48 (fun _ => -1), ki, sc_ini 48 (fun _ => -1), sc_ini 48 (fun _ => -1), di, we, cf, cs, cm, tx, le, rr, wk, sh, fo, fl, el, ec, ke, kl, em, oe, be, pl, po)) :
    wX_init_285 post cc rl wl 49 0 cl dt df (fun _ => 0) ex (fun _ => 0) (fun _ => 0) (fun _ => 0) (fun _ => 0) ki (fun _ => 0) (fun _ => 0) di (fun _ => 0) cf cs cm tx le rr wk sh fo fl el ec ke kl em oe be pl po := by
  have e := x_ini_l h 48 0 (fun _ => 0) rfl (fun c hc => absurd hc (by omega))
  simp only [sc_ini0] at e
  exact e
end
section
variable {cc rl yn : Int32} {cl dt df pb lo uf us fi ki wt ef eb di ex cf cs cm lg tx le rr ro fm fL ee en ye lv se pg ou : Nat → Int32}
theorem y_ini_l {post : SY → Prop} (h : ∀ wt, sc_wY 48 wt → post (cc, rl, yn, cl, dt, df, pb, sc_ini 48 nI, sc_ini 48 nI, sc_ini 48 (fun _ => -1), sc_ini 48 (fun _ => -1), ki, wt, sc_ini 48 (fun _ => -1), eb, di, ex, cf, cs, cm, lg, tx, le, rr, ro, fm, fL, ee, en, ye, lv, se, pg, ou)) :
    ∀ (d i : Nat) (wt : Nat → Int32), i + d = 48 → sc_wY i wt →
    wY_init_254 post cc rl yn (d + 1) (nI i) cl dt df pb (sc_ini i nI) (sc_ini i nI) (sc_ini i (fun _ => -1)) (sc_ini i (fun _ => -1)) ki wt (sc_ini i (fun _ => -1)) eb di ex cf cs cm lg tx le rr ro fm fL ee en ye lv se pg ou := by
  intro d
  induction d with
  | zero =>
    intro i wt hi hw
    obtain rfl : i = 48 := by omega
    exact br_t (nI_le (a := 48) (by omega) (by omega)) (h wt hw)
  | succ d ih =>
    intro i wt hi hw
    have c : (nI i).toNatClampNeg = i := nI_clamp (by omega)
    have v : vp_in (nI i) 48 := vp_in_nI (by omega) (by decide)
    have e0 : 3 * nI i = nI (3 * i) := pk_mul 3 i
    have e1 : 3 * nI i + 1 = nI (3 * i + 1) := by rw [e0, nI_1]
    have e2 : 3 * nI i + 2 = nI (3 * i + 2) := by rw [e0]; exact nI_add _ 2
    refine br_f (nI_ge (b := 48) (by omega) (by decide)) ⟨v, nm_r (sc_iniR _ _ rfl c) ⟨v, nm_r (sc_iniR _ _ rfl c) ⟨v, nm_r (sc_iniR _ _ rfl c) ⟨v, nm_r (sc_iniR _ _ rfl c) ⟨v, nm_r (sc_iniR _ _ rfl c) ?_⟩⟩⟩⟩⟩
    refine ⟨pk_in (3 * i) 144 (by omega) e0, nm_r (by rw [e0, nI_clamp (by omega), nI_1]) ⟨pk_in (3 * i + 1) 144 (by omega) e1, nm_r (by rw [e1, nI_clamp (by omega)]) ⟨pk_in (3 * i + 2) 144 (by omega) e2, nm_r (by rw [e2, nI_clamp (by omega)]) (nm_r (nI_1 i) ?_)⟩⟩⟩
    exact ih (i + 1) _ (by omega) (sc_wYs hw)
theorem y_ini {post : SY → Prop} (h : ∀ wt, sc_wY 48 wt → post (cc, rl, yn, cl, dt, df, pb, sc_ini 48 nI, sc_ini 48 nI, sc_ini 48 (fun _ => -1), sc_ini 48 (fun _ => -1), ki, wt, sc_ini 48 (fun _ => -1), eb, di, ex, cf, cs, cm, lg, tx, le, rr, ro, fm, fL, ee, en, ye, lv, se, pg, ou)) :
    wY_init_254 post cc rl yn 49 0 cl dt df pb (fun _ => 0) (fun _ => 0) (fun _ => 0) (fun _ => 0) ki (fun _ => 0) (fun _ => 0) eb di ex cf cs cm lg tx le rr ro fm fL ee en ye lv se pg ou := by
  have e := y_ini_l h 48 0 (fun _ => 0) rfl (fun c hc => absurd hc (by omega))
  simp only [sc_ini0] at e
  exact e
end
theorem sc_in0 (n : Nat) (h : 0 < n) : vp_in 0 n := fun z => z.elim (fun z => absurd z (by decide)) (fun z => by rw [show (0 : Int32).toNatClampNeg = 0 from by decide] at z; omega)
theorem sc_iniC : sc_Chr (sc_ini 48 nI) := by
  intro j
  unfold sc_ini
  by_cases h : j < 48
  · rw [if_pos h]; exact vp_in_nI h (by decide)
  · rw [if_neg h]; exact sc_in0 48 (by decide)
theorem sc_iniO : sc_Opt (sc_ini 48 (fun _ => -1)) := by
  intro j
  unfold sc_ini
  by_cases h : j < 48
  · rw [if_pos h]; exact Or.inl rfl
  · rw [if_neg h]; exact Or.inr (sc_in0 48 (by decide))
theorem i_vc0 : wpX_init (fun u => wpY_init (fun v => i_Rel 0 u v)) := by
  refine ⟨49, ?_⟩
  have key : ∀ we wt, sc_wX 48 we → sc_wY 48 wt → sc_Inv 0 0 (fun _ => 0) (fun _ => 0) (fun _ => 0) (sc_ini 48 (fun _ => -1)) (fun _ => 0) (sc_ini 48 nI) (sc_ini 48 nI) (sc_ini 48 (fun _ => -1)) (sc_ini 48 (fun _ => -1)) (sc_ini 48 (fun _ => -1)) (sc_ini 48 (fun _ => -1)) (fun _ => 0) (fun _ => 0) (fun _ => 0) (fun _ => 0) (fun _ => 0) (fun _ => 0) we wt := by
    intro we wt hX hY
    refine ⟨⟨0, by omega, rfl⟩, ⟨0, by omega, rfl⟩, fun t _ => ⟨0, by omega, rfl⟩, fun _ => sc_in0 48 (by decide), fun _ => sc_in0 48 (by decide), sc_iniC, sc_iniC, sc_iniO, sc_iniO, fun _ => sc_in0 10 (by decide), fun _ => sc_in0 7 (by decide), fun _ => sc_in0 48 (by decide), sc_iniO, ?_, ?_, ?_, ?_⟩
    · intro i hi h
      exact absurd (if_pos hi) h
    · intro i hi h
      exact absurd rfl h
    · exact ⟨fun _ => Or.inl rfl, fun i _ h => absurd rfl h, fun _ => 1, fun _ => ⟨Nat.le_refl 1, (by decide : 1 ≤ 4)⟩, fun i _ h => absurd rfl h⟩
    · intro c l hc hl
      obtain ⟨a0, a1, a2⟩ := hX c hc
      obtain ⟨b0, b1, b2⟩ := hY c hc
      rcases Nat.lt_or_ge l 1 with z | z
      · obtain rfl : l = 0 := by omega
        rw [show 48 * 0 + c = c by omega, a0]; exact b0.symm
      · rcases Nat.lt_or_ge l 2 with z2 | z2
        · obtain rfl : l = 1 := by omega
          rw [show 48 * 1 + c = 48 + c by omega, a1]; exact b1.symm
        · obtain rfl : l = 2 := by omega
          rw [show 48 * 2 + c = 96 + c by omega, a2]; exact b2.symm
  exact x_ini (fun we hX => ⟨49, y_ini (fun wt hY => sc_mk (key we wt hX hY))⟩)
end
section
/-! describe: the operand checks, and what each plain description stores -/
def sc_W (a lo hi : Int32) : Prop := ¬ a < lo ∧ ¬ hi < a
theorem sc_C47 {a : Int32} : ¬ 48 ≤ a ↔ ¬ 47 < a := by
  rw [Int32.lt_iff_toInt_lt, Int32.le_iff_toInt_le]
  have h1 : (48 : Int32).toInt = 48 := by decide
  have h2 : (47 : Int32).toInt = 47 := by decide
  omega
theorem sc_Wm {a hi : Int32} (h : sc_W a (-1) hi) : a = -1 ∨ sc_W a 0 hi := by
  have h0 : (0 : Int32).toInt = 0 := by decide
  have h1 : (-1 : Int32).toInt = -1 := by decide
  obtain ⟨p, q⟩ := h
  by_cases e : a = -1
  · exact Or.inl e
  · refine Or.inr ⟨fun z => e (Int32.toInt_inj.mp ?_), q⟩
    rw [Int32.lt_iff_toInt_lt] at p z
    omega
theorem sc_Wm' {a hi : Int32} (h : sc_W a 0 hi) : sc_W a (-1) hi := by
  have h0 : (0 : Int32).toInt = 0 := by decide
  have h1 : (-1 : Int32).toInt = -1 := by decide
  obtain ⟨p, q⟩ := h
  refine ⟨fun z => p ?_, q⟩
  rw [Int32.lt_iff_toInt_lt] at z ⊢
  omega
theorem sc_Wm1 : sc_W (-1) (-1) 47 := ⟨by decide, by decide⟩
theorem sc_Wn {a hi : Int32} {n : Nat} (hn : n < 2 ^ 31) (e : hi.toInt = n) (h : sc_W a 0 hi) : ∃ j : Nat, j ≤ n ∧ a = nI j := by
  obtain ⟨p, q⟩ := h
  obtain ⟨j, hj, rfl⟩ := nI_of p
  refine ⟨j, ?_, rfl⟩
  rw [Int32.lt_iff_toInt_lt, nI_toInt hj] at q
  omega
theorem ys_in {post : Int32 → Prop} {a lo hi : Int32} (h1 : sc_W a lo hi → post 1) (h0 : ¬ sc_W a lo hi → post 0) : wpY_in post a lo hi :=
  br_c (fun z => h0 (fun w => w.1 z)) (fun z => br_c (fun y => h0 (fun w => w.2 y)) (fun y => h1 ⟨z, y⟩))
section
variable {cc rl wl : Int32} {cl dt df ds ex lo uf us fi ki ef es di we cf cs cm tx le rr wk sh fo fl el ec ke kl em oe be pl po : Nat → Int32}
theorem xs_within {post : Int32 → Prop} {a lo' hi : Int32} (h1 : sc_W a lo' hi → post 1) (h0 : ¬ sc_W a lo' hi → post 0) : wpX_isWithin post (cc, rl, wl, cl, dt, df, ds, ex, lo, uf, us, fi, ki, ef, es, di, we, cf, cs, cm, tx, le, rr, wk, sh, fo, fl, el, ec, ke, kl, em, oe, be, pl, po) a lo' hi :=
  br_c (fun z => h0 (fun w => w.1 z)) (fun z => br_c (fun y => h0 (fun w => w.2 y)) (fun y => h1 ⟨z, y⟩))
theorem xs_character {post : Int32 → Prop} {a : Int32} (h1 : sc_W a 0 47 → post 1) (h0 : ¬ sc_W a 0 47 → post 0) : wpX_isCharacter post (cc, rl, wl, cl, dt, df, ds, ex, lo, uf, us, fi, ki, ef, es, di, we, cf, cs, cm, tx, le, rr, wk, sh, fo, fl, el, ec, ke, kl, em, oe, be, pl, po) a :=
  br_c (fun z => h0 (fun w => w.1 z)) (fun z => br_c (fun y => h0 (fun w => absurd y (sc_C47.mpr w.2))) (fun y => h1 ⟨z, sc_C47.mp y⟩))
theorem x_fit0 {post : Int32 → Prop} {c : Nat} {a b : Int32} (h1 : sc_W a 0 9 → post 1) (h0 : ¬ (sc_W a 0 9) → post 0) : wpX_operandsFit post (cc, rl, wl, cl, dt, df, ds, ex, lo, uf, us, fi, ki, ef, es, di, we, cf, cs, cm, tx, le, rr, wk, sh, fo, fl, el, ec, ke, kl, em, oe, be, pl, po) (nI c) 0 a b :=
  br_f (by decide) (br_f (by decide) (br_t rfl (xs_within (fun z => ⟨rfl, h1 z⟩) (fun z => ⟨rfl, h0 z⟩))))
theorem x_fit1 {post : Int32 → Prop} {c : Nat} {a b : Int32} (h1 : sc_W a 0 (nI c - 1) ∧ sc_W b (-1) (nI c - 1) → post 1) (h0 : ¬ (sc_W a 0 (nI c - 1) ∧ sc_W b (-1) (nI c - 1)) → post 0) : wpX_operandsFit post (cc, rl, wl, cl, dt, df, ds, ex, lo, uf, us, fi, ki, ef, es, di, we, cf, cs, cm, tx, le, rr, wk, sh, fo, fl, el, ec, ke, kl, em, oe, be, pl, po) (nI c) 1 a b :=
  br_f (by decide) (br_f (by decide) (br_f (by decide) (br_t rfl (xs_within (fun z => br_f (by decide) (xs_within (fun y => br_f (by decide) (h1 ⟨z, y⟩)) (fun y => br_t rfl (h0 (fun x => y x.2))))) (fun z => br_t rfl (h0 (fun x => z x.1)))))))
theorem x_fit2 {post : Int32 → Prop} {c : Nat} {a b : Int32} (h1 : sc_W a 0 (nI c - 1) ∧ sc_W b (-1) (nI c - 1) → post 1) (h0 : ¬ (sc_W a 0 (nI c - 1) ∧ sc_W b (-1) (nI c - 1)) → post 0) : wpX_operandsFit post (cc, rl, wl, cl, dt, df, ds, ex, lo, uf, us, fi, ki, ef, es, di, we, cf, cs, cm, tx, le, rr, wk, sh, fo, fl, el, ec, ke, kl, em, oe, be, pl, po) (nI c) 2 a b :=
  br_f (by decide) (br_f (by decide) (br_f (by decide) (br_f (by decide) (br_t rfl (xs_within (fun z => br_f (by decide) (xs_within (fun y => br_f (by decide) (h1 ⟨z, y⟩)) (fun y => br_t rfl (h0 (fun x => y x.2))))) (fun z => br_t rfl (h0 (fun x => z x.1))))))))
theorem x_fit3 {post : Int32 → Prop} {c : Nat} {a b : Int32} (h1 : True → post 1) (h0 : ¬ (True) → post 0) : wpX_operandsFit post (cc, rl, wl, cl, dt, df, ds, ex, lo, uf, us, fi, ki, ef, es, di, we, cf, cs, cm, tx, le, rr, wk, sh, fo, fl, el, ec, ke, kl, em, oe, be, pl, po) (nI c) 3 a b :=
  br_f (by decide) (br_f (by decide) (br_f (by decide) (br_f (by decide) (br_f (by decide) (br_t rfl (h1 trivial))))))
theorem x_fit4 {post : Int32 → Prop} {c : Nat} {a b : Int32} (h1 : sc_W a 0 1 → post 1) (h0 : ¬ (sc_W a 0 1) → post 0) : wpX_operandsFit post (cc, rl, wl, cl, dt, df, ds, ex, lo, uf, us, fi, ki, ef, es, di, we, cf, cs, cm, tx, le, rr, wk, sh, fo, fl, el, ec, ke, kl, em, oe, be, pl, po) (nI c) 4 a b :=
  br_f (by decide) (br_f (by decide) (br_f (by decide) (br_f (by decide) (br_f (by decide) (br_f (by decide) (br_t rfl (xs_within (fun z => ⟨rfl, h1 z⟩) (fun z => ⟨rfl, h0 z⟩))))))))
theorem x_fit5 {post : Int32 → Prop} {c : Nat} {a b : Int32} (h1 : sc_W a 0 47 → post 1) (h0 : ¬ (sc_W a 0 47) → post 0) : wpX_operandsFit post (cc, rl, wl, cl, dt, df, ds, ex, lo, uf, us, fi, ki, ef, es, di, we, cf, cs, cm, tx, le, rr, wk, sh, fo, fl, el, ec, ke, kl, em, oe, be, pl, po) (nI c) 5 a b :=
  br_f (by decide) (br_f (by decide) (br_f (by decide) (br_f (by decide) (br_f (by decide) (br_f (by decide) (br_f (by decide) (br_t rfl (xs_character (fun z => ⟨rfl, h1 z⟩) (fun z => ⟨rfl, h0 z⟩)))))))))
theorem x_fit6 {post : Int32 → Prop} {c : Nat} {a b : Int32} (h1 : sc_W a 0 47 ∧ sc_W b (-1) 47 → post 1) (h0 : ¬ (sc_W a 0 47 ∧ sc_W b (-1) 47) → post 0) : wpX_operandsFit post (cc, rl, wl, cl, dt, df, ds, ex, lo, uf, us, fi, ki, ef, es, di, we, cf, cs, cm, tx, le, rr, wk, sh, fo, fl, el, ec, ke, kl, em, oe, be, pl, po) (nI c) 6 a b :=
  br_f (by decide) (br_f (by decide) (br_f (by decide) (br_f (by decide) (br_f (by decide) (br_f (by decide) (br_f (by decide) (br_f (by decide) (br_t rfl (xs_character (fun z => br_f (by decide) (br_c (fun e => h1 ⟨z, by rw [e]; exact sc_Wm1⟩) (fun e => xs_character (fun y => br_f (by decide) (h1 ⟨z, sc_Wm' y⟩)) (fun y => br_t rfl (h0 (fun x => (sc_Wm x.2).elim e y)))))) (fun z => br_t rfl (h0 (fun x => z x.1))))))))))))
theorem x_fit7 {post : Int32 → Prop} {c : Nat} {a b : Int32} (h1 : sc_W a (-1) 47 → post 1) (h0 : ¬ (sc_W a (-1) 47) → post 0) : wpX_operandsFit post (cc, rl, wl, cl, dt, df, ds, ex, lo, uf, us, fi, ki, ef, es, di, we, cf, cs, cm, tx, le, rr, wk, sh, fo, fl, el, ec, ke, kl, em, oe, be, pl, po) (nI c) 7 a b :=
  br_f (by decide) (br_f (by decide) (br_f (by decide) (br_f (by decide) (br_f (by decide) (br_f (by decide) (br_f (by decide) (br_f (by decide) (br_f (by decide) (br_t rfl (br_c (fun e => h1 (by rw [e]; exact sc_Wm1)) (fun e => xs_character (fun y => br_f (by decide) (h1 (sc_Wm' y))) (fun y => br_t rfl (h0 (fun x => (sc_Wm x).elim e y))))))))))))))
theorem x_fit8 {post : Int32 → Prop} {c : Nat} {a b : Int32} (h1 : sc_W a 0 7 → post 1) (h0 : ¬ (sc_W a 0 7) → post 0) : wpX_operandsFit post (cc, rl, wl, cl, dt, df, ds, ex, lo, uf, us, fi, ki, ef, es, di, we, cf, cs, cm, tx, le, rr, wk, sh, fo, fl, el, ec, ke, kl, em, oe, be, pl, po) (nI c) 8 a b :=
  br_f (by decide) (br_f (by decide) (br_f (by decide) (br_f (by decide) (br_f (by decide) (br_f (by decide) (br_f (by decide) (br_f (by decide) (br_f (by decide) (br_f (by decide) (br_t rfl (xs_within (fun z => ⟨rfl, h1 z⟩) (fun z => ⟨rfl, h0 z⟩))))))))))))
theorem x_fit9 {post : Int32 → Prop} {c : Nat} {a b : Int32} (h1 : sc_W a 0 99 ∧ sc_W b 0 99 → post 1) (h0 : ¬ (sc_W a 0 99 ∧ sc_W b 0 99) → post 0) : wpX_operandsFit post (cc, rl, wl, cl, dt, df, ds, ex, lo, uf, us, fi, ki, ef, es, di, we, cf, cs, cm, tx, le, rr, wk, sh, fo, fl, el, ec, ke, kl, em, oe, be, pl, po) (nI c) 9 a b :=
  br_f (by decide) (br_f (by decide) (br_f (by decide) (br_f (by decide) (br_f (by decide) (br_f (by decide) (br_f (by decide) (br_f (by decide) (br_f (by decide) (br_f (by decide) (br_f (by decide) (br_t rfl (xs_within (fun z => br_f (by decide) (xs_within (fun y => br_f (by decide) (h1 ⟨z, y⟩)) (fun y => br_t rfl (h0 (fun x => y x.2))))) (fun z => br_t rfl (h0 (fun x => z x.1)))))))))))))))
theorem x_fit10 {post : Int32 → Prop} {c : Nat} {a b : Int32} (h1 : sc_W a 0 47 ∧ sc_W b 0 47 → post 1) (h0 : ¬ (sc_W a 0 47 ∧ sc_W b 0 47) → post 0) : wpX_operandsFit post (cc, rl, wl, cl, dt, df, ds, ex, lo, uf, us, fi, ki, ef, es, di, we, cf, cs, cm, tx, le, rr, wk, sh, fo, fl, el, ec, ke, kl, em, oe, be, pl, po) (nI c) 10 a b :=
  br_f (by decide) (br_f (by decide) (br_f (by decide) (br_f (by decide) (br_f (by decide) (br_f (by decide) (br_f (by decide) (br_f (by decide) (br_f (by decide) (br_f (by decide) (br_f (by decide) (br_f (by decide) (br_t rfl (xs_character (fun z => br_f (by decide) (xs_character (fun y => br_f (by decide) (h1 ⟨z, y⟩)) (fun y => br_t rfl (h0 (fun x => y x.2))))) (fun z => br_t rfl (h0 (fun x => z x.1))))))))))))))))
theorem x_fit11 {post : Int32 → Prop} {c : Nat} {a b : Int32} (h1 : True → post 1) (h0 : ¬ (True) → post 0) : wpX_operandsFit post (cc, rl, wl, cl, dt, df, ds, ex, lo, uf, us, fi, ki, ef, es, di, we, cf, cs, cm, tx, le, rr, wk, sh, fo, fl, el, ec, ke, kl, em, oe, be, pl, po) (nI c) 11 a b :=
  br_f (by decide) (br_f (by decide) (br_f (by decide) (br_f (by decide) (br_f (by decide) (br_f (by decide) (br_f (by decide) (br_f (by decide) (br_f (by decide) (br_f (by decide) (br_f (by decide) (br_f (by decide) (br_f (by decide) (br_t rfl (h1 trivial))))))))))))))
theorem x_fit12 {post : Int32 → Prop} {c : Nat} {a b : Int32} (h1 : sc_W a 0 47 ∧ sc_W b 0 47 → post 1) (h0 : ¬ (sc_W a 0 47 ∧ sc_W b 0 47) → post 0) : wpX_operandsFit post (cc, rl, wl, cl, dt, df, ds, ex, lo, uf, us, fi, ki, ef, es, di, we, cf, cs, cm, tx, le, rr, wk, sh, fo, fl, el, ec, ke, kl, em, oe, be, pl, po) (nI c) 12 a b :=
  br_f (by decide) (br_f (by decide) (br_f (by decide) (br_f (by decide) (br_f (by decide) (br_f (by decide) (br_f (by decide) (br_f (by decide) (br_f (by decide) (br_f (by decide) (br_f (by decide) (br_f (by decide) (br_f (by decide) (br_f (by decide) (br_t rfl (xs_character (fun z => br_f (by decide) (xs_character (fun y => br_f (by decide) (h1 ⟨z, y⟩)) (fun y => br_t rfl (h0 (fun x => y x.2))))) (fun z => br_t rfl (h0 (fun x => z x.1))))))))))))))))))
theorem x_fit13 {post : Int32 → Prop} {c : Nat} {a b : Int32} (h1 : sc_W a 0 47 → post 1) (h0 : ¬ (sc_W a 0 47) → post 0) : wpX_operandsFit post (cc, rl, wl, cl, dt, df, ds, ex, lo, uf, us, fi, ki, ef, es, di, we, cf, cs, cm, tx, le, rr, wk, sh, fo, fl, el, ec, ke, kl, em, oe, be, pl, po) (nI c) 13 a b :=
  br_f (by decide) (br_f (by decide) (br_f (by decide) (br_f (by decide) (br_f (by decide) (br_f (by decide) (br_f (by decide) (br_f (by decide) (br_f (by decide) (br_f (by decide) (br_f (by decide) (br_f (by decide) (br_f (by decide) (br_f (by decide) (br_f (by decide) (br_t rfl (xs_character (fun z => ⟨rfl, h1 z⟩) (fun z => ⟨rfl, h0 z⟩)))))))))))))))))
theorem x_fit14 {post : Int32 → Prop} {c : Nat} {a b : Int32} (h1 : sc_W a 0 6 → post 1) (h0 : ¬ (sc_W a 0 6) → post 0) : wpX_operandsFit post (cc, rl, wl, cl, dt, df, ds, ex, lo, uf, us, fi, ki, ef, es, di, we, cf, cs, cm, tx, le, rr, wk, sh, fo, fl, el, ec, ke, kl, em, oe, be, pl, po) (nI c) 14 a b :=
  br_f (by decide) (br_f (by decide) (br_f (by decide) (br_f (by decide) (br_f (by decide) (br_f (by decide) (br_f (by decide) (br_f (by decide) (br_f (by decide) (br_f (by decide) (br_f (by decide) (br_f (by decide) (br_f (by decide) (br_f (by decide) (br_f (by decide) (br_f (by decide) (br_t rfl (xs_within (fun z => ⟨rfl, h1 z⟩) (fun z => ⟨rfl, h0 z⟩))))))))))))))))))
theorem x_fitN {post : Int32 → Prop} {c w a b : Int32} (hw : w < 0 ∨ ¬ w < 0 ∧ 14 < w) (h : post 0) : wpX_operandsFit post (cc, rl, wl, cl, dt, df, ds, ex, lo, uf, us, fi, ki, ef, es, di, we, cf, cs, cm, tx, le, rr, wk, sh, fo, fl, el, ec, ke, kl, em, oe, be, pl, po) c w a b :=
  hw.elim (fun z => br_t z h) (fun z => br_f z.1 (br_t z.2 h))
theorem x_d0 {post : Int32 → SX → Prop} {c : Nat} {a b : Int32} (hc : c < 48) (h1 : sc_W a 0 9 → post 1 (cc, rl, wl, upd cl c a, dt, df, ds, ex, lo, uf, us, fi, ki, ef, es, di, we, cf, cs, cm, tx, le, rr, wk, sh, fo, fl, el, ec, ke, kl, em, oe, be, pl, po)) (h0 : ¬ (sc_W a 0 9) → post 0 (cc, rl, wl, cl, dt, df, ds, ex, lo, uf, us, fi, ki, ef, es, di, we, cf, cs, cm, tx, le, rr, wk, sh, fo, fl, el, ec, ke, kl, em, oe, be, pl, po)) : wpX_describe post (cc, rl, wl, cl, dt, df, ds, ex, lo, uf, us, fi, ki, ef, es, di, we, cf, cs, cm, tx, le, rr, wk, sh, fo, fl, el, ec, ke, kl, em, oe, be, pl, po) (nI c) 0 a b := by
  have v : vp_in (nI c) 48 := vp_in_nI hc (by decide)
  have e : (nI c).toNatClampNeg = c := nI_clamp (by omega)
  unfold wpX_describe
  refine xs_char1 hc (br_f (by decide) (x_fit0 (fun z => br_f (by decide) (br_f (by decide) (br_f (by decide) (br_f (by decide) (br_f (by decide) (?_)))))) (fun z => br_t rfl (h0 z))))
  exact br_f (by decide) (br_f (by decide) (br_t rfl (⟨v, nm_r (by rw [e]) (h1 z)⟩)))
theorem x_d3 {post : Int32 → SX → Prop} {c : Nat} {a b : Int32} (hc : c < 48) (h1 : True → post 1 (cc, rl, wl, cl, upd dt c 0, df, ds, ex, lo, uf, us, fi, ki, ef, es, di, we, cf, cs, cm, tx, le, rr, wk, sh, fo, fl, el, ec, ke, kl, em, oe, be, pl, po)) (h0 : ¬ (True) → post 0 (cc, rl, wl, cl, dt, df, ds, ex, lo, uf, us, fi, ki, ef, es, di, we, cf, cs, cm, tx, le, rr, wk, sh, fo, fl, el, ec, ke, kl, em, oe, be, pl, po)) : wpX_describe post (cc, rl, wl, cl, dt, df, ds, ex, lo, uf, us, fi, ki, ef, es, di, we, cf, cs, cm, tx, le, rr, wk, sh, fo, fl, el, ec, ke, kl, em, oe, be, pl, po) (nI c) 3 a b := by
  have v : vp_in (nI c) 48 := vp_in_nI hc (by decide)
  have e : (nI c).toNatClampNeg = c := nI_clamp (by omega)
  unfold wpX_describe
  refine xs_char1 hc (br_f (by decide) (x_fit3 (fun z => br_f (by decide) (br_f (by decide) (br_f (by decide) (br_f (by decide) (br_f (by decide) (?_)))))) (fun z => br_t rfl (h0 z))))
  exact br_f (by decide) (br_f (by decide) (br_f (by decide) (br_f (by decide) (br_f (by decide) (br_t rfl (⟨v, nm_r (by rw [e]) (h1 z)⟩))))))
theorem x_d5 {post : Int32 → SX → Prop} {c : Nat} {a b : Int32} (hc : c < 48) (h1 : sc_W a 0 47 → post 1 (cc, rl, wl, cl, dt, df, ds, ex, upd lo c a, uf, us, fi, ki, ef, es, di, we, cf, cs, cm, tx, le, rr, wk, sh, fo, fl, el, ec, ke, kl, em, oe, be, pl, po)) (h0 : ¬ (sc_W a 0 47) → post 0 (cc, rl, wl, cl, dt, df, ds, ex, lo, uf, us, fi, ki, ef, es, di, we, cf, cs, cm, tx, le, rr, wk, sh, fo, fl, el, ec, ke, kl, em, oe, be, pl, po)) : wpX_describe post (cc, rl, wl, cl, dt, df, ds, ex, lo, uf, us, fi, ki, ef, es, di, we, cf, cs, cm, tx, le, rr, wk, sh, fo, fl, el, ec, ke, kl, em, oe, be, pl, po) (nI c) 5 a b := by
  have v : vp_in (nI c) 48 := vp_in_nI hc (by decide)
  have e : (nI c).toNatClampNeg = c := nI_clamp (by omega)
  unfold wpX_describe
  refine xs_char1 hc (br_f (by decide) (x_fit5 (fun z => br_f (by decide) (br_f (by decide) (br_f (by decide) (br_f (by decide) (br_f (by decide) (?_)))))) (fun z => br_t rfl (h0 z))))
  exact br_f (by decide) (br_f (by decide) (br_f (by decide) (br_f (by decide) (br_f (by decide) (br_f (by decide) (br_f (by decide) (br_t rfl (⟨v, nm_r (by rw [e]) (h1 z)⟩))))))))
theorem x_d6 {post : Int32 → SX → Prop} {c : Nat} {a b : Int32} (hc : c < 48) (h1 : sc_W a 0 47 ∧ sc_W b (-1) 47 → post 1 (cc, rl, wl, cl, dt, df, ds, ex, lo, upd uf c a, upd us c b, fi, ki, ef, es, di, we, cf, cs, cm, tx, le, rr, wk, sh, fo, fl, el, ec, ke, kl, em, oe, be, pl, po)) (h0 : ¬ (sc_W a 0 47 ∧ sc_W b (-1) 47) → post 0 (cc, rl, wl, cl, dt, df, ds, ex, lo, uf, us, fi, ki, ef, es, di, we, cf, cs, cm, tx, le, rr, wk, sh, fo, fl, el, ec, ke, kl, em, oe, be, pl, po)) : wpX_describe post (cc, rl, wl, cl, dt, df, ds, ex, lo, uf, us, fi, ki, ef, es, di, we, cf, cs, cm, tx, le, rr, wk, sh, fo, fl, el, ec, ke, kl, em, oe, be, pl, po) (nI c) 6 a b := by
  have v : vp_in (nI c) 48 := vp_in_nI hc (by decide)
  have e : (nI c).toNatClampNeg = c := nI_clamp (by omega)
  unfold wpX_describe
  refine xs_char1 hc (br_f (by decide) (x_fit6 (fun z => br_f (by decide) (br_f (by decide) (br_f (by decide) (br_f (by decide) (br_f (by decide) (?_)))))) (fun z => br_t rfl (h0 z))))
  exact br_f (by decide) (br_f (by decide) (br_f (by decide) (br_f (by decide) (br_f (by decide) (br_f (by decide) (br_f (by decide) (br_f (by decide) (br_t rfl (⟨v, nm_r (by rw [e]) (⟨v, nm_r (by rw [e]) (h1 z)⟩)⟩)))))))))
theorem x_d7 {post : Int32 → SX → Prop} {c : Nat} {a b : Int32} (hc : c < 48) (h1 : sc_W a (-1) 47 → post 1 (cc, rl, wl, cl, dt, df, ds, ex, lo, uf, us, upd fi c a, ki, ef, es, di, we, cf, cs, cm, tx, le, rr, wk, sh, fo, fl, el, ec, ke, kl, em, oe, be, pl, po)) (h0 : ¬ (sc_W a (-1) 47) → post 0 (cc, rl, wl, cl, dt, df, ds, ex, lo, uf, us, fi, ki, ef, es, di, we, cf, cs, cm, tx, le, rr, wk, sh, fo, fl, el, ec, ke, kl, em, oe, be, pl, po)) : wpX_describe post (cc, rl, wl, cl, dt, df, ds, ex, lo, uf, us, fi, ki, ef, es, di, we, cf, cs, cm, tx, le, rr, wk, sh, fo, fl, el, ec, ke, kl, em, oe, be, pl, po) (nI c) 7 a b := by
  have v : vp_in (nI c) 48 := vp_in_nI hc (by decide)
  have e : (nI c).toNatClampNeg = c := nI_clamp (by omega)
  unfold wpX_describe
  refine xs_char1 hc (br_f (by decide) (x_fit7 (fun z => br_f (by decide) (br_f (by decide) (br_f (by decide) (br_f (by decide) (br_f (by decide) (?_)))))) (fun z => br_t rfl (h0 z))))
  exact br_f (by decide) (br_f (by decide) (br_f (by decide) (br_f (by decide) (br_f (by decide) (br_f (by decide) (br_f (by decide) (br_f (by decide) (br_f (by decide) (br_t rfl (⟨v, nm_r (by rw [e]) (h1 z)⟩))))))))))
theorem x_d8 {post : Int32 → SX → Prop} {c : Nat} {a b : Int32} (hc : c < 48) (h1 : sc_W a 0 7 → post 1 (cc, rl, wl, cl, dt, df, ds, ex, lo, uf, us, fi, upd ki c a, ef, es, di, we, cf, cs, cm, tx, le, rr, wk, sh, fo, fl, el, ec, ke, kl, em, oe, be, pl, po)) (h0 : ¬ (sc_W a 0 7) → post 0 (cc, rl, wl, cl, dt, df, ds, ex, lo, uf, us, fi, ki, ef, es, di, we, cf, cs, cm, tx, le, rr, wk, sh, fo, fl, el, ec, ke, kl, em, oe, be, pl, po)) : wpX_describe post (cc, rl, wl, cl, dt, df, ds, ex, lo, uf, us, fi, ki, ef, es, di, we, cf, cs, cm, tx, le, rr, wk, sh, fo, fl, el, ec, ke, kl, em, oe, be, pl, po) (nI c) 8 a b := by
  have v : vp_in (nI c) 48 := vp_in_nI hc (by decide)
  have e : (nI c).toNatClampNeg = c := nI_clamp (by omega)
  unfold wpX_describe
  refine xs_char1 hc (br_f (by decide) (x_fit8 (fun z => br_f (by decide) (br_f (by decide) (br_f (by decide) (br_f (by decide) (br_f (by decide) (?_)))))) (fun z => br_t rfl (h0 z))))
  exact br_f (by decide) (br_f (by decide) (br_f (by decide) (br_f (by decide) (br_f (by decide) (br_f (by decide) (br_f (by decide) (br_f (by decide) (br_f (by decide) (br_f (by decide) (br_t rfl (⟨v, nm_r (by rw [e]) (h1 z)⟩)))))))))))
theorem x_d10 {post : Int32 → SX → Prop} {c : Nat} {a b : Int32} (hc : c < 48) (h1 : sc_W a 0 47 ∧ sc_W b 0 47 → post 1 (cc, rl, wl, cl, dt, df, ds, ex, lo, uf, us, fi, ki, upd ef c a, upd es c b, di, we, cf, cs, cm, tx, le, rr, wk, sh, fo, fl, el, ec, ke, kl, em, oe, be, pl, po)) (h0 : ¬ (sc_W a 0 47 ∧ sc_W b 0 47) → post 0 (cc, rl, wl, cl, dt, df, ds, ex, lo, uf, us, fi, ki, ef, es, di, we, cf, cs, cm, tx, le, rr, wk, sh, fo, fl, el, ec, ke, kl, em, oe, be, pl, po)) : wpX_describe post (cc, rl, wl, cl, dt, df, ds, ex, lo, uf, us, fi, ki, ef, es, di, we, cf, cs, cm, tx, le, rr, wk, sh, fo, fl, el, ec, ke, kl, em, oe, be, pl, po) (nI c) 10 a b := by
  have v : vp_in (nI c) 48 := vp_in_nI hc (by decide)
  have e : (nI c).toNatClampNeg = c := nI_clamp (by omega)
  unfold wpX_describe
  refine xs_char1 hc (br_f (by decide) (x_fit10 (fun z => br_f (by decide) (br_f (by decide) (br_f (by decide) (br_f (by decide) (br_f (by decide) (?_)))))) (fun z => br_t rfl (h0 z))))
  exact br_f (by decide) (br_f (by decide) (br_f (by decide) (br_f (by decide) (br_f (by decide) (br_f (by decide) (br_f (by decide) (br_f (by decide) (br_f (by decide) (br_f (by decide) (br_f (by decide) (br_f (by decide) (br_t rfl (⟨v, nm_r (by rw [e]) (⟨v, nm_r (by rw [e]) (h1 z)⟩)⟩)))))))))))))
theorem x_d11 {post : Int32 → SX → Prop} {c : Nat} {a b : Int32} (hc : c < 48) (h1 : True → post 1 (cc, rl, wl, cl, dt, df, ds, ex, lo, uf, us, fi, ki, upd ef c (-1), upd es c (-1), di, we, cf, cs, cm, tx, le, rr, wk, sh, fo, fl, el, ec, ke, kl, em, oe, be, pl, po)) (h0 : ¬ (True) → post 0 (cc, rl, wl, cl, dt, df, ds, ex, lo, uf, us, fi, ki, ef, es, di, we, cf, cs, cm, tx, le, rr, wk, sh, fo, fl, el, ec, ke, kl, em, oe, be, pl, po)) : wpX_describe post (cc, rl, wl, cl, dt, df, ds, ex, lo, uf, us, fi, ki, ef, es, di, we, cf, cs, cm, tx, le, rr, wk, sh, fo, fl, el, ec, ke, kl, em, oe, be, pl, po) (nI c) 11 a b := by
  have v : vp_in (nI c) 48 := vp_in_nI hc (by decide)
  have e : (nI c).toNatClampNeg = c := nI_clamp (by omega)
  unfold wpX_describe
  refine xs_char1 hc (br_f (by decide) (x_fit11 (fun z => br_f (by decide) (br_f (by decide) (br_f (by decide) (br_f (by decide) (br_f (by decide) (?_)))))) (fun z => br_t rfl (h0 z))))
  exact br_f (by decide) (br_f (by decide) (br_f (by decide) (br_f (by decide) (br_f (by decide) (br_f (by decide) (br_f (by decide) (br_f (by decide) (br_f (by decide) (br_f (by decide) (br_f (by decide) (br_f (by decide) (br_f (by decide) (br_t rfl (⟨v, nm_r (by rw [e]) (⟨v, nm_r (by rw [e]) (h1 z)⟩)⟩))))))))))))))
theorem x_d14 {post : Int32 → SX → Prop} {c : Nat} {a b : Int32} (hc : c < 48) (h1 : sc_W a 0 6 → post 1 (cc, rl, wl, cl, dt, df, ds, ex, lo, uf, us, fi, ki, ef, es, upd di c a, we, cf, cs, cm, tx, le, rr, wk, sh, fo, fl, el, ec, ke, kl, em, oe, be, pl, po)) (h0 : ¬ (sc_W a 0 6) → post 0 (cc, rl, wl, cl, dt, df, ds, ex, lo, uf, us, fi, ki, ef, es, di, we, cf, cs, cm, tx, le, rr, wk, sh, fo, fl, el, ec, ke, kl, em, oe, be, pl, po)) : wpX_describe post (cc, rl, wl, cl, dt, df, ds, ex, lo, uf, us, fi, ki, ef, es, di, we, cf, cs, cm, tx, le, rr, wk, sh, fo, fl, el, ec, ke, kl, em, oe, be, pl, po) (nI c) 14 a b := by
  have v : vp_in (nI c) 48 := vp_in_nI hc (by decide)
  have e : (nI c).toNatClampNeg = c := nI_clamp (by omega)
  unfold wpX_describe
  refine xs_char1 hc (br_f (by decide) (x_fit14 (fun z => br_f (by decide) (br_f (by decide) (br_f (by decide) (br_f (by decide) (br_f (by decide) (?_)))))) (fun z => br_t rfl (h0 z))))
  exact br_f (by decide) (br_f (by decide) (br_f (by decide) (br_f (by decide) (br_f (by decide) (br_f (by decide) (br_f (by decide) (br_f (by decide) (br_f (by decide) (br_f (by decide) (br_f (by decide) (br_f (by decide) (br_f (by decide) (br_f (by decide) (br_f (by decide) (br_f (by decide) (br_t rfl (⟨v, nm_r (by rw [e]) (h1 z)⟩)))))))))))))))))
theorem x_d4 {post : Int32 → SX → Prop} {c : Nat} {a b : Int32} (hc : c < 48) (h1 : sc_W a 0 1 → post 1 (cc, rl, wl, cl, dt, df, ds, upd ex c (vp_nar .boolean (if a = 1 then 1 else 0)), lo, uf, us, fi, ki, ef, es, di, we, cf, cs, cm, tx, le, rr, wk, sh, fo, fl, el, ec, ke, kl, em, oe, be, pl, po)) (h0 : ¬ (sc_W a 0 1) → post 0 (cc, rl, wl, cl, dt, df, ds, ex, lo, uf, us, fi, ki, ef, es, di, we, cf, cs, cm, tx, le, rr, wk, sh, fo, fl, el, ec, ke, kl, em, oe, be, pl, po)) : wpX_describe post (cc, rl, wl, cl, dt, df, ds, ex, lo, uf, us, fi, ki, ef, es, di, we, cf, cs, cm, tx, le, rr, wk, sh, fo, fl, el, ec, ke, kl, em, oe, be, pl, po) (nI c) 4 a b := by
  have v : vp_in (nI c) 48 := vp_in_nI hc (by decide)
  have e : (nI c).toNatClampNeg = c := nI_clamp (by omega)
  unfold wpX_describe
  refine xs_char1 hc (br_f (by decide) (x_fit4 (fun z => br_f (by decide) (br_f (by decide) (br_f (by decide) (br_f (by decide) (br_f (by decide) (?_)))))) (fun z => br_t rfl (h0 z))))
  have h := h1 z
  refine br_f (by decide) (br_f (by decide) (br_f (by decide) (br_f (by decide) (br_f (by decide) (br_f (by decide) (br_t rfl ?_))))))
  refine br_c (fun y => ?_) (fun y => ?_)
  · rw [if_pos y] at h; exact ⟨v, nm_r (by rw [e]) h⟩
  · rw [if_neg y] at h; exact ⟨v, nm_r (by rw [e]) h⟩
theorem x_d9 {post : Int32 → SX → Prop} {c : Nat} {a b : Int32} (hc : c < 48) (h1 : sc_W a 0 99 ∧ sc_W b 0 99 → post 1 (cc, rl, wl, cl, dt, df, ds, ex, lo, uf, us, fi, ki, ef, es, di, upd (upd (upd we c a) (48 + c) (b / 10)) (96 + c) (b - b / 10 * 10), cf, cs, cm, tx, le, rr, wk, sh, fo, fl, el, ec, ke, kl, em, oe, be, pl, po)) (h0 : ¬ (sc_W a 0 99 ∧ sc_W b 0 99) → post 0 (cc, rl, wl, cl, dt, df, ds, ex, lo, uf, us, fi, ki, ef, es, di, we, cf, cs, cm, tx, le, rr, wk, sh, fo, fl, el, ec, ke, kl, em, oe, be, pl, po)) : wpX_describe post (cc, rl, wl, cl, dt, df, ds, ex, lo, uf, us, fi, ki, ef, es, di, we, cf, cs, cm, tx, le, rr, wk, sh, fo, fl, el, ec, ke, kl, em, oe, be, pl, po) (nI c) 9 a b := by
  have v : vp_in (nI c) 48 := vp_in_nI hc (by decide)
  have e : (nI c).toNatClampNeg = c := nI_clamp (by omega)
  have e48 : 48 + nI c = nI (48 + c) := nI_add 48 c
  have e96 : 96 + nI c = nI (96 + c) := nI_add 96 c
  unfold wpX_describe
  refine xs_char1 hc (br_f (by decide) (x_fit9 (fun z => br_f (by decide) (br_f (by decide) (br_f (by decide) (br_f (by decide) (br_f (by decide) (?_)))))) (fun z => br_t rfl (h0 z))))
  refine br_f (by decide) (br_f (by decide) (br_f (by decide) (br_f (by decide) (br_f (by decide) (br_f (by decide) (br_f (by decide) (br_f (by decide) (br_f (by decide) (br_f (by decide) (br_f (by decide) (br_t rfl ?_)))))))))))
  unfold wpX_setWeights
  exact ⟨vp_in_nI (by omega) (by decide), nm_r (by rw [e]) ⟨by decide, pk_in (48 + c) 144 (by omega) e48, nm_r (by rw [e48, nI_clamp (by omega)]) ⟨by decide, pk_in (96 + c) 144 (by omega) e96, nm_r (by rw [e96, nI_clamp (by omega)]) (h1 z)⟩⟩⟩
theorem x_dN {post : Int32 → SX → Prop} {c : Nat} {w a b : Int32} (hc : c < 48) (hw : w < 0 ∨ ¬ w < 0 ∧ 14 < w) (h : post 0 (cc, rl, wl, cl, dt, df, ds, ex, lo, uf, us, fi, ki, ef, es, di, we, cf, cs, cm, tx, le, rr, wk, sh, fo, fl, el, ec, ke, kl, em, oe, be, pl, po)) : wpX_describe post (cc, rl, wl, cl, dt, df, ds, ex, lo, uf, us, fi, ki, ef, es, di, we, cf, cs, cm, tx, le, rr, wk, sh, fo, fl, el, ec, ke, kl, em, oe, be, pl, po) (nI c) w a b := by
  unfold wpX_describe
  exact xs_char1 hc (br_f (by decide) (x_fitN hw (br_t rfl h)))
theorem x_dC {post : Int32 → SX → Prop} {c w a b : Int32} (hc : c < 0 ∨ ¬ c < 0 ∧ 48 ≤ c) (h : post 0 (cc, rl, wl, cl, dt, df, ds, ex, lo, uf, us, fi, ki, ef, es, di, we, cf, cs, cm, tx, le, rr, wk, sh, fo, fl, el, ec, ke, kl, em, oe, be, pl, po)) : wpX_describe post (cc, rl, wl, cl, dt, df, ds, ex, lo, uf, us, fi, ki, ef, es, di, we, cf, cs, cm, tx, le, rr, wk, sh, fo, fl, el, ec, ke, kl, em, oe, be, pl, po) c w a b := by
  unfold wpX_describe
  exact xs_char0 hc (br_t rfl h)
end
end
section
section
variable {cc rl yn : Int32} {cl dt df pb lo uf us fi ki wt ef eb di ex cf cs cm lg tx le rr ro fm fL ee en ye lv se pg ou : Nat → Int32}
theorem y_fit0 {post : Int32 → SY → Prop} {c : Nat} {a b : Int32} (hc : c < 48) (h1 : sc_W a 0 9 → wY_describe_185 post (nI c) 0 a b cc rl yn cl dt df pb lo uf us fi ki wt ef eb di ex cf cs cm lg tx le rr ro fm fL ee en ye lv se pg ou) (h0 : ¬ (sc_W a 0 9) → post 0 (cc, rl, yn, cl, dt, df, pb, lo, uf, us, fi, ki, wt, ef, eb, di, ex, cf, cs, cm, lg, tx, le, rr, ro, fm, fL, ee, en, ye, lv, se, pg, ou)) : wpY_describe post (cc, rl, yn, cl, dt, df, pb, lo, uf, us, fi, ki, wt, ef, eb, di, ex, cf, cs, cm, lg, tx, le, rr, ro, fm, fL, ee, en, ye, lv, se, pg, ou) (nI c) 0 a b := by
  unfold wpY_describe
  refine ys_char1 hc (br_f (by decide) (ys_in1 (by decide) (by decide) (br_f (by decide) ?_)))
  exact br_t rfl (br_t rfl (br_f (by decide) (br_f (by decide) (br_f (by decide) (ys_in (fun z => br_f (by decide) (br_f (by decide) (br_f (by decide) (br_f (by decide) (br_f (by decide) (br_f (by decide) (br_f (by decide) (h1 z)))))))) (fun z => br_t rfl (h0 (z))))))))
theorem y_fit1 {post : Int32 → SY → Prop} {c : Nat} {a b : Int32} (hc : c < 48) (h1 : sc_W a 0 (nI c - 1) ∧ sc_W b (-1) (nI c - 1) → wY_describe_185 post (nI c) 1 a b cc rl yn cl dt df pb lo uf us fi ki wt ef eb di ex cf cs cm lg tx le rr ro fm fL ee en ye lv se pg ou) (h0 : ¬ (sc_W a 0 (nI c - 1) ∧ sc_W b (-1) (nI c - 1)) → post 0 (cc, rl, yn, cl, dt, df, pb, lo, uf, us, fi, ki, wt, ef, eb, di, ex, cf, cs, cm, lg, tx, le, rr, ro, fm, fL, ee, en, ye, lv, se, pg, ou)) : wpY_describe post (cc, rl, yn, cl, dt, df, pb, lo, uf, us, fi, ki, wt, ef, eb, di, ex, cf, cs, cm, lg, tx, le, rr, ro, fm, fL, ee, en, ye, lv, se, pg, ou) (nI c) 1 a b := by
  unfold wpY_describe
  refine ys_char1 hc (br_f (by decide) (ys_in1 (by decide) (by decide) (br_f (by decide) ?_)))
  exact br_f (by decide) (br_f (by decide) (br_f (by decide) (br_f (by decide) (br_f (by decide) (br_t rfl (br_f (by decide) (br_f (by decide) (br_f (by decide) (ys_in (fun z => br_f (by decide) (br_t rfl (ys_in (fun y => br_f (by decide) (br_f (by decide) (br_f (by decide) (br_f (by decide) (h1 ⟨z, y⟩))))) (fun y => br_t rfl (h0 (fun x => y x.2)))))) (fun z => br_t rfl (h0 (fun x => z x.1))))))))))))
theorem y_fit2 {post : Int32 → SY → Prop} {c : Nat} {a b : Int32} (hc : c < 48) (h1 : sc_W a 0 (nI c - 1) ∧ sc_W b (-1) (nI c - 1) → wY_describe_185 post (nI c) 2 a b cc rl yn cl dt df pb lo uf us fi ki wt ef eb di ex cf cs cm lg tx le rr ro fm fL ee en ye lv se pg ou) (h0 : ¬ (sc_W a 0 (nI c - 1) ∧ sc_W b (-1) (nI c - 1)) → post 0 (cc, rl, yn, cl, dt, df, pb, lo, uf, us, fi, ki, wt, ef, eb, di, ex, cf, cs, cm, lg, tx, le, rr, ro, fm, fL, ee, en, ye, lv, se, pg, ou)) : wpY_describe post (cc, rl, yn, cl, dt, df, pb, lo, uf, us, fi, ki, wt, ef, eb, di, ex, cf, cs, cm, lg, tx, le, rr, ro, fm, fL, ee, en, ye, lv, se, pg, ou) (nI c) 2 a b := by
  unfold wpY_describe
  refine ys_char1 hc (br_f (by decide) (ys_in1 (by decide) (by decide) (br_f (by decide) ?_)))
  exact br_f (by decide) (br_f (by decide) (br_f (by decide) (br_f (by decide) (br_f (by decide) (br_f (by decide) (br_t rfl (br_f (by decide) (br_f (by decide) (br_f (by decide) (ys_in (fun z => br_f (by decide) (br_f (by decide) (br_t rfl (ys_in (fun y => br_f (by decide) (br_f (by decide) (br_f (by decide) (br_f (by decide) (h1 ⟨z, y⟩))))) (fun y => br_t rfl (h0 (fun x => y x.2))))))) (fun z => br_t rfl (h0 (fun x => z x.1)))))))))))))
theorem y_fit3 {post : Int32 → SY → Prop} {c : Nat} {a b : Int32} (hc : c < 48) (h1 : True → wY_describe_185 post (nI c) 3 a b cc rl yn cl dt df pb lo uf us fi ki wt ef eb di ex cf cs cm lg tx le rr ro fm fL ee en ye lv se pg ou) (h0 : ¬ (True) → post 0 (cc, rl, yn, cl, dt, df, pb, lo, uf, us, fi, ki, wt, ef, eb, di, ex, cf, cs, cm, lg, tx, le, rr, ro, fm, fL, ee, en, ye, lv, se, pg, ou)) : wpY_describe post (cc, rl, yn, cl, dt, df, pb, lo, uf, us, fi, ki, wt, ef, eb, di, ex, cf, cs, cm, lg, tx, le, rr, ro, fm, fL, ee, en, ye, lv, se, pg, ou) (nI c) 3 a b := by
  unfold wpY_describe
  refine ys_char1 hc (br_f (by decide) (ys_in1 (by decide) (by decide) (br_f (by decide) ?_)))
  exact br_f (by decide) (br_f (by decide) (br_f (by decide) (br_f (by decide) (br_f (by decide) (br_f (by decide) (br_f (by decide) (br_t rfl (br_f (by decide) (br_f (by decide) (br_f (by decide) (br_f (by decide) (br_f (by decide) (br_f (by decide) (h1 trivial))))))))))))))
theorem y_fit4 {post : Int32 → SY → Prop} {c : Nat} {a b : Int32} (hc : c < 48) (h1 : sc_W a 0 1 → wY_describe_185 post (nI c) 4 a b cc rl yn cl dt df pb lo uf us fi ki wt ef eb di ex cf cs cm lg tx le rr ro fm fL ee en ye lv se pg ou) (h0 : ¬ (sc_W a 0 1) → post 0 (cc, rl, yn, cl, dt, df, pb, lo, uf, us, fi, ki, wt, ef, eb, di, ex, cf, cs, cm, lg, tx, le, rr, ro, fm, fL, ee, en, ye, lv, se, pg, ou)) : wpY_describe post (cc, rl, yn, cl, dt, df, pb, lo, uf, us, fi, ki, wt, ef, eb, di, ex, cf, cs, cm, lg, tx, le, rr, ro, fm, fL, ee, en, ye, lv, se, pg, ou) (nI c) 4 a b := by
  unfold wpY_describe
  refine ys_char1 hc (br_f (by decide) (ys_in1 (by decide) (by decide) (br_f (by decide) ?_)))
  exact br_f (by decide) (br_f (by decide) (br_t rfl (br_f (by decide) (br_f (by decide) (br_f (by decide) (ys_in (fun z => br_f (by decide) (br_f (by decide) (br_f (by decide) (br_f (by decide) (br_f (by decide) (br_f (by decide) (br_f (by decide) (h1 z)))))))) (fun z => br_t rfl (h0 (z)))))))))
theorem y_fit5 {post : Int32 → SY → Prop} {c : Nat} {a b : Int32} (hc : c < 48) (h1 : sc_W a 0 47 → wY_describe_185 post (nI c) 5 a b cc rl yn cl dt df pb lo uf us fi ki wt ef eb di ex cf cs cm lg tx le rr ro fm fL ee en ye lv se pg ou) (h0 : ¬ (sc_W a 0 47) → post 0 (cc, rl, yn, cl, dt, df, pb, lo, uf, us, fi, ki, wt, ef, eb, di, ex, cf, cs, cm, lg, tx, le, rr, ro, fm, fL, ee, en, ye, lv, se, pg, ou)) : wpY_describe post (cc, rl, yn, cl, dt, df, pb, lo, uf, us, fi, ki, wt, ef, eb, di, ex, cf, cs, cm, lg, tx, le, rr, ro, fm, fL, ee, en, ye, lv, se, pg, ou) (nI c) 5 a b := by
  unfold wpY_describe
  refine ys_char1 hc (br_f (by decide) (ys_in1 (by decide) (by decide) (br_f (by decide) ?_)))
  exact br_f (by decide) (br_f (by decide) (br_f (by decide) (br_f (by decide) (br_f (by decide) (br_f (by decide) (br_f (by decide) (br_f (by decide) (br_f (by decide) (br_f (by decide) (ys_in (fun z => br_f (by decide) (br_f (by decide) (br_f (by decide) (br_f (by decide) (br_f (by decide) (br_f (by decide) (br_f (by decide) (h1 z)))))))) (fun z => br_t rfl (h0 (z)))))))))))))
theorem y_fit6 {post : Int32 → SY → Prop} {c : Nat} {a b : Int32} (hc : c < 48) (h1 : sc_W a 0 47 ∧ sc_W b (-1) 47 → wY_describe_185 post (nI c) 6 a b cc rl yn cl dt df pb lo uf us fi ki wt ef eb di ex cf cs cm lg tx le rr ro fm fL ee en ye lv se pg ou) (h0 : ¬ (sc_W a 0 47 ∧ sc_W b (-1) 47) → post 0 (cc, rl, yn, cl, dt, df, pb, lo, uf, us, fi, ki, wt, ef, eb, di, ex, cf, cs, cm, lg, tx, le, rr, ro, fm, fL, ee, en, ye, lv, se, pg, ou)) : wpY_describe post (cc, rl, yn, cl, dt, df, pb, lo, uf, us, fi, ki, wt, ef, eb, di, ex, cf, cs, cm, lg, tx, le, rr, ro, fm, fL, ee, en, ye, lv, se, pg, ou) (nI c) 6 a b := by
  unfold wpY_describe
  refine ys_char1 hc (br_f (by decide) (ys_in1 (by decide) (by decide) (br_f (by decide) ?_)))
  exact br_f (by decide) (br_f (by decide) (br_f (by decide) (br_f (by decide) (br_f (by decide) (br_f (by decide) (br_f (by decide) (br_f (by decide) (br_f (by decide) (br_f (by decide) (ys_in (fun z => br_f (by decide) (br_f (by decide) (br_f (by decide) (br_t rfl (ys_in (fun y => br_f (by decide) (br_f (by decide) (br_f (by decide) (br_f (by decide) (h1 ⟨z, y⟩))))) (fun y => br_t rfl (h0 (fun x => y x.2)))))))) (fun z => br_t rfl (h0 (fun x => z x.1)))))))))))))
theorem y_fit7 {post : Int32 → SY → Prop} {c : Nat} {a b : Int32} (hc : c < 48) (h1 : sc_W a (-1) 47 → wY_describe_185 post (nI c) 7 a b cc rl yn cl dt df pb lo uf us fi ki wt ef eb di ex cf cs cm lg tx le rr ro fm fL ee en ye lv se pg ou) (h0 : ¬ (sc_W a (-1) 47) → post 0 (cc, rl, yn, cl, dt, df, pb, lo, uf, us, fi, ki, wt, ef, eb, di, ex, cf, cs, cm, lg, tx, le, rr, ro, fm, fL, ee, en, ye, lv, se, pg, ou)) : wpY_describe post (cc, rl, yn, cl, dt, df, pb, lo, uf, us, fi, ki, wt, ef, eb, di, ex, cf, cs, cm, lg, tx, le, rr, ro, fm, fL, ee, en, ye, lv, se, pg, ou) (nI c) 7 a b := by
  unfold wpY_describe
  refine ys_char1 hc (br_f (by decide) (ys_in1 (by decide) (by decide) (br_f (by decide) ?_)))
  exact br_f (by decide) (br_f (by decide) (br_f (by decide) (br_f (by decide) (br_f (by decide) (br_f (by decide) (br_f (by decide) (br_f (by decide) (br_f (by decide) (br_t rfl (ys_in (fun z => br_f (by decide) (br_f (by decide) (br_f (by decide) (br_f (by decide) (br_f (by decide) (br_f (by decide) (br_f (by decide) (h1 z)))))))) (fun z => br_t rfl (h0 z))))))))))))
theorem y_fit8 {post : Int32 → SY → Prop} {c : Nat} {a b : Int32} (hc : c < 48) (h1 : sc_W a 0 7 → wY_describe_185 post (nI c) 8 a b cc rl yn cl dt df pb lo uf us fi ki wt ef eb di ex cf cs cm lg tx le rr ro fm fL ee en ye lv se pg ou) (h0 : ¬ (sc_W a 0 7) → post 0 (cc, rl, yn, cl, dt, df, pb, lo, uf, us, fi, ki, wt, ef, eb, di, ex, cf, cs, cm, lg, tx, le, rr, ro, fm, fL, ee, en, ye, lv, se, pg, ou)) : wpY_describe post (cc, rl, yn, cl, dt, df, pb, lo, uf, us, fi, ki, wt, ef, eb, di, ex, cf, cs, cm, lg, tx, le, rr, ro, fm, fL, ee, en, ye, lv, se, pg, ou) (nI c) 8 a b := by
  unfold wpY_describe
  refine ys_char1 hc (br_f (by decide) (ys_in1 (by decide) (by decide) (br_f (by decide) ?_)))
  exact br_f (by decide) (br_t rfl (br_f (by decide) (br_f (by decide) (br_f (by decide) (br_f (by decide) (ys_in (fun z => br_f (by decide) (br_f (by decide) (br_f (by decide) (br_f (by decide) (br_f (by decide) (br_f (by decide) (br_f (by decide) (h1 z)))))))) (fun z => br_t rfl (h0 (z)))))))))
theorem y_fit9 {post : Int32 → SY → Prop} {c : Nat} {a b : Int32} (hc : c < 48) (h1 : sc_W a 0 99 ∧ sc_W b 0 99 → wY_describe_185 post (nI c) 9 a b cc rl yn cl dt df pb lo uf us fi ki wt ef eb di ex cf cs cm lg tx le rr ro fm fL ee en ye lv se pg ou) (h0 : ¬ (sc_W a 0 99 ∧ sc_W b 0 99) → post 0 (cc, rl, yn, cl, dt, df, pb, lo, uf, us, fi, ki, wt, ef, eb, di, ex, cf, cs, cm, lg, tx, le, rr, ro, fm, fL, ee, en, ye, lv, se, pg, ou)) : wpY_describe post (cc, rl, yn, cl, dt, df, pb, lo, uf, us, fi, ki, wt, ef, eb, di, ex, cf, cs, cm, lg, tx, le, rr, ro, fm, fL, ee, en, ye, lv, se, pg, ou) (nI c) 9 a b := by
  unfold wpY_describe
  refine ys_char1 hc (br_f (by decide) (ys_in1 (by decide) (by decide) (br_f (by decide) ?_)))
  exact br_f (by decide) (br_f (by decide) (br_f (by decide) (br_t rfl (br_f (by decide) (br_f (by decide) (br_f (by decide) (ys_in (fun z => br_f (by decide) (br_f (by decide) (br_f (by decide) (br_f (by decide) (br_t rfl (ys_in (fun y => br_f (by decide) (h1 ⟨z, y⟩)) (fun y => br_t rfl (h0 (fun x => y x.2))))))))) (fun z => br_t rfl (h0 (fun x => z x.1))))))))))
theorem y_fit10 {post : Int32 → SY → Prop} {c : Nat} {a b : Int32} (hc : c < 48) (h1 : sc_W a 0 47 ∧ sc_W b 0 47 → wY_describe_185 post (nI c) 10 a b cc rl yn cl dt df pb lo uf us fi ki wt ef eb di ex cf cs cm lg tx le rr ro fm fL ee en ye lv se pg ou) (h0 : ¬ (sc_W a 0 47 ∧ sc_W b 0 47) → post 0 (cc, rl, yn, cl, dt, df, pb, lo, uf, us, fi, ki, wt, ef, eb, di, ex, cf, cs, cm, lg, tx, le, rr, ro, fm, fL, ee, en, ye, lv, se, pg, ou)) : wpY_describe post (cc, rl, yn, cl, dt, df, pb, lo, uf, us, fi, ki, wt, ef, eb, di, ex, cf, cs, cm, lg, tx, le, rr, ro, fm, fL, ee, en, ye, lv, se, pg, ou) (nI c) 10 a b := by
  unfold wpY_describe
  refine ys_char1 hc (br_f (by decide) (ys_in1 (by decide) (by decide) (br_f (by decide) ?_)))
  exact br_f (by decide) (br_f (by decide) (br_f (by decide) (br_f (by decide) (br_f (by decide) (br_f (by decide) (br_f (by decide) (br_f (by decide) (br_f (by decide) (br_f (by decide) (ys_in (fun z => br_f (by decide) (br_f (by decide) (br_f (by decide) (br_f (by decide) (br_f (by decide) (br_t rfl (ys_in (fun y => br_f (by decide) (h1 ⟨z, y⟩)) (fun y => br_t rfl (h0 (fun x => y x.2)))))))))) (fun z => br_t rfl (h0 (fun x => z x.1)))))))))))))
theorem y_fit11 {post : Int32 → SY → Prop} {c : Nat} {a b : Int32} (hc : c < 48) (h1 : True → wY_describe_185 post (nI c) 11 a b cc rl yn cl dt df pb lo uf us fi ki wt ef eb di ex cf cs cm lg tx le rr ro fm fL ee en ye lv se pg ou) (h0 : ¬ (True) → post 0 (cc, rl, yn, cl, dt, df, pb, lo, uf, us, fi, ki, wt, ef, eb, di, ex, cf, cs, cm, lg, tx, le, rr, ro, fm, fL, ee, en, ye, lv, se, pg, ou)) : wpY_describe post (cc, rl, yn, cl, dt, df, pb, lo, uf, us, fi, ki, wt, ef, eb, di, ex, cf, cs, cm, lg, tx, le, rr, ro, fm, fL, ee, en, ye, lv, se, pg, ou) (nI c) 11 a b := by
  unfold wpY_describe
  refine ys_char1 hc (br_f (by decide) (ys_in1 (by decide) (by decide) (br_f (by decide) ?_)))
  exact br_f (by decide) (br_f (by decide) (br_f (by decide) (br_f (by decide) (br_f (by decide) (br_f (by decide) (br_f (by decide) (br_f (by decide) (br_t rfl (br_f (by decide) (br_f (by decide) (br_f (by decide) (br_f (by decide) (br_f (by decide) (br_f (by decide) (h1 trivial)))))))))))))))
theorem y_fit12 {post : Int32 → SY → Prop} {c : Nat} {a b : Int32} (hc : c < 48) (h1 : sc_W a 0 47 ∧ sc_W b 0 47 → wY_describe_185 post (nI c) 12 a b cc rl yn cl dt df pb lo uf us fi ki wt ef eb di ex cf cs cm lg tx le rr ro fm fL ee en ye lv se pg ou) (h0 : ¬ (sc_W a 0 47 ∧ sc_W b 0 47) → post 0 (cc, rl, yn, cl, dt, df, pb, lo, uf, us, fi, ki, wt, ef, eb, di, ex, cf, cs, cm, lg, tx, le, rr, ro, fm, fL, ee, en, ye, lv, se, pg, ou)) : wpY_describe post (cc, rl, yn, cl, dt, df, pb, lo, uf, us, fi, ki, wt, ef, eb, di, ex, cf, cs, cm, lg, tx, le, rr, ro, fm, fL, ee, en, ye, lv, se, pg, ou) (nI c) 12 a b := by
  unfold wpY_describe
  refine ys_char1 hc (br_f (by decide) (ys_in1 (by decide) (by decide) (br_f (by decide) ?_)))
  exact br_f (by decide) (br_f (by decide) (br_f (by decide) (br_f (by decide) (br_f (by decide) (br_f (by decide) (br_f (by decide) (br_f (by decide) (br_f (by decide) (br_f (by decide) (ys_in (fun z => br_f (by decide) (br_f (by decide) (br_f (by decide) (br_f (by decide) (br_f (by decide) (br_f (by decide) (br_t rfl (ys_in (fun y => br_f (by decide) (h1 ⟨z, y⟩)) (fun y => br_t rfl (h0 (fun x => y x.2))))))))))) (fun z => br_t rfl (h0 (fun x => z x.1)))))))))))))
theorem y_fit13 {post : Int32 → SY → Prop} {c : Nat} {a b : Int32} (hc : c < 48) (h1 : sc_W a 0 47 → wY_describe_185 post (nI c) 13 a b cc rl yn cl dt df pb lo uf us fi ki wt ef eb di ex cf cs cm lg tx le rr ro fm fL ee en ye lv se pg ou) (h0 : ¬ (sc_W a 0 47) → post 0 (cc, rl, yn, cl, dt, df, pb, lo, uf, us, fi, ki, wt, ef, eb, di, ex, cf, cs, cm, lg, tx, le, rr, ro, fm, fL, ee, en, ye, lv, se, pg, ou)) : wpY_describe post (cc, rl, yn, cl, dt, df, pb, lo, uf, us, fi, ki, wt, ef, eb, di, ex, cf, cs, cm, lg, tx, le, rr, ro, fm, fL, ee, en, ye, lv, se, pg, ou) (nI c) 13 a b := by
  unfold wpY_describe
  refine ys_char1 hc (br_f (by decide) (ys_in1 (by decide) (by decide) (br_f (by decide) ?_)))
  exact br_f (by decide) (br_f (by decide) (br_f (by decide) (br_f (by decide) (br_f (by decide) (br_f (by decide) (br_f (by decide) (br_f (by decide) (br_f (by decide) (br_f (by decide) (ys_in (fun z => br_f (by decide) (br_f (by decide) (br_f (by decide) (br_f (by decide) (br_f (by decide) (br_f (by decide) (br_f (by decide) (h1 z)))))))) (fun z => br_t rfl (h0 (z)))))))))))))
theorem y_fit14 {post : Int32 → SY → Prop} {c : Nat} {a b : Int32} (hc : c < 48) (h1 : sc_W a 0 6 → wY_describe_185 post (nI c) 14 a b cc rl yn cl dt df pb lo uf us fi ki wt ef eb di ex cf cs cm lg tx le rr ro fm fL ee en ye lv se pg ou) (h0 : ¬ (sc_W a 0 6) → post 0 (cc, rl, yn, cl, dt, df, pb, lo, uf, us, fi, ki, wt, ef, eb, di, ex, cf, cs, cm, lg, tx, le, rr, ro, fm, fL, ee, en, ye, lv, se, pg, ou)) : wpY_describe post (cc, rl, yn, cl, dt, df, pb, lo, uf, us, fi, ki, wt, ef, eb, di, ex, cf, cs, cm, lg, tx, le, rr, ro, fm, fL, ee, en, ye, lv, se, pg, ou) (nI c) 14 a b := by
  unfold wpY_describe
  refine ys_char1 hc (br_f (by decide) (ys_in1 (by decide) (by decide) (br_f (by decide) ?_)))
  exact br_f (by decide) (br_f (by decide) (br_f (by decide) (br_f (by decide) (br_t rfl (br_f (by decide) (br_f (by decide) (br_f (by decide) (ys_in (fun z => br_f (by decide) (br_f (by decide) (br_f (by decide) (br_f (by decide) (br_f (by decide) (br_f (by decide) (br_f (by decide) (h1 z)))))))) (fun z => br_t rfl (h0 (z)))))))))))
theorem y_d0 {post : Int32 → SY → Prop} {c : Nat} {a b : Int32} (hc : c < 48) (h1 : sc_W a 0 9 → post 1 (cc, rl, yn, upd cl c a, dt, df, pb, lo, uf, us, fi, ki, wt, ef, eb, di, ex, cf, cs, cm, lg, tx, le, rr, ro, fm, fL, ee, en, ye, lv, se, pg, ou)) (h0 : ¬ (sc_W a 0 9) → post 0 (cc, rl, yn, cl, dt, df, pb, lo, uf, us, fi, ki, wt, ef, eb, di, ex, cf, cs, cm, lg, tx, le, rr, ro, fm, fL, ee, en, ye, lv, se, pg, ou)) : wpY_describe post (cc, rl, yn, cl, dt, df, pb, lo, uf, us, fi, ki, wt, ef, eb, di, ex, cf, cs, cm, lg, tx, le, rr, ro, fm, fL, ee, en, ye, lv, se, pg, ou) (nI c) 0 a b := by
  have v : vp_in (nI c) 48 := vp_in_nI hc (by decide)
  have e : (nI c).toNatClampNeg = c := nI_clamp (by omega)
  refine y_fit0 hc (fun z => ?_) h0
  exact br_f (by decide) (br_f (by decide) (br_f (by decide) (br_f (by decide) (br_t rfl (⟨v, nm_r (by rw [e]) (br_f (by decide) (br_f (by decide) (br_f (by decide) (br_f (by decide) (br_f (by decide) (br_f (by decide) (br_f (by decide) (br_f (by decide) (br_f (by decide) (br_f (by decide) (br_f (by decide) (h1 z))))))))))))⟩)))))
theorem y_d3 {post : Int32 → SY → Prop} {c : Nat} {a b : Int32} (hc : c < 48) (h1 : True → post 1 (cc, rl, yn, cl, upd dt c 0, df, pb, lo, uf, us, fi, ki, wt, ef, eb, di, ex, cf, cs, cm, lg, tx, le, rr, ro, fm, fL, ee, en, ye, lv, se, pg, ou)) (h0 : ¬ (True) → post 0 (cc, rl, yn, cl, dt, df, pb, lo, uf, us, fi, ki, wt, ef, eb, di, ex, cf, cs, cm, lg, tx, le, rr, ro, fm, fL, ee, en, ye, lv, se, pg, ou)) : wpY_describe post (cc, rl, yn, cl, dt, df, pb, lo, uf, us, fi, ki, wt, ef, eb, di, ex, cf, cs, cm, lg, tx, le, rr, ro, fm, fL, ee, en, ye, lv, se, pg, ou) (nI c) 3 a b := by
  have v : vp_in (nI c) 48 := vp_in_nI hc (by decide)
  have e : (nI c).toNatClampNeg = c := nI_clamp (by omega)
  refine y_fit3 hc (fun z => ?_) h0
  exact br_f (by decide) (br_f (by decide) (br_f (by decide) (br_f (by decide) (br_f (by decide) (br_t rfl (⟨v, nm_r (by rw [e]) (br_f (by decide) (br_f (by decide) (br_f (by decide) (br_f (by decide) (br_f (by decide) (br_f (by decide) (br_f (by decide) (br_f (by decide) (br_f (by decide) (br_f (by decide) (h1 z)))))))))))⟩))))))
theorem y_d4 {post : Int32 → SY → Prop} {c : Nat} {a b : Int32} (hc : c < 48) (h1 : sc_W a 0 1 → post 1 (cc, rl, yn, cl, dt, df, pb, lo, uf, us, fi, ki, wt, ef, eb, di, upd ex c (vp_nar .boolean (if a = 1 then 1 else 0)), cf, cs, cm, lg, tx, le, rr, ro, fm, fL, ee, en, ye, lv, se, pg, ou)) (h0 : ¬ (sc_W a 0 1) → post 0 (cc, rl, yn, cl, dt, df, pb, lo, uf, us, fi, ki, wt, ef, eb, di, ex, cf, cs, cm, lg, tx, le, rr, ro, fm, fL, ee, en, ye, lv, se, pg, ou)) : wpY_describe post (cc, rl, yn, cl, dt, df, pb, lo, uf, us, fi, ki, wt, ef, eb, di, ex, cf, cs, cm, lg, tx, le, rr, ro, fm, fL, ee, en, ye, lv, se, pg, ou) (nI c) 4 a b := by
  have v : vp_in (nI c) 48 := vp_in_nI hc (by decide)
  have e : (nI c).toNatClampNeg = c := nI_clamp (by omega)
  refine y_fit4 hc (fun z => ?_) h0
  exact br_f (by decide) (br_f (by decide) (br_f (by decide) (br_f (by decide) (br_f (by decide) (br_f (by decide) (br_t rfl (br_c (fun y => ⟨v, nm_r (by rw [e, if_pos y]) (br_f (by decide) (br_f (by decide) (br_f (by decide) (br_f (by decide) (br_f (by decide) (br_f (by decide) (br_f (by decide) (br_f (by decide) (br_f (by decide) (h1 z))))))))))⟩) (fun y => ⟨v, nm_r (by rw [e, if_neg y]) (br_f (by decide) (br_f (by decide) (br_f (by decide) (br_f (by decide) (br_f (by decide) (br_f (by decide) (br_f (by decide) (br_f (by decide) (br_f (by decide) (h1 z))))))))))⟩))))))))
theorem y_d5 {post : Int32 → SY → Prop} {c : Nat} {a b : Int32} (hc : c < 48) (h1 : sc_W a 0 47 → post 1 (cc, rl, yn, cl, dt, df, pb, upd lo c a, uf, us, fi, ki, wt, ef, eb, di, ex, cf, cs, cm, lg, tx, le, rr, ro, fm, fL, ee, en, ye, lv, se, pg, ou)) (h0 : ¬ (sc_W a 0 47) → post 0 (cc, rl, yn, cl, dt, df, pb, lo, uf, us, fi, ki, wt, ef, eb, di, ex, cf, cs, cm, lg, tx, le, rr, ro, fm, fL, ee, en, ye, lv, se, pg, ou)) : wpY_describe post (cc, rl, yn, cl, dt, df, pb, lo, uf, us, fi, ki, wt, ef, eb, di, ex, cf, cs, cm, lg, tx, le, rr, ro, fm, fL, ee, en, ye, lv, se, pg, ou) (nI c) 5 a b := by
  have v : vp_in (nI c) 48 := vp_in_nI hc (by decide)
  have e : (nI c).toNatClampNeg = c := nI_clamp (by omega)
  refine y_fit5 hc (fun z => ?_) h0
  exact br_f (by decide) (br_f (by decide) (br_f (by decide) (br_f (by decide) (br_f (by decide) (br_f (by decide) (br_f (by decide) (br_t rfl (⟨v, nm_r (by rw [e]) (br_f (by decide) (br_f (by decide) (br_f (by decide) (br_f (by decide) (br_f (by decide) (br_f (by decide) (br_f (by decide) (br_f (by decide) (h1 z)))))))))⟩))))))))
theorem y_d6 {post : Int32 → SY → Prop} {c : Nat} {a b : Int32} (hc : c < 48) (h1 : sc_W a 0 47 ∧ sc_W b (-1) 47 → post 1 (cc, rl, yn, cl, dt, df, pb, lo, upd uf c a, upd us c b, fi, ki, wt, ef, eb, di, ex, cf, cs, cm, lg, tx, le, rr, ro, fm, fL, ee, en, ye, lv, se, pg, ou)) (h0 : ¬ (sc_W a 0 47 ∧ sc_W b (-1) 47) → post 0 (cc, rl, yn, cl, dt, df, pb, lo, uf, us, fi, ki, wt, ef, eb, di, ex, cf, cs, cm, lg, tx, le, rr, ro, fm, fL, ee, en, ye, lv, se, pg, ou)) : wpY_describe post (cc, rl, yn, cl, dt, df, pb, lo, uf, us, fi, ki, wt, ef, eb, di, ex, cf, cs, cm, lg, tx, le, rr, ro, fm, fL, ee, en, ye, lv, se, pg, ou) (nI c) 6 a b := by
  have v : vp_in (nI c) 48 := vp_in_nI hc (by decide)
  have e : (nI c).toNatClampNeg = c := nI_clamp (by omega)
  refine y_fit6 hc (fun z => ?_) h0
  exact br_f (by decide) (br_f (by decide) (br_f (by decide) (br_f (by decide) (br_f (by decide) (br_f (by decide) (br_f (by decide) (br_f (by decide) (br_t rfl (⟨v, nm_r (by rw [e]) (⟨v, nm_r (by rw [e]) (br_f (by decide) (br_f (by decide) (br_f (by decide) (br_f (by decide) (br_f (by decide) (br_f (by decide) (br_f (by decide) (h1 z))))))))⟩)⟩)))))))))
theorem y_d7 {post : Int32 → SY → Prop} {c : Nat} {a b : Int32} (hc : c < 48) (h1 : sc_W a (-1) 47 → post 1 (cc, rl, yn, cl, dt, df, pb, lo, uf, us, upd fi c a, ki, wt, ef, eb, di, ex, cf, cs, cm, lg, tx, le, rr, ro, fm, fL, ee, en, ye, lv, se, pg, ou)) (h0 : ¬ (sc_W a (-1) 47) → post 0 (cc, rl, yn, cl, dt, df, pb, lo, uf, us, fi, ki, wt, ef, eb, di, ex, cf, cs, cm, lg, tx, le, rr, ro, fm, fL, ee, en, ye, lv, se, pg, ou)) : wpY_describe post (cc, rl, yn, cl, dt, df, pb, lo, uf, us, fi, ki, wt, ef, eb, di, ex, cf, cs, cm, lg, tx, le, rr, ro, fm, fL, ee, en, ye, lv, se, pg, ou) (nI c) 7 a b := by
  have v : vp_in (nI c) 48 := vp_in_nI hc (by decide)
  have e : (nI c).toNatClampNeg = c := nI_clamp (by omega)
  refine y_fit7 hc (fun z => ?_) h0
  exact br_f (by decide) (br_f (by decide) (br_f (by decide) (br_f (by decide) (br_f (by decide) (br_f (by decide) (br_f (by decide) (br_f (by decide) (br_f (by decide) (br_t rfl (⟨v, nm_r (by rw [e]) (br_f (by decide) (br_f (by decide) (br_f (by decide) (br_f (by decide) (br_f (by decide) (br_f (by decide) (h1 z)))))))⟩))))))))))
theorem y_d8 {post : Int32 → SY → Prop} {c : Nat} {a b : Int32} (hc : c < 48) (h1 : sc_W a 0 7 → post 1 (cc, rl, yn, cl, dt, df, pb, lo, uf, us, fi, upd ki c a, wt, ef, eb, di, ex, cf, cs, cm, lg, tx, le, rr, ro, fm, fL, ee, en, ye, lv, se, pg, ou)) (h0 : ¬ (sc_W a 0 7) → post 0 (cc, rl, yn, cl, dt, df, pb, lo, uf, us, fi, ki, wt, ef, eb, di, ex, cf, cs, cm, lg, tx, le, rr, ro, fm, fL, ee, en, ye, lv, se, pg, ou)) : wpY_describe post (cc, rl, yn, cl, dt, df, pb, lo, uf, us, fi, ki, wt, ef, eb, di, ex, cf, cs, cm, lg, tx, le, rr, ro, fm, fL, ee, en, ye, lv, se, pg, ou) (nI c) 8 a b := by
  have v : vp_in (nI c) 48 := vp_in_nI hc (by decide)
  have e : (nI c).toNatClampNeg = c := nI_clamp (by omega)
  refine y_fit8 hc (fun z => ?_) h0
  exact br_f (by decide) (br_f (by decide) (br_f (by decide) (br_f (by decide) (br_f (by decide) (br_f (by decide) (br_f (by decide) (br_f (by decide) (br_f (by decide) (br_f (by decide) (br_t rfl (⟨v, nm_r (by rw [e]) (br_f (by decide) (br_f (by decide) (br_f (by decide) (br_f (by decide) (br_f (by decide) (h1 z))))))⟩)))))))))))
theorem y_d9 {post : Int32 → SY → Prop} {c : Nat} {a b : Int32} (hc : c < 48) (h1 : sc_W a 0 99 ∧ sc_W b 0 99 → post 1 (cc, rl, yn, cl, dt, df, pb, lo, uf, us, fi, ki, upd (upd (upd wt (3 * c) a) (3 * c + 1) (b / 10)) (3 * c + 2) (b - b / 10 * 10), ef, eb, di, ex, cf, cs, cm, lg, tx, le, rr, ro, fm, fL, ee, en, ye, lv, se, pg, ou)) (h0 : ¬ (sc_W a 0 99 ∧ sc_W b 0 99) → post 0 (cc, rl, yn, cl, dt, df, pb, lo, uf, us, fi, ki, wt, ef, eb, di, ex, cf, cs, cm, lg, tx, le, rr, ro, fm, fL, ee, en, ye, lv, se, pg, ou)) : wpY_describe post (cc, rl, yn, cl, dt, df, pb, lo, uf, us, fi, ki, wt, ef, eb, di, ex, cf, cs, cm, lg, tx, le, rr, ro, fm, fL, ee, en, ye, lv, se, pg, ou) (nI c) 9 a b := by
  have v : vp_in (nI c) 48 := vp_in_nI hc (by decide)
  have e : (nI c).toNatClampNeg = c := nI_clamp (by omega)
  have e0 : 3 * nI c = nI (3 * c) := pk_mul 3 c
  have e1 : 3 * nI c + 1 = nI (3 * c + 1) := by rw [e0, nI_1]
  have e2 : 3 * nI c + 2 = nI (3 * c + 2) := by rw [e0]; exact nI_add _ 2
  refine y_fit9 hc (fun z => ?_) h0
  exact br_f (by decide) (br_f (by decide) (br_f (by decide) (br_f (by decide) (br_f (by decide) (br_f (by decide) (br_f (by decide) (br_f (by decide) (br_f (by decide) (br_f (by decide) (br_f (by decide) (br_t rfl ⟨pk_in (3 * c) 144 (by omega) e0, nm_r (by rw [e0, nI_clamp (by omega)]) ⟨by decide, pk_in (3 * c + 1) 144 (by omega) e1, nm_r (by rw [e1, nI_clamp (by omega)]) ⟨by decide, pk_in (3 * c + 2) 144 (by omega) e2, nm_r (by rw [e2, nI_clamp (by omega)]) (br_f (by decide) (br_f (by decide) (br_f (by decide) (br_f (by decide) (h1 z)))))⟩⟩⟩)))))))))))
theorem y_d10 {post : Int32 → SY → Prop} {c : Nat} {a b : Int32} (hc : c < 48) (h1 : sc_W a 0 47 ∧ sc_W b 0 47 → post 1 (cc, rl, yn, cl, dt, df, pb, lo, uf, us, fi, ki, wt, upd ef c a, upd eb c b, di, ex, cf, cs, cm, lg, tx, le, rr, ro, fm, fL, ee, en, ye, lv, se, pg, ou)) (h0 : ¬ (sc_W a 0 47 ∧ sc_W b 0 47) → post 0 (cc, rl, yn, cl, dt, df, pb, lo, uf, us, fi, ki, wt, ef, eb, di, ex, cf, cs, cm, lg, tx, le, rr, ro, fm, fL, ee, en, ye, lv, se, pg, ou)) : wpY_describe post (cc, rl, yn, cl, dt, df, pb, lo, uf, us, fi, ki, wt, ef, eb, di, ex, cf, cs, cm, lg, tx, le, rr, ro, fm, fL, ee, en, ye, lv, se, pg, ou) (nI c) 10 a b := by
  have v : vp_in (nI c) 48 := vp_in_nI hc (by decide)
  have e : (nI c).toNatClampNeg = c := nI_clamp (by omega)
  refine y_fit10 hc (fun z => ?_) h0
  exact br_f (by decide) (br_f (by decide) (br_f (by decide) (br_f (by decide) (br_f (by decide) (br_f (by decide) (br_f (by decide) (br_f (by decide) (br_f (by decide) (br_f (by decide) (br_f (by decide) (br_f (by decide) (br_t rfl (br_t rfl (⟨v, nm_r (by rw [e]) (br_t rfl (⟨v, nm_r (by rw [e]) (br_f (by decide) (h1 z))⟩))⟩))))))))))))))
theorem y_d11 {post : Int32 → SY → Prop} {c : Nat} {a b : Int32} (hc : c < 48) (h1 : True → post 1 (cc, rl, yn, cl, dt, df, pb, lo, uf, us, fi, ki, wt, upd ef c (-1), eb, di, ex, cf, cs, cm, lg, tx, le, rr, ro, fm, fL, ee, en, ye, lv, se, pg, ou)) (h0 : ¬ (True) → post 0 (cc, rl, yn, cl, dt, df, pb, lo, uf, us, fi, ki, wt, ef, eb, di, ex, cf, cs, cm, lg, tx, le, rr, ro, fm, fL, ee, en, ye, lv, se, pg, ou)) : wpY_describe post (cc, rl, yn, cl, dt, df, pb, lo, uf, us, fi, ki, wt, ef, eb, di, ex, cf, cs, cm, lg, tx, le, rr, ro, fm, fL, ee, en, ye, lv, se, pg, ou) (nI c) 11 a b := by
  have v : vp_in (nI c) 48 := vp_in_nI hc (by decide)
  have e : (nI c).toNatClampNeg = c := nI_clamp (by omega)
  refine y_fit11 hc (fun z => ?_) h0
  exact br_f (by decide) (br_f (by decide) (br_f (by decide) (br_f (by decide) (br_f (by decide) (br_f (by decide) (br_f (by decide) (br_f (by decide) (br_f (by decide) (br_f (by decide) (br_f (by decide) (br_f (by decide) (br_f (by decide) (br_t rfl (br_f (by decide) (⟨v, nm_r (by rw [e]) (br_f (by decide) (br_f (by decide) (h1 z)))⟩)))))))))))))))
theorem y_d14 {post : Int32 → SY → Prop} {c : Nat} {a b : Int32} (hc : c < 48) (h1 : sc_W a 0 6 → post 1 (cc, rl, yn, cl, dt, df, pb, lo, uf, us, fi, ki, wt, ef, eb, upd di c a, ex, cf, cs, cm, lg, tx, le, rr, ro, fm, fL, ee, en, ye, lv, se, pg, ou)) (h0 : ¬ (sc_W a 0 6) → post 0 (cc, rl, yn, cl, dt, df, pb, lo, uf, us, fi, ki, wt, ef, eb, di, ex, cf, cs, cm, lg, tx, le, rr, ro, fm, fL, ee, en, ye, lv, se, pg, ou)) : wpY_describe post (cc, rl, yn, cl, dt, df, pb, lo, uf, us, fi, ki, wt, ef, eb, di, ex, cf, cs, cm, lg, tx, le, rr, ro, fm, fL, ee, en, ye, lv, se, pg, ou) (nI c) 14 a b := by
  have v : vp_in (nI c) 48 := vp_in_nI hc (by decide)
  have e : (nI c).toNatClampNeg = c := nI_clamp (by omega)
  refine y_fit14 hc (fun z => ?_) h0
  exact br_f (by decide) (br_f (by decide) (br_f (by decide) (br_f (by decide) (br_f (by decide) (br_f (by decide) (br_f (by decide) (br_f (by decide) (br_f (by decide) (br_f (by decide) (br_f (by decide) (br_f (by decide) (br_f (by decide) (br_f (by decide) (br_f (by decide) (br_t rfl (⟨v, nm_r (by rw [e]) (h1 z)⟩))))))))))))))))
theorem y_dN {post : Int32 → SY → Prop} {c : Nat} {w a b : Int32} (hc : c < 48) (hw : w < 0 ∨ ¬ w < 0 ∧ 14 < w) (h : post 0 (cc, rl, yn, cl, dt, df, pb, lo, uf, us, fi, ki, wt, ef, eb, di, ex, cf, cs, cm, lg, tx, le, rr, ro, fm, fL, ee, en, ye, lv, se, pg, ou)) : wpY_describe post (cc, rl, yn, cl, dt, df, pb, lo, uf, us, fi, ki, wt, ef, eb, di, ex, cf, cs, cm, lg, tx, le, rr, ro, fm, fL, ee, en, ye, lv, se, pg, ou) (nI c) w a b := by
  unfold wpY_describe
  exact ys_char1 hc (br_f (by decide) (ys_in (fun z => absurd hw (fun y => y.elim z.1 (fun x => z.2 x.2))) (fun _ => br_t rfl h)))
theorem y_dC {post : Int32 → SY → Prop} {c w a b : Int32} (hc : c < 0 ∨ ¬ c < 0 ∧ 48 ≤ c) (h : post 0 (cc, rl, yn, cl, dt, df, pb, lo, uf, us, fi, ki, wt, ef, eb, di, ex, cf, cs, cm, lg, tx, le, rr, ro, fm, fL, ee, en, ye, lv, se, pg, ou)) : wpY_describe post (cc, rl, yn, cl, dt, df, pb, lo, uf, us, fi, ki, wt, ef, eb, di, ex, cf, cs, cm, lg, tx, le, rr, ro, fm, fL, ee, en, ye, lv, se, pg, ou) c w a b := by
  unfold wpY_describe
  exact ys_char0 hc (br_t rfl h)
end
end
section
/-! contractions -/
def sc_fc (cf cs : Nat → Int32) (x y : Int32) : Nat → Nat → Int32
  | 0, _ => -1
  | d + 1, i => if cf i = x ∧ cs i = y then nI i else sc_fc cf cs x y d (i + 1)
theorem sc_fcR (cf cs : Nat → Int32) (x y : Int32) : ∀ d i, sc_fc cf cs x y d i = -1 ∨ ∃ j, j < i + d ∧ sc_fc cf cs x y d i = nI j := by
  intro d
  induction d with
  | zero => exact fun i => Or.inl rfl
  | succ d ih =>
    intro i
    unfold sc_fc
    by_cases h : cf i = x ∧ cs i = y
    · rw [if_pos h]; exact Or.inr ⟨i, by omega, rfl⟩
    · rw [if_neg h]
      rcases ih (i + 1) with e | ⟨j, hj, e⟩
      · exact Or.inl e
      · exact Or.inr ⟨j, by omega, e⟩
section
variable {cc rl wl : Int32} {cl dt df ds ex lo uf us fi ki ef es di we cf cs cm tx le rr wk sh fo fl el ec ke kl em oe be pl po : Nat → Int32}
theorem x_fc_l {post : Int32 → Prop} {m : Nat} {x y : Int32} (hm : m ≤ 6) : ∀ d i, i + d = m → post (sc_fc cf cs x y d i) → wX_findContraction_2 post x y (nI m) rl wl cl dt df ds ex lo uf us fi ki ef es di we cf cs cm tx le rr wk sh fo fl el ec ke kl em oe be pl po (d + 1) (nI i) := by
  intro d
  induction d with
  | zero => exact fun i hi h => br_t (nI_le (by omega) (by omega)) h
  | succ d ih =>
    intro i hi h
    have c : (nI i).toNatClampNeg = i := nI_clamp (by omega)
    have v : vp_in (nI i) 6 := vp_in_nI (by omega) (by decide)
    unfold sc_fc at h
    refine br_f (nI_ge (by omega) (by omega)) ⟨v, br_c (fun z => ⟨v, br_c (fun w => ?_) (fun w => nm_r (nI_1 i) (ih (i + 1) (by omega) ?_))⟩) (fun z => nm_r (nI_1 i) (ih (i + 1) (by omega) ?_))⟩
    · rw [c] at z w; rw [if_pos ⟨z, w⟩] at h; exact h
    · rw [c] at z w; rw [if_neg (fun q => w q.2)] at h; exact h
    · rw [c] at z; rw [if_neg (fun q => z q.1)] at h; exact h
theorem x_fc {post : Int32 → Prop} {m : Nat} {x y : Int32} (hm : m ≤ 6) (h : post (sc_fc cf cs x y m 0)) : wpX_findContraction post (nI m, rl, wl, cl, dt, df, ds, ex, lo, uf, us, fi, ki, ef, es, di, we, cf, cs, cm, tx, le, rr, wk, sh, fo, fl, el, ec, ke, kl, em, oe, be, pl, po) x y := ⟨m + 1, x_fc_l hm m 0 (by omega) h⟩
theorem x_sc41 {post : Int32 → SX → Prop} {k : Nat} {x y z : Int32} (hk : k < 6) (h : post 1 (cc, rl, wl, cl, dt, df, ds, ex, lo, uf, us, fi, ki, ef, es, di, we, upd cf k x, upd cs k y, upd cm k z, tx, le, rr, wk, sh, fo, fl, el, ec, ke, kl, em, oe, be, pl, po)) : wX_setContraction_41 post x y z (nI k) cc rl wl cl dt df ds ex lo uf us fi ki ef es di we cf cs cm tx le rr wk sh fo fl el ec ke kl em oe be pl po := by
  have v : vp_in (nI k) 6 := vp_in_nI hk (by decide)
  have e : (nI k).toNatClampNeg = k := nI_clamp (by omega)
  exact ⟨v, nm_r (by rw [e]) ⟨v, nm_r (by rw [e]) ⟨v, nm_r (by rw [e]) h⟩⟩⟩
theorem x_sc {post : Int32 → SX → Prop} {m : Nat} {x y z : Int32} (hm : m ≤ 6)
    (hn : sc_fc cf cs x y m 0 = -1 → m < 6 → post 1 (nI (m + 1), rl, wl, cl, dt, df, ds, ex, lo, uf, us, fi, ki, ef, es, di, we, upd cf m x, upd cs m y, upd cm m z, tx, le, rr, wk, sh, fo, fl, el, ec, ke, kl, em, oe, be, pl, po))
    (h0 : sc_fc cf cs x y m 0 = -1 → m = 6 → post 0 (nI m, rl, wl, cl, dt, df, ds, ex, lo, uf, us, fi, ki, ef, es, di, we, cf, cs, cm, tx, le, rr, wk, sh, fo, fl, el, ec, ke, kl, em, oe, be, pl, po))
    (ho : ∀ k, k < m → sc_fc cf cs x y m 0 = nI k → post 1 (nI m, rl, wl, cl, dt, df, ds, ex, lo, uf, us, fi, ki, ef, es, di, we, upd cf k x, upd cs k y, upd cm k z, tx, le, rr, wk, sh, fo, fl, el, ec, ke, kl, em, oe, be, pl, po)) : wpX_setContraction post (nI m, rl, wl, cl, dt, df, ds, ex, lo, uf, us, fi, ki, ef, es, di, we, cf, cs, cm, tx, le, rr, wk, sh, fo, fl, el, ec, ke, kl, em, oe, be, pl, po) x y z := by
  unfold wpX_setContraction
  refine x_fc hm ?_
  rcases sc_fcR cf cs x y m 0 with e | ⟨j, hj, e⟩
  · refine br_t e ?_
    by_cases h6 : m < 6
    · exact br_t (nI_lt (b := 6) h6 (by decide)) (nm_r (nI_1 m) (x_sc41 h6 (hn e h6)))
    · exact br_f (nI_nlt (b := 6) (by omega) (by omega)) (h0 e (by omega))
  · rw [e]
    exact br_f (fun z => absurd (z ▸ nI_pos (n := j) (by omega)) (by decide)) (x_sc41 (by omega) (ho j (by omega) e))
theorem x_rc {post : SX → Prop} {m : Nat} {x y : Int32} (hm : m ≤ 6)
    (hn : sc_fc cf cs x y m 0 = -1 → post (nI m, rl, wl, cl, dt, df, ds, ex, lo, uf, us, fi, ki, ef, es, di, we, cf, cs, cm, tx, le, rr, wk, sh, fo, fl, el, ec, ke, kl, em, oe, be, pl, po))
    (ho : ∀ k, k < m → sc_fc cf cs x y m 0 = nI k → post (nI (m - 1), rl, wl, cl, dt, df, ds, ex, lo, uf, us, fi, ki, ef, es, di, we, upd cf k (cf (m - 1)), upd cs k (cs (m - 1)), upd cm k (cm (m - 1)), tx, le, rr, wk, sh, fo, fl, el, ec, ke, kl, em, oe, be, pl, po)) : wpX_removeContraction post (nI m, rl, wl, cl, dt, df, ds, ex, lo, uf, us, fi, ki, ef, es, di, we, cf, cs, cm, tx, le, rr, wk, sh, fo, fl, el, ec, ke, kl, em, oe, be, pl, po) x y := by
  unfold wpX_removeContraction
  refine x_fc hm ?_
  rcases sc_fcR cf cs x y m 0 with e | ⟨j, hj, e⟩
  · exact br_t e (hn e)
  · rw [e]
    obtain ⟨m, rfl⟩ : ∃ q, m = q + 1 := ⟨m - 1, by omega⟩
    have v : vp_in (nI j) 6 := vp_in_nI (by omega) (by decide)
    have c : (nI j).toNatClampNeg = j := nI_clamp (by omega)
    have v' : vp_in (nI m) 6 := vp_in_nI (by omega) (by decide)
    have c' : (nI m).toNatClampNeg = m := nI_clamp (by omega)
    exact br_f (fun z => absurd (z ▸ nI_pos (n := j) (by omega)) (by decide)) (nm_r (nI_pred m) ⟨v', v, nm_r (by rw [c, c', Nat.add_sub_cancel]) ⟨v', v, nm_r (by rw [c, c', Nat.add_sub_cancel]) ⟨v', v, nm_r (by rw [c, c', Nat.add_sub_cancel]) (ho j (by omega) e)⟩⟩⟩)
theorem x_d12 {post : Int32 → SX → Prop} {c : Nat} {a b : Int32} {m : Nat} (hm : m ≤ 6) (hc : c < 48)
    (hn : sc_W a 0 47 ∧ sc_W b 0 47 → sc_fc cf cs (nI c) a m 0 = -1 → m < 6 → post 1 (nI (m + 1), rl, wl, cl, dt, df, ds, ex, lo, uf, us, fi, ki, ef, es, di, we, upd cf m (nI c), upd cs m a, upd cm m b, tx, le, rr, wk, sh, fo, fl, el, ec, ke, kl, em, oe, be, pl, po))
    (hf : sc_W a 0 47 ∧ sc_W b 0 47 → sc_fc cf cs (nI c) a m 0 = -1 → m = 6 → post 0 (nI m, rl, wl, cl, dt, df, ds, ex, lo, uf, us, fi, ki, ef, es, di, we, cf, cs, cm, tx, le, rr, wk, sh, fo, fl, el, ec, ke, kl, em, oe, be, pl, po))
    (ho : sc_W a 0 47 ∧ sc_W b 0 47 → ∀ k, k < m → sc_fc cf cs (nI c) a m 0 = nI k → post 1 (nI m, rl, wl, cl, dt, df, ds, ex, lo, uf, us, fi, ki, ef, es, di, we, upd cf k (nI c), upd cs k a, upd cm k b, tx, le, rr, wk, sh, fo, fl, el, ec, ke, kl, em, oe, be, pl, po))
    (h0 : ¬ (sc_W a 0 47 ∧ sc_W b 0 47) → post 0 (nI m, rl, wl, cl, dt, df, ds, ex, lo, uf, us, fi, ki, ef, es, di, we, cf, cs, cm, tx, le, rr, wk, sh, fo, fl, el, ec, ke, kl, em, oe, be, pl, po)) : wpX_describe post (nI m, rl, wl, cl, dt, df, ds, ex, lo, uf, us, fi, ki, ef, es, di, we, cf, cs, cm, tx, le, rr, wk, sh, fo, fl, el, ec, ke, kl, em, oe, be, pl, po) (nI c) 12 a b := by
  unfold wpX_describe
  refine xs_char1 hc (br_f (by decide) (x_fit12 (fun z => br_f (by decide) (br_f (by decide) (br_f (by decide) (br_t rfl ?_)))) (fun z => br_t rfl (h0 z))))
  exact x_sc hm (fun p q => ⟨rfl, hn z p q⟩) (fun p q => ⟨rfl, hf z p q⟩) (fun k p q => ⟨rfl, ho z k p q⟩)
theorem x_d13 {post : Int32 → SX → Prop} {c : Nat} {a b : Int32} {m : Nat} (hm : m ≤ 6) (hc : c < 48)
    (hn : sc_W a 0 47 → sc_fc cf cs (nI c) a m 0 = -1 → post 1 (nI m, rl, wl, cl, dt, df, ds, ex, lo, uf, us, fi, ki, ef, es, di, we, cf, cs, cm, tx, le, rr, wk, sh, fo, fl, el, ec, ke, kl, em, oe, be, pl, po))
    (ho : sc_W a 0 47 → ∀ k, k < m → sc_fc cf cs (nI c) a m 0 = nI k → post 1 (nI (m - 1), rl, wl, cl, dt, df, ds, ex, lo, uf, us, fi, ki, ef, es, di, we, upd cf k (cf (m - 1)), upd cs k (cs (m - 1)), upd cm k (cm (m - 1)), tx, le, rr, wk, sh, fo, fl, el, ec, ke, kl, em, oe, be, pl, po))
    (h0 : ¬ sc_W a 0 47 → post 0 (nI m, rl, wl, cl, dt, df, ds, ex, lo, uf, us, fi, ki, ef, es, di, we, cf, cs, cm, tx, le, rr, wk, sh, fo, fl, el, ec, ke, kl, em, oe, be, pl, po)) : wpX_describe post (nI m, rl, wl, cl, dt, df, ds, ex, lo, uf, us, fi, ki, ef, es, di, we, cf, cs, cm, tx, le, rr, wk, sh, fo, fl, el, ec, ke, kl, em, oe, be, pl, po) (nI c) 13 a b := by
  unfold wpX_describe
  refine xs_char1 hc (br_f (by decide) (x_fit13 (fun z => br_f (by decide) (br_f (by decide) (br_f (by decide) (br_f (by decide) (br_t rfl ?_))))) (fun z => br_t rfl (h0 z))))
  exact x_rc hm (fun p => hn z p) (fun k p q => ho z k p q)
end
section
variable {cc rl yn : Int32} {cl dt df pb lo uf us fi ki wt ef eb di ex cf cs cm lg tx le rr ro fm fL ee en ye lv se pg ou : Nat → Int32}
theorem y_fc_l {post : Int32 → Prop} {m : Nat} {x y : Int32} (hm : m ≤ 6) : ∀ d i, i + d = m → post (sc_fc cf cs x y d i) → wY_contraction_2 post x y (nI m) rl yn cl dt df pb lo uf us fi ki wt ef eb di ex cf cs cm lg tx le rr ro fm fL ee en ye lv se pg ou (d + 1) (nI i) := by
  intro d
  induction d with
  | zero => exact fun i hi h => br_t (nI_le (by omega) (by omega)) h
  | succ d ih =>
    intro i hi h
    have c : (nI i).toNatClampNeg = i := nI_clamp (by omega)
    have v : vp_in (nI i) 6 := vp_in_nI (by omega) (by decide)
    unfold sc_fc at h
    refine br_f (nI_ge (by omega) (by omega)) ⟨v, br_c (fun z => ⟨v, br_c (fun w => ?_) (fun w => nm_r (nI_1 i) (ih (i + 1) (by omega) ?_))⟩) (fun z => nm_r (nI_1 i) (ih (i + 1) (by omega) ?_))⟩
    · rw [c] at z w; rw [if_pos ⟨z, w⟩] at h; exact h
    · rw [c] at z w; rw [if_neg (fun q => w q.2)] at h; exact h
    · rw [c] at z; rw [if_neg (fun q => z q.1)] at h; exact h
theorem y_fc {post : Int32 → Prop} {m : Nat} {x y : Int32} (hm : m ≤ 6) (h : post (sc_fc cf cs x y m 0)) : wpY_contraction post (nI m, rl, yn, cl, dt, df, pb, lo, uf, us, fi, ki, wt, ef, eb, di, ex, cf, cs, cm, lg, tx, le, rr, ro, fm, fL, ee, en, ye, lv, se, pg, ou) x y := ⟨m + 1, y_fc_l hm m 0 (by omega) h⟩
theorem y_c52 {post : Int32 → SY → Prop} {k : Nat} {x y z : Int32} (hk : k < 6) (h : post 1 (cc, rl, yn, cl, dt, df, pb, lo, uf, us, fi, ki, wt, ef, eb, di, ex, upd cf k x, upd cs k y, upd cm k z, lg, tx, le, rr, ro, fm, fL, ee, en, ye, lv, se, pg, ou)) : wY_contract_52 post x y z 1 (nI k) cc rl yn cl dt df pb lo uf us fi ki wt ef eb di ex cf cs cm lg tx le rr ro fm fL ee en ye lv se pg ou := by
  have v : vp_in (nI k) 6 := vp_in_nI hk (by decide)
  have e : (nI k).toNatClampNeg = k := nI_clamp (by omega)
  exact br_f (by decide) ⟨v, nm_r (by rw [e]) ⟨v, nm_r (by rw [e]) ⟨v, nm_r (by rw [e]) h⟩⟩⟩
theorem y_sc {post : Int32 → SY → Prop} {m : Nat} {x y z : Int32} (hm : m ≤ 6)
    (hn : sc_fc cf cs x y m 0 = -1 → m < 6 → post 1 (nI (m + 1), rl, yn, cl, dt, df, pb, lo, uf, us, fi, ki, wt, ef, eb, di, ex, upd cf m x, upd cs m y, upd cm m z, lg, tx, le, rr, ro, fm, fL, ee, en, ye, lv, se, pg, ou))
    (h0 : sc_fc cf cs x y m 0 = -1 → m = 6 → post 0 (nI m, rl, yn, cl, dt, df, pb, lo, uf, us, fi, ki, wt, ef, eb, di, ex, cf, cs, cm, lg, tx, le, rr, ro, fm, fL, ee, en, ye, lv, se, pg, ou))
    (ho : ∀ k, k < m → sc_fc cf cs x y m 0 = nI k → post 1 (nI m, rl, yn, cl, dt, df, pb, lo, uf, us, fi, ki, wt, ef, eb, di, ex, upd cf k x, upd cs k y, upd cm k z, lg, tx, le, rr, ro, fm, fL, ee, en, ye, lv, se, pg, ou)) : wpY_contract post (nI m, rl, yn, cl, dt, df, pb, lo, uf, us, fi, ki, wt, ef, eb, di, ex, cf, cs, cm, lg, tx, le, rr, ro, fm, fL, ee, en, ye, lv, se, pg, ou) x y z 1 := by
  unfold wpY_contract
  refine y_fc hm ?_
  rcases sc_fcR cf cs x y m 0 with e | ⟨j, hj, e⟩
  · rw [e]
    refine br_f (by decide) (br_f (by decide) ?_)
    by_cases h6 : m < 6
    · exact br_f (fun z => by have := (nI_eq (b := 6) (by omega) (by decide)).mp z; omega) (br_f (by decide) (br_f (by decide) (nm_r (nI_1 m) (y_c52 h6 (hn e h6)))))
    · exact br_t (by rw [show m = 6 by omega]; rfl) (h0 e (by omega))
  · rw [e]
    exact br_f (by decide) (br_t (nI_pos' (by omega)) (br_f (by decide) (br_t (nI_pos' (by omega)) (y_c52 (by omega) (ho j (by omega) e)))))
theorem y_rc {post : Int32 → SY → Prop} {m : Nat} {x y z : Int32} (hm : m ≤ 6)
    (hn : sc_fc cf cs x y m 0 = -1 → post 1 (nI m, rl, yn, cl, dt, df, pb, lo, uf, us, fi, ki, wt, ef, eb, di, ex, cf, cs, cm, lg, tx, le, rr, ro, fm, fL, ee, en, ye, lv, se, pg, ou))
    (ho : ∀ k, k < m → sc_fc cf cs x y m 0 = nI k → post 1 (nI (m - 1), rl, yn, cl, dt, df, pb, lo, uf, us, fi, ki, wt, ef, eb, di, ex, upd cf k (cf (m - 1)), upd cs k (cs (m - 1)), upd cm k (cm (m - 1)), lg, tx, le, rr, ro, fm, fL, ee, en, ye, lv, se, pg, ou)) : wpY_contract post (nI m, rl, yn, cl, dt, df, pb, lo, uf, us, fi, ki, wt, ef, eb, di, ex, cf, cs, cm, lg, tx, le, rr, ro, fm, fL, ee, en, ye, lv, se, pg, ou) x y z 0 := by
  unfold wpY_contract
  refine y_fc hm ?_
  rcases sc_fcR cf cs x y m 0 with e | ⟨j, hj, e⟩
  · rw [e]
    exact br_t rfl (br_t rfl (br_t rfl (br_t (by decide) (hn e))))
  · rw [e]
    obtain ⟨m, rfl⟩ : ∃ q, m = q + 1 := ⟨m - 1, by omega⟩
    have v : vp_in (nI j) 6 := vp_in_nI (by omega) (by decide)
    have c : (nI j).toNatClampNeg = j := nI_clamp (by omega)
    have v' : vp_in (nI m) 6 := vp_in_nI (by omega) (by decide)
    have c' : (nI m).toNatClampNeg = m := nI_clamp (by omega)
    exact br_t rfl (br_t rfl (br_t rfl (br_f (nI_pos (by omega)) (nm_r (nI_pred m) ⟨v', v, nm_r (by rw [c, c', Nat.add_sub_cancel]) ⟨v', v, nm_r (by rw [c, c', Nat.add_sub_cancel]) ⟨v', v, nm_r (by rw [c, c', Nat.add_sub_cancel]) (ho j (by omega) e)⟩⟩⟩))))
theorem y_d12 {post : Int32 → SY → Prop} {c : Nat} {a b : Int32} {m : Nat} (hm : m ≤ 6) (hc : c < 48)
    (hn : sc_W a 0 47 ∧ sc_W b 0 47 → sc_fc cf cs (nI c) a m 0 = -1 → m < 6 → post 1 (nI (m + 1), rl, yn, cl, dt, df, pb, lo, uf, us, fi, ki, wt, ef, eb, di, ex, upd cf m (nI c), upd cs m a, upd cm m b, lg, tx, le, rr, ro, fm, fL, ee, en, ye, lv, se, pg, ou))
    (hf : sc_W a 0 47 ∧ sc_W b 0 47 → sc_fc cf cs (nI c) a m 0 = -1 → m = 6 → post 0 (nI m, rl, yn, cl, dt, df, pb, lo, uf, us, fi, ki, wt, ef, eb, di, ex, cf, cs, cm, lg, tx, le, rr, ro, fm, fL, ee, en, ye, lv, se, pg, ou))
    (ho : sc_W a 0 47 ∧ sc_W b 0 47 → ∀ k, k < m → sc_fc cf cs (nI c) a m 0 = nI k → post 1 (nI m, rl, yn, cl, dt, df, pb, lo, uf, us, fi, ki, wt, ef, eb, di, ex, upd cf k (nI c), upd cs k a, upd cm k b, lg, tx, le, rr, ro, fm, fL, ee, en, ye, lv, se, pg, ou))
    (h0 : ¬ (sc_W a 0 47 ∧ sc_W b 0 47) → post 0 (nI m, rl, yn, cl, dt, df, pb, lo, uf, us, fi, ki, wt, ef, eb, di, ex, cf, cs, cm, lg, tx, le, rr, ro, fm, fL, ee, en, ye, lv, se, pg, ou)) : wpY_describe post (nI m, rl, yn, cl, dt, df, pb, lo, uf, us, fi, ki, wt, ef, eb, di, ex, cf, cs, cm, lg, tx, le, rr, ro, fm, fL, ee, en, ye, lv, se, pg, ou) (nI c) 12 a b := by
  refine y_fit12 hc (fun z => br_f (by decide) (br_f (by decide) (br_t rfl (br_t rfl ?_)))) h0
  unfold wY_describe_233
  exact y_sc hm (fun p q => ⟨rfl, hn z p q⟩) (fun p q => ⟨rfl, hf z p q⟩) (fun k p q => ⟨rfl, ho z k p q⟩)
theorem y_d13 {post : Int32 → SY → Prop} {c : Nat} {a b : Int32} {m : Nat} (hm : m ≤ 6) (hc : c < 48)
    (hn : sc_W a 0 47 → sc_fc cf cs (nI c) a m 0 = -1 → post 1 (nI m, rl, yn, cl, dt, df, pb, lo, uf, us, fi, ki, wt, ef, eb, di, ex, cf, cs, cm, lg, tx, le, rr, ro, fm, fL, ee, en, ye, lv, se, pg, ou))
    (ho : sc_W a 0 47 → ∀ k, k < m → sc_fc cf cs (nI c) a m 0 = nI k → post 1 (nI (m - 1), rl, yn, cl, dt, df, pb, lo, uf, us, fi, ki, wt, ef, eb, di, ex, upd cf k (cf (m - 1)), upd cs k (cs (m - 1)), upd cm k (cm (m - 1)), lg, tx, le, rr, ro, fm, fL, ee, en, ye, lv, se, pg, ou))
    (h0 : ¬ sc_W a 0 47 → post 0 (nI m, rl, yn, cl, dt, df, pb, lo, uf, us, fi, ki, wt, ef, eb, di, ex, cf, cs, cm, lg, tx, le, rr, ro, fm, fL, ee, en, ye, lv, se, pg, ou)) : wpY_describe post (nI m, rl, yn, cl, dt, df, pb, lo, uf, us, fi, ki, wt, ef, eb, di, ex, cf, cs, cm, lg, tx, le, rr, ro, fm, fL, ee, en, ye, lv, se, pg, ou) (nI c) 13 a b := by
  refine y_fit13 hc (fun z => br_f (by decide) (br_f (by decide) (br_f (by decide) (br_t rfl (br_f (by decide) ?_))))) h0
  unfold wY_describe_233
  exact y_rc hm (fun p => ⟨rfl, hn z p⟩) (fun k p q => ⟨rfl, ho z k p q⟩)
end
end
section
/-! setting a decomposition: shares on both sides against one recurrence -/
def sc_sv (dt df ds s : Nat → Int32) (k : Nat) : Int32 := if dt k = 0 then 1 else if ds k = -1 then s (df k).toNatClampNeg else s (df k).toNatClampNeg + s (ds k).toNatClampNeg
def sc_sa (dt df ds : Nat → Int32) : Nat → Nat → Int32
  | 0 => fun _ => 0
  | k + 1 => upd (sc_sa dt df ds k) k (sc_sv dt df ds (sc_sa dt df ds k) k)
def sc_T (dt df ds : Nat → Int32) (j : Nat) : Int32 := sc_sa dt df ds (j + 1) j
def sc_SD (dt df ds : Nat → Int32) : Prop := ∀ i, i < 48 → ¬ dt i = 0 → (∃ j, j < i ∧ df i = nI j) ∧ (ds i = -1 ∨ ∃ j, j < i ∧ ds i = nI j)
theorem sc_saT (dt df ds : Nat → Int32) : ∀ k j, j < k → sc_sa dt df ds k j = sc_T dt df ds j := by
  intro k
  induction k with
  | zero => intro j h; omega
  | succ k ih =>
    intro j h
    by_cases e : j = k
    · subst e; rfl
    · exact (pk_un e).trans (ih j (by omega))
theorem sc_svT {dt df ds s : Nat → Int32} {k : Nat} (sd : sc_SD dt df ds) (hk : k < 48) (h : ∀ j, j < k → s j = sc_T dt df ds j) : sc_sv dt df ds s k = sc_T dt df ds k := by
  have e : sc_T dt df ds k = sc_sv dt df ds (sc_sa dt df ds k) k := pk_us
  rw [e]
  unfold sc_sv
  by_cases h0 : dt k = 0
  · rw [if_pos h0, if_pos h0]
  · rw [if_neg h0, if_neg h0]
    obtain ⟨⟨j, hj, ej⟩, h2⟩ := sd k hk h0
    rw [ej, nI_clamp (by omega), h j hj, sc_saT _ _ _ k j hj]
    rcases h2 with h2 | ⟨i, hi, ei⟩
    · rw [if_pos h2, if_pos h2]
    · rw [ei, nI_clamp (by omega), h i hi, sc_saT _ _ _ k i hi]
theorem sc_m1 (j : Nat) (hj : j < 2 ^ 31) : ¬ nI j = -1 := fun z => absurd (z ▸ nI_pos hj) (by decide)
theorem sc_Tn {dt df ds : Nat → Int32} (sd : sc_SD dt df ds) (h4 : ∀ j, j < 48 → sc_T dt df ds j ≤ 4) : ∀ N k, k < N → k < 48 → ∃ l : Nat, 1 ≤ l ∧ l ≤ 4 ∧ sc_T dt df ds k = nI l := by
  intro N
  induction N with
  | zero => intro k h; omega
  | succ N ih =>
    intro k hN hk
    have e := sc_svT (s := sc_T dt df ds) sd hk (fun j _ => rfl)
    have h := h4 k hk
    rw [← e] at h ⊢
    unfold sc_sv at h ⊢
    by_cases h0 : dt k = 0
    · rw [if_pos h0]; exact ⟨1, by omega, by omega, rfl⟩
    · rw [if_neg h0] at h ⊢
      obtain ⟨⟨j, hj, ej⟩, h2⟩ := sd k hk h0
      obtain ⟨l, l1, l2, el⟩ := ih j (by omega) (by omega)
      rw [ej, nI_clamp (by omega), el] at h ⊢
      rcases h2 with h2 | ⟨i, hi, ei⟩
      · rw [if_pos h2]; exact ⟨l, l1, l2, rfl⟩
      · obtain ⟨l', l1', l2', el'⟩ := ih i (by omega) (by omega)
        rw [ei, if_neg (sc_m1 i (by omega)), nI_clamp (by omega), el', nI_add] at h ⊢
        exact ⟨l + l', by omega, (nI_leI (b := 4) (by omega) (by decide)).mp h, rfl⟩
theorem sc_TL {dt df ds : Nat → Int32} (sd : sc_SD dt df ds) (h4 : ∀ j, j < 48 → sc_T dt df ds j ≤ 4) : ∃ L, sc_Pot dt df ds L := by
  have key : ∀ k, k < 48 → ∃ l : Nat, 1 ≤ l ∧ l ≤ 4 ∧ sc_T dt df ds k = nI l := fun k hk => sc_Tn sd h4 48 k hk hk
  refine ⟨fun j => if j < 48 then (sc_T dt df ds j).toNatClampNeg else 1, ?_, ?_⟩
  · intro i
    by_cases hi : i < 48
    · obtain ⟨l, l1, l2, e⟩ := key i hi
      simp only [if_pos hi, e, nI_clamp (show l < 2 ^ 31 by omega)]
      exact ⟨l1, l2⟩
    · simp only [if_neg hi]; omega
  · intro k hk h0
    have e := sc_svT (s := sc_T dt df ds) sd hk (fun j _ => rfl)
    unfold sc_sv at e
    rw [if_neg h0] at e
    obtain ⟨⟨j, hj, ej⟩, h2⟩ := sd k hk h0
    obtain ⟨l, l1, l2, el⟩ := key j (by omega)
    have hj48 : j < 48 := by omega
    rw [ej, nI_clamp (by omega), el] at e
    rw [ej, nI_clamp (by omega)]
    rcases h2 with h2 | ⟨i, hi, ei⟩
    · rw [if_pos h2] at e
      rw [if_pos h2]
      simp only [if_pos hk, if_pos hj48, ← e, el]
      omega
    · obtain ⟨l', l1', l2', el'⟩ := key i (by omega)
      have hi48 : i < 48 := by omega
      rw [ei, if_neg (sc_m1 i (by omega)), nI_clamp (by omega), el', nI_add] at e
      rw [ei, if_neg (sc_m1 i (by omega)), nI_clamp (by omega)]
      simp only [if_pos hk, if_pos hj48, if_pos hi48, ← e, el, el', nI_clamp (show l + l' < 2 ^ 31 by omega), nI_clamp (show l < 2 ^ 31 by omega), nI_clamp (show l' < 2 ^ 31 by omega)]
      omega
theorem sc_back (f : Nat → Int32) (c : Nat) (x : Int32) : upd (upd f c x) c (f c) = f := by
  funext j
  unfold upd
  by_cases e : j = c
  · rw [if_pos e, e]
  · rw [if_neg e, if_neg e]
section
variable {cc rl wl : Int32} {cl dt df ds ex lo uf us fi ki ef es di we cf cs cm tx le rr wk sh fo fl el ec ke kl em oe be pl po : Nat → Int32}
theorem x_shareOf {post : Int32 → Prop} {p q : Int32} (hp : vp_in p 48) (hq : q = -1 ∨ vp_in q 48) (h : post (if q = -1 then sh p.toNatClampNeg else sh p.toNatClampNeg + sh q.toNatClampNeg)) : wpX_shareOf post (cc, rl, wl, cl, dt, df, ds, ex, lo, uf, us, fi, ki, ef, es, di, we, cf, cs, cm, tx, le, rr, wk, sh, fo, fl, el, ec, ke, kl, em, oe, be, pl, po) p q := by
  refine br_c (fun z => ⟨hp, ?_⟩) (fun z => ⟨hp, hq.elim (fun y => absurd y z) id, ?_⟩)
  · rw [if_pos z] at h; exact h
  · rw [if_neg z] at h; exact h
theorem x_sh_l {post : Int32 → SX → Prop} {c : Nat} {w a b : Int32} (hc : c < 48) (hw : ¬ w = 0) (sd : sc_SD (upd dt c w) (upd df c a) (upd ds c b))
    (h1 : (∀ j, j < 48 → sc_T (upd dt c w) (upd df c a) (upd ds c b) j ≤ 4) → ∀ sh, post 1 (cc, rl, wl, cl, dt, df, ds, ex, lo, uf, us, fi, ki, ef, es, di, we, cf, cs, cm, tx, le, rr, wk, sh, fo, fl, el, ec, ke, kl, em, oe, be, pl, po))
    (h0 : ¬ (∀ j, j < 48 → sc_T (upd dt c w) (upd df c a) (upd ds c b) j ≤ 4) → ∀ sh, post 0 (cc, rl, wl, cl, dt, df, ds, ex, lo, uf, us, fi, ki, ef, es, di, we, cf, cs, cm, tx, le, rr, wk, sh, fo, fl, el, ec, ke, kl, em, oe, be, pl, po)) :
    ∀ (d k : Nat) (sh : Nat → Int32), k + d = 48 → (∀ j, j < k → sh j = sc_T (upd dt c w) (upd df c a) (upd ds c b) j) → (∀ j, j < k → sc_T (upd dt c w) (upd df c a) (upd ds c b) j ≤ 4) →
    wX_sharesStaySmall_3 post (nI c) a b cc rl wl (d + 1) (nI k) cl dt df ds ex lo uf us fi ki ef es di we cf cs cm tx le rr wk sh fo fl el ec ke kl em oe be pl po := by
  intro d
  induction d with
  | zero =>
    intro k sh hk hs h4
    obtain rfl : k = 48 := by omega
    exact br_t (nI_le (a := 48) (by omega) (by omega)) (h1 h4 sh)
  | succ d ih =>
    intro k sh hk hs h4
    have v : vp_in (nI k) 48 := vp_in_nI (by omega) (by decide)
    have ck : (nI k).toNatClampNeg = k := nI_clamp (by omega)
    have hsv := sc_svT (s := sh) sd (by omega : k < 48) hs
    have step : ∀ r : Int32, r = sc_T (upd dt c w) (upd df c a) (upd ds c b) k → vp_in (nI k) 48 ∧ ∀ y, y = upd sh (nI k).toNatClampNeg r → wX_sharesStaySmall_78 post (wX_sharesStaySmall_3 post (nI c) a b cc rl wl (d + 1)) (nI c) a b (nI k) cc rl wl cl dt df ds ex lo uf us fi ki ef es di we cf cs cm tx le rr wk y fo fl el ec ke kl em oe be pl po := by
      intro r er
      refine ⟨v, nm_r (e' := upd sh k r) (by rw [ck]) ⟨v, br_c (fun z => nm_r (nI_1 k) (ih (k + 1) (upd sh k r) (by omega) ?_ ?_)) (fun z => h0 (fun q => z ?_) _)⟩⟩
      · intro j hj
        by_cases e : j = k
        · subst e; exact pk_us.trans er
        · exact (pk_un e).trans (hs j (by omega))
      · intro j hj
        by_cases e : j = k
        · subst e; rw [ck, pk_us, er] at z; exact z
        · exact h4 j (by omega)
      · rw [ck, pk_us, er]; exact q k (by omega)
    refine br_f (nI_ge (b := 48) (by omega) (by decide)) ?_
    by_cases e : k = c
    · refine br_t (by rw [e]) ?_
      have g := sd k (by omega) (by rw [e, pk_us]; exact hw)
      rw [e, pk_us, pk_us] at g
      obtain ⟨⟨j, hj, ej⟩, g2⟩ := g
      refine x_shareOf (by rw [ej]; exact vp_in_nI (by omega) (by decide)) (g2.elim Or.inl (fun ⟨i, hi, ei⟩ => Or.inr (by rw [ei]; exact vp_in_nI (by omega) (by decide)))) (step _ ?_)
      rw [← hsv]
      unfold sc_sv
      rw [e, pk_us, pk_us, pk_us, if_neg hw]
    · refine br_f (fun z => e ((nI_eq (by omega) (by omega)).mp z)) ⟨v, br_c (fun z => ?_) (fun z => ⟨v, v, ?_⟩)⟩
      · rw [ck] at z
        refine step 1 ?_
        rw [← hsv]
        unfold sc_sv
        rw [pk_un e, if_pos z]
      · rw [ck] at z
        have g := sd k (by omega) (by rw [pk_un e]; exact z)
        rw [pk_un e, pk_un e] at g
        obtain ⟨⟨j, hj, ej⟩, g2⟩ := g
        refine x_shareOf (by rw [ck, ej]; exact vp_in_nI (by omega) (by decide)) (by rw [ck]; exact g2.elim Or.inl (fun ⟨i, hi, ei⟩ => Or.inr (by rw [ei]; exact vp_in_nI (by omega) (by decide)))) (step _ ?_)
        rw [← hsv, ck]
        unfold sc_sv
        rw [pk_un e, pk_un e, pk_un e, if_neg z]
theorem x_setDec {post : Int32 → SX → Prop} {c : Nat} {w a b : Int32} (hc : c < 48) (hw : ¬ w = 0) (sd : sc_SD (upd dt c w) (upd df c a) (upd ds c b))
    (h1 : (∀ j, j < 48 → sc_T (upd dt c w) (upd df c a) (upd ds c b) j ≤ 4) → ∀ sh, post 1 (cc, rl, wl, cl, upd dt c w, upd df c a, upd ds c b, ex, lo, uf, us, fi, ki, ef, es, di, we, cf, cs, cm, tx, le, rr, wk, sh, fo, fl, el, ec, ke, kl, em, oe, be, pl, po))
    (h0 : ¬ (∀ j, j < 48 → sc_T (upd dt c w) (upd df c a) (upd ds c b) j ≤ 4) → ∀ sh, post 0 (cc, rl, wl, cl, dt, df, ds, ex, lo, uf, us, fi, ki, ef, es, di, we, cf, cs, cm, tx, le, rr, wk, sh, fo, fl, el, ec, ke, kl, em, oe, be, pl, po)) : wpX_setDecomposition post (cc, rl, wl, cl, dt, df, ds, ex, lo, uf, us, fi, ki, ef, es, di, we, cf, cs, cm, tx, le, rr, wk, sh, fo, fl, el, ec, ke, kl, em, oe, be, pl, po) (nI c) w a b := by
  have v : vp_in (nI c) 48 := vp_in_nI hc (by decide)
  have ec : (nI c).toNatClampNeg = c := nI_clamp (by omega)
  unfold wpX_setDecomposition
  unfold wpX_sharesStaySmall
  refine ⟨49, x_sh_l hc hw sd (fun g sh => ?_) (fun g sh => ?_) 48 0 sh (by omega) (fun j hj => absurd hj (by omega)) (fun j hj => absurd hj (by omega))⟩
  · exact br_f (by decide) ⟨v, nm_r (by rw [ec]) ⟨v, nm_r (by rw [ec]) ⟨v, nm_r (by rw [ec]) (h1 g sh)⟩⟩⟩
  · exact br_t rfl (h0 g sh)
theorem x_d1 {post : Int32 → SX → Prop} {c : Nat} {a b : Int32} (hc : c < 48) (sd : sc_W a 0 (nI c - 1) ∧ sc_W b (-1) (nI c - 1) → sc_SD (upd dt c 1) (upd df c a) (upd ds c b))
    (h1 : sc_W a 0 (nI c - 1) ∧ sc_W b (-1) (nI c - 1) → (∀ j, j < 48 → sc_T (upd dt c 1) (upd df c a) (upd ds c b) j ≤ 4) → ∀ sh, post 1 (cc, rl, wl, cl, upd dt c 1, upd df c a, upd ds c b, ex, lo, uf, us, fi, ki, ef, es, di, we, cf, cs, cm, tx, le, rr, wk, sh, fo, fl, el, ec, ke, kl, em, oe, be, pl, po))
    (h2 : sc_W a 0 (nI c - 1) ∧ sc_W b (-1) (nI c - 1) → ¬ (∀ j, j < 48 → sc_T (upd dt c 1) (upd df c a) (upd ds c b) j ≤ 4) → ∀ sh, post 0 (cc, rl, wl, cl, dt, df, ds, ex, lo, uf, us, fi, ki, ef, es, di, we, cf, cs, cm, tx, le, rr, wk, sh, fo, fl, el, ec, ke, kl, em, oe, be, pl, po))
    (h0 : ¬ (sc_W a 0 (nI c - 1) ∧ sc_W b (-1) (nI c - 1)) → post 0 (cc, rl, wl, cl, dt, df, ds, ex, lo, uf, us, fi, ki, ef, es, di, we, cf, cs, cm, tx, le, rr, wk, sh, fo, fl, el, ec, ke, kl, em, oe, be, pl, po)) : wpX_describe post (cc, rl, wl, cl, dt, df, ds, ex, lo, uf, us, fi, ki, ef, es, di, we, cf, cs, cm, tx, le, rr, wk, sh, fo, fl, el, ec, ke, kl, em, oe, be, pl, po) (nI c) 1 a b := by
  unfold wpX_describe
  refine xs_char1 hc (br_f (by decide) (x_fit1 (fun z => br_f (by decide) (br_t rfl (br_t rfl ?_))) (fun z => br_t rfl (h0 z))))
  unfold wX_describe_44
  exact x_setDec hc (by decide) (sd z) (fun g sh => ⟨rfl, h1 z g sh⟩) (fun g sh => ⟨rfl, h2 z g sh⟩)
theorem x_d2 {post : Int32 → SX → Prop} {c : Nat} {a b : Int32} (hc : c < 48) (sd : sc_W a 0 (nI c - 1) ∧ sc_W b (-1) (nI c - 1) → sc_SD (upd dt c 2) (upd df c a) (upd ds c b))
    (h1 : sc_W a 0 (nI c - 1) ∧ sc_W b (-1) (nI c - 1) → (∀ j, j < 48 → sc_T (upd dt c 2) (upd df c a) (upd ds c b) j ≤ 4) → ∀ sh, post 1 (cc, rl, wl, cl, upd dt c 2, upd df c a, upd ds c b, ex, lo, uf, us, fi, ki, ef, es, di, we, cf, cs, cm, tx, le, rr, wk, sh, fo, fl, el, ec, ke, kl, em, oe, be, pl, po))
    (h2 : sc_W a 0 (nI c - 1) ∧ sc_W b (-1) (nI c - 1) → ¬ (∀ j, j < 48 → sc_T (upd dt c 2) (upd df c a) (upd ds c b) j ≤ 4) → ∀ sh, post 0 (cc, rl, wl, cl, dt, df, ds, ex, lo, uf, us, fi, ki, ef, es, di, we, cf, cs, cm, tx, le, rr, wk, sh, fo, fl, el, ec, ke, kl, em, oe, be, pl, po))
    (h0 : ¬ (sc_W a 0 (nI c - 1) ∧ sc_W b (-1) (nI c - 1)) → post 0 (cc, rl, wl, cl, dt, df, ds, ex, lo, uf, us, fi, ki, ef, es, di, we, cf, cs, cm, tx, le, rr, wk, sh, fo, fl, el, ec, ke, kl, em, oe, be, pl, po)) : wpX_describe post (cc, rl, wl, cl, dt, df, ds, ex, lo, uf, us, fi, ki, ef, es, di, we, cf, cs, cm, tx, le, rr, wk, sh, fo, fl, el, ec, ke, kl, em, oe, be, pl, po) (nI c) 2 a b := by
  unfold wpX_describe
  refine xs_char1 hc (br_f (by decide) (x_fit2 (fun z => br_f (by decide) (br_f (by decide) (br_t rfl (br_f (by decide) ?_)))) (fun z => br_t rfl (h0 z))))
  unfold wX_describe_44
  exact x_setDec hc (by decide) (sd z) (fun g sh => ⟨rfl, h1 z g sh⟩) (fun g sh => ⟨rfl, h2 z g sh⟩)
end
section
variable {cc rl yn : Int32} {cl dt df pb lo uf us fi ki wt ef eb di ex cf cs cm lg tx le rr ro fm fL ee en ye lv se pg ou : Nat → Int32}
theorem y_sh_l {post : Int32 → SY → Prop} {c : Nat} {w a b : Int32} {ds : Nat → Int32} (hc : c < 48) (sd : sc_SD dt df ds) (hpb : ∀ i, i < 48 → ¬ dt i = 0 → pb i = ds i)
    (h1 : (∀ j, j < 48 → sc_T dt df ds j ≤ 4) → ∀ lg, post 1 (cc, rl, yn, cl, dt, df, pb, lo, uf, us, fi, ki, wt, ef, eb, di, ex, cf, cs, cm, lg, tx, le, rr, ro, fm, fL, ee, en, ye, lv, se, pg, ou))
    (h0 : ¬ (∀ j, j < 48 → sc_T dt df ds j ≤ 4) → ∀ lg, post 0 (cc, rl, yn, cl, upd dt c w, upd df c a, upd pb c b, lo, uf, us, fi, ki, wt, ef, eb, di, ex, cf, cs, cm, lg, tx, le, rr, ro, fm, fL, ee, en, ye, lv, se, pg, ou)) :
    ∀ (d k : Nat) (g : Int32) (lg : Nat → Int32), k + d = 48 → (∀ j, j < k → lg j = sc_T dt df ds j) → (g = 1 ∧ (∀ j, j < k → sc_T dt df ds j ≤ 4) ∨ g = 0 ∧ ¬ (∀ j, j < 48 → sc_T dt df ds j ≤ 4)) →
    wY_decomposes_52 post (nI c) w a b cc rl yn (d + 1) g (nI k) cl dt df pb lo uf us fi ki wt ef eb di ex cf cs cm lg tx le rr ro fm fL ee en ye lv se pg ou := by
  intro d
  induction d with
  | zero =>
    intro k g lg hk hs hg
    obtain rfl : k = 48 := by omega
    have vc : vp_in (nI c) 48 := vp_in_nI hc (by decide)
    have ec : (nI c).toNatClampNeg = c := nI_clamp (by omega)
    refine br_t (nI_le (a := 48) (by omega) (by omega)) ?_
    rcases hg with ⟨rfl, h4⟩ | ⟨rfl, h4⟩
    · exact br_f (by decide) (h1 h4 lg)
    · exact br_t rfl ⟨vc, nm_r (by rw [ec]) ⟨vc, nm_r (by rw [ec]) ⟨vc, nm_r (by rw [ec]) (h0 h4 lg)⟩⟩⟩
  | succ d ih =>
    intro k g lg hk hs hg
    have v : vp_in (nI k) 48 := vp_in_nI (by omega) (by decide)
    have ck : (nI k).toNatClampNeg = k := nI_clamp (by omega)
    have hsv := sc_svT (s := lg) sd (by omega : k < 48) hs
    have step : ∀ r : Int32, r = sc_T dt df ds k → wY_decomposes_118 post (wY_decomposes_52 post (nI c) w a b cc rl yn (d + 1)) (nI c) w a b g (nI k) r (nI k) cc rl yn cl dt df pb lo uf us fi ki wt ef eb di ex cf cs cm lg tx le rr ro fm fL ee en ye lv se pg ou := by
      intro r er
      have hs' : ∀ j, j < k + 1 → upd lg k r j = sc_T dt df ds j := by
        intro j hj
        by_cases e : j = k
        · subst e; exact pk_us.trans er
        · exact (pk_un e).trans (hs j (by omega))
      refine ⟨v, nm_r (e' := upd lg k r) (by rw [ck]) ⟨v, br_c (fun z => nm_r (e' := 0) ?_ (nm_r (nI_1 k) (ih (k + 1) 0 (upd lg k r) (by omega) hs' (Or.inr ⟨rfl, fun q => ?_⟩)))) (fun z => nm_r (e' := g) ?_ (nm_r (nI_1 k) (ih (k + 1) g (upd lg k r) (by omega) hs' ?_)))⟩⟩
      · rcases hg with ⟨rfl, h4⟩ | ⟨rfl, h4⟩ <;> decide
      · rw [ck, pk_us, er] at z
        exact Int32.not_lt.mpr (q k (by omega)) z
      · rcases hg with ⟨rfl, h4⟩ | ⟨rfl, h4⟩ <;> decide
      · rcases hg with ⟨rfl, h4⟩ | ⟨rfl, h4⟩
        · refine Or.inl ⟨rfl, fun j hj => ?_⟩
          by_cases e : j = k
          · subst e
            rw [ck, pk_us, er] at z
            exact Int32.not_lt.mp z
          · exact h4 j (by omega)
        · exact Or.inr ⟨rfl, h4⟩
    refine br_f (nI_ge (b := 48) (by omega) (by decide)) ⟨v, br_c (fun z => ?_) (fun z => ?_)⟩
    · rw [ck] at z
      refine step 1 ?_
      rw [← hsv]
      unfold sc_sv
      rw [if_pos z]
    · rw [ck] at z
      obtain ⟨⟨j, hj, ej⟩, g2⟩ := sd k (by omega) z
      have ep : pb (nI k).toNatClampNeg = ds k := by rw [ck]; exact hpb k (by omega) z
      have ea : df (nI k).toNatClampNeg = nI j := by rw [ck]; exact ej
      refine ⟨v, by rw [ea]; exact vp_in_nI (by omega) (by decide), v, ?_⟩
      rcases g2 with g2 | ⟨i, hi, ei⟩
      · refine br_f (by rw [ep, g2]; decide) (step _ ?_)
        rw [← hsv, Int32.add_zero, ea]
        unfold sc_sv
        rw [if_neg z, if_pos g2, ej]
      · refine br_t (by rw [ep, ei]; exact nI_pos' (by omega)) ⟨v, by rw [ep, ei]; exact vp_in_nI (by omega) (by decide), step _ ?_⟩
        rw [← hsv, ea, ep]
        unfold sc_sv
        rw [if_neg z, if_neg (by rw [ei]; exact sc_m1 i (by omega)), ej]
theorem y_setDec {post : Int32 → SY → Prop} {c : Nat} {w a b : Int32} {ds : Nat → Int32} (hc : c < 48) (sd : sc_SD (upd dt c w) (upd df c a) (upd ds c b)) (hpb : ∀ i, i < 48 → ¬ dt i = 0 → pb i = ds i)
    (h1 : (∀ j, j < 48 → sc_T (upd dt c w) (upd df c a) (upd ds c b) j ≤ 4) → ∀ lg, post 1 (cc, rl, yn, cl, upd dt c w, upd df c a, upd pb c b, lo, uf, us, fi, ki, wt, ef, eb, di, ex, cf, cs, cm, lg, tx, le, rr, ro, fm, fL, ee, en, ye, lv, se, pg, ou))
    (h0 : ¬ (∀ j, j < 48 → sc_T (upd dt c w) (upd df c a) (upd ds c b) j ≤ 4) → ∀ lg, post 0 (cc, rl, yn, cl, dt, df, pb, lo, uf, us, fi, ki, wt, ef, eb, di, ex, cf, cs, cm, lg, tx, le, rr, ro, fm, fL, ee, en, ye, lv, se, pg, ou)) : wpY_decomposes post (cc, rl, yn, cl, dt, df, pb, lo, uf, us, fi, ki, wt, ef, eb, di, ex, cf, cs, cm, lg, tx, le, rr, ro, fm, fL, ee, en, ye, lv, se, pg, ou) (nI c) w a b := by
  have v : vp_in (nI c) 48 := vp_in_nI hc (by decide)
  have ec : (nI c).toNatClampNeg = c := nI_clamp (by omega)
  unfold wpY_decomposes
  refine ⟨v, nm_r (e' := dt c) (by rw [ec]) ⟨v, nm_r (e' := df c) (by rw [ec]) ⟨v, nm_r (e' := pb c) (by rw [ec]) ⟨v, nm_r (e' := upd dt c w) (by rw [ec]) ⟨v, nm_r (e' := upd df c a) (by rw [ec]) ⟨v, nm_r (e' := upd pb c b) (by rw [ec]) ⟨49, ?_⟩⟩⟩⟩⟩⟩⟩
  refine y_sh_l hc sd ?_ h1 (fun g lg => ?_) 48 0 1 lg (by omega) (fun j hj => absurd hj (by omega)) (Or.inl ⟨rfl, fun j hj => absurd hj (by omega)⟩)
  · intro i hi h
    by_cases e : i = c
    · subst e; rw [pk_us, pk_us]
    · rw [pk_un e] at h; rw [pk_un e, pk_un e]; exact hpb i hi h
  · rw [sc_back, sc_back, sc_back]; exact h0 g lg
theorem y_d1 {post : Int32 → SY → Prop} {c : Nat} {a b : Int32} {ds : Nat → Int32} (hc : c < 48) (sd : sc_W a 0 (nI c - 1) ∧ sc_W b (-1) (nI c - 1) → sc_SD (upd dt c 1) (upd df c a) (upd ds c b)) (hpb : ∀ i, i < 48 → ¬ dt i = 0 → pb i = ds i)
    (h1 : sc_W a 0 (nI c - 1) ∧ sc_W b (-1) (nI c - 1) → (∀ j, j < 48 → sc_T (upd dt c 1) (upd df c a) (upd ds c b) j ≤ 4) → ∀ lg, post 1 (cc, rl, yn, cl, upd dt c 1, upd df c a, upd pb c b, lo, uf, us, fi, ki, wt, ef, eb, di, ex, cf, cs, cm, lg, tx, le, rr, ro, fm, fL, ee, en, ye, lv, se, pg, ou))
    (h2 : sc_W a 0 (nI c - 1) ∧ sc_W b (-1) (nI c - 1) → ¬ (∀ j, j < 48 → sc_T (upd dt c 1) (upd df c a) (upd ds c b) j ≤ 4) → ∀ lg, post 0 (cc, rl, yn, cl, dt, df, pb, lo, uf, us, fi, ki, wt, ef, eb, di, ex, cf, cs, cm, lg, tx, le, rr, ro, fm, fL, ee, en, ye, lv, se, pg, ou))
    (h0 : ¬ (sc_W a 0 (nI c - 1) ∧ sc_W b (-1) (nI c - 1)) → post 0 (cc, rl, yn, cl, dt, df, pb, lo, uf, us, fi, ki, wt, ef, eb, di, ex, cf, cs, cm, lg, tx, le, rr, ro, fm, fL, ee, en, ye, lv, se, pg, ou)) : wpY_describe post (cc, rl, yn, cl, dt, df, pb, lo, uf, us, fi, ki, wt, ef, eb, di, ex, cf, cs, cm, lg, tx, le, rr, ro, fm, fL, ee, en, ye, lv, se, pg, ou) (nI c) 1 a b := by
  refine y_fit1 hc (fun z => br_t rfl ?_) h0
  unfold wY_describe_195
  exact y_setDec hc (sd z) hpb (fun g lg => ⟨rfl, h1 z g lg⟩) (fun g lg => ⟨rfl, h2 z g lg⟩)
theorem y_d2 {post : Int32 → SY → Prop} {c : Nat} {a b : Int32} {ds : Nat → Int32} (hc : c < 48) (sd : sc_W a 0 (nI c - 1) ∧ sc_W b (-1) (nI c - 1) → sc_SD (upd dt c 2) (upd df c a) (upd ds c b)) (hpb : ∀ i, i < 48 → ¬ dt i = 0 → pb i = ds i)
    (h1 : sc_W a 0 (nI c - 1) ∧ sc_W b (-1) (nI c - 1) → (∀ j, j < 48 → sc_T (upd dt c 2) (upd df c a) (upd ds c b) j ≤ 4) → ∀ lg, post 1 (cc, rl, yn, cl, upd dt c 2, upd df c a, upd pb c b, lo, uf, us, fi, ki, wt, ef, eb, di, ex, cf, cs, cm, lg, tx, le, rr, ro, fm, fL, ee, en, ye, lv, se, pg, ou))
    (h2 : sc_W a 0 (nI c - 1) ∧ sc_W b (-1) (nI c - 1) → ¬ (∀ j, j < 48 → sc_T (upd dt c 2) (upd df c a) (upd ds c b) j ≤ 4) → ∀ lg, post 0 (cc, rl, yn, cl, dt, df, pb, lo, uf, us, fi, ki, wt, ef, eb, di, ex, cf, cs, cm, lg, tx, le, rr, ro, fm, fL, ee, en, ye, lv, se, pg, ou))
    (h0 : ¬ (sc_W a 0 (nI c - 1) ∧ sc_W b (-1) (nI c - 1)) → post 0 (cc, rl, yn, cl, dt, df, pb, lo, uf, us, fi, ki, wt, ef, eb, di, ex, cf, cs, cm, lg, tx, le, rr, ro, fm, fL, ee, en, ye, lv, se, pg, ou)) : wpY_describe post (cc, rl, yn, cl, dt, df, pb, lo, uf, us, fi, ki, wt, ef, eb, di, ex, cf, cs, cm, lg, tx, le, rr, ro, fm, fL, ee, en, ye, lv, se, pg, ou) (nI c) 2 a b := by
  refine y_fit2 hc (fun z => br_f (by decide) (br_t rfl ?_)) h0
  unfold wY_describe_195
  exact y_setDec hc (sd z) hpb (fun g lg => ⟨rfl, h1 z g lg⟩) (fun g lg => ⟨rfl, h2 z g lg⟩)
end
end
section
/-! describe -/
theorem sc_Win {a hi : Int32} {N : Nat} (n : Nat) (hn : n < N) (hN : N < 2 ^ 31) (e : hi.toInt = n) (h : sc_W a 0 hi) : vp_in a N := by
  obtain ⟨j, hj, rfl⟩ := sc_Wn (by omega) e h
  exact vp_in_nI (by omega) hN
theorem sc_W47 {a : Int32} (h : sc_W a 0 47) : vp_in a 48 := sc_Win 47 (by omega) (by omega) (by decide) h
theorem sc_W47m {a : Int32} (h : sc_W a (-1) 47) : a = -1 ∨ vp_in a 48 := (sc_Wm h).elim Or.inl (fun z => Or.inr (sc_W47 z))
theorem sc_updO {f : Nat → Int32} (h : sc_Opt f) (c : Nat) {x : Int32} (hx : x = -1 ∨ vp_in x 48) : sc_Opt (upd f c x) := by
  intro i
  by_cases e : i = c
  · rw [e, pk_us]; exact hx
  · rw [pk_un e]; exact h i
theorem sc_Wc {c : Nat} (hc : c < 48) {a : Int32} (h : sc_W a 0 (nI c - 1)) : ∃ j, j < c ∧ a = nI j := by
  obtain ⟨p, q⟩ := h
  obtain ⟨j, hj, rfl⟩ := nI_of p
  rw [Int32.lt_iff_toInt_lt, nI_toInt hj, show (1 : Int32) = nI 1 from rfl, pk_sub_toInt (by omega) (by omega)] at q
  exact ⟨j, by omega, rfl⟩
theorem sc_mkSD {dt df ds : Nat → Int32} (h : sc_Dec dt df ds) {c : Nat} (hc : c < 48) (w : Int32) {a b : Int32} (hf : sc_W a 0 (nI c - 1) ∧ sc_W b (-1) (nI c - 1)) : sc_SD (upd dt c w) (upd df c a) (upd ds c b) := by
  intro i hi h0
  by_cases e : i = c
  · subst e
    rw [pk_us, pk_us]
    exact ⟨sc_Wc hc hf.1, (sc_Wm hf.2).elim Or.inl (fun z => Or.inr (sc_Wc hc z))⟩
  · rw [pk_un e] at h0
    rw [pk_un e, pk_un e]
    exact h.2.1 i hi h0
theorem sc_mkDec {dt df ds : Nat → Int32} (h : sc_Dec dt df ds) {c : Nat} {w : Int32} (hw : w = 0 ∨ w = 1 ∨ w = 2) {a b : Int32} (sd : sc_SD (upd dt c w) (upd df c a) (upd ds c b)) (h4 : ∀ j, j < 48 → sc_T (upd dt c w) (upd df c a) (upd ds c b) j ≤ 4) : sc_Dec (upd dt c w) (upd df c a) (upd ds c b) := by
  refine ⟨fun i => ?_, sd, sc_TL sd h4⟩
  by_cases e : i = c
  · rw [e, pk_us]; exact hw
  · rw [pk_un e]; exact h.1 i
theorem sc_noDec {dt df ds : Nat → Int32} (h : sc_Dec dt df ds) (c : Nat) : sc_Dec (upd dt c 0) df ds := by
  obtain ⟨h1, h2, L, p, q⟩ := h
  refine ⟨fun i => ?_, fun i hi h0 => ?_, L, p, fun i hi h0 => ?_⟩
  · by_cases e : i = c
    · rw [e, pk_us]; exact Or.inl rfl
    · rw [pk_un e]; exact h1 i
  · by_cases e : i = c
    · rw [e, pk_us] at h0; exact absurd rfl h0
    · rw [pk_un e] at h0; exact h2 i hi h0
  · by_cases e : i = c
    · rw [e, pk_us] at h0; exact absurd rfl h0
    · rw [pk_un e] at h0; exact q i hi h0
theorem sc_pbU {dt ds pb : Nat → Int32} (h : ∀ i, i < 48 → ¬ dt i = 0 → pb i = ds i) (c : Nat) (w b : Int32) : ∀ i, i < 48 → ¬ upd dt c w i = 0 → upd pb c b i = upd ds c b i := by
  intro i hi h0
  by_cases e : i = c
  · rw [e, pk_us, pk_us]
  · rw [pk_un e] at h0; rw [pk_un e, pk_un e]; exact h i hi h0
theorem sc_pb0 {dt ds pb : Nat → Int32} (h : ∀ i, i < 48 → ¬ dt i = 0 → pb i = ds i) (c : Nat) : ∀ i, i < 48 → ¬ upd dt c 0 i = 0 → pb i = ds i := by
  intro i hi h0
  by_cases e : i = c
  · rw [e, pk_us] at h0; exact absurd rfl h0
  · rw [pk_un e] at h0; exact h i hi h0
theorem sc_ebU {ef es eb : Nat → Int32} (h : ∀ i, i < 48 → ¬ ef i = -1 → vp_in (es i) 48 ∧ eb i = es i) (c : Nat) (a : Int32) {b : Int32} (hb : vp_in b 48) : ∀ i, i < 48 → ¬ upd ef c a i = -1 → vp_in (upd es c b i) 48 ∧ upd eb c b i = upd es c b i := by
  intro i hi h0
  by_cases e : i = c
  · rw [e, pk_us, pk_us]; exact ⟨hb, rfl⟩
  · rw [pk_un e] at h0; rw [pk_un e, pk_un e]; exact h i hi h0
theorem sc_eb0 {ef es eb : Nat → Int32} (h : ∀ i, i < 48 → ¬ ef i = -1 → vp_in (es i) 48 ∧ eb i = es i) (c : Nat) : ∀ i, i < 48 → ¬ upd ef c (-1) i = -1 → vp_in (upd es c (-1) i) 48 ∧ eb i = upd es c (-1) i := by
  intro i hi h0
  by_cases e : i = c
  · rw [e, pk_us] at h0; exact absurd rfl h0
  · rw [pk_un e] at h0; rw [pk_un e]; exact h i hi h0
theorem sc_weU {we wt : Nat → Int32} (h : ∀ c l, c < 48 → l < 3 → we (48 * l + c) = wt (3 * c + l)) {c : Nat} (hc : c < 48) (p q r : Int32) : ∀ c' l, c' < 48 → l < 3 → upd (upd (upd we c p) (48 + c) q) (96 + c) r (48 * l + c') = upd (upd (upd wt (3 * c) p) (3 * c + 1) q) (3 * c + 2) r (3 * c' + l) := by
  intro c' l hc' hl
  unfold upd
  by_cases e : c' = c
  · subst e
    rcases Nat.lt_or_ge l 1 with z | z
    · rw [if_neg (by omega), if_neg (by omega), if_pos (by omega), if_neg (by omega), if_neg (by omega), if_pos (by omega)]
    · rcases Nat.lt_or_ge l 2 with z2 | z2
      · rw [if_neg (by omega), if_pos (by omega), if_neg (by omega), if_pos (by omega)]
      · rw [if_pos (by omega), if_pos (by omega)]
  · rw [if_neg (by omega), if_neg (by omega), if_neg (by omega), if_neg (by omega), if_neg (by omega), if_neg (by omega)]
    exact h c' l hc' hl
theorem i_vc_describe {k : Nat} {u : SX} {v : SY} (I : i_Rel k u v) (hk : k + 5 ≤ 2560) (v1 : Int32) (v2 : Int32) (v3 : Int32) (v4 : Int32) : wpX_describe (fun r u' => wpY_describe (fun r' v' => r' = r ∧ i_Rel (k + 5) u' v') v v1 v2 v3 v4) u v1 v2 v3 v4 := by
  obtain ⟨cc, rl, wl, yn, cl, dt, df, ds, ex, lo, uf, us, fi, ki, ef, es, di, we, cf, cs, cm, tx, le, rr, wk, sh, fo, fl, el, ec, ke, kl, em, oe, be, pl, po, pb, wt, eb, lg, ro, fm, fL, ee, en, rfl, rfl, I⟩ := I
  rcases sn_char v1 with ⟨c, hc, rfl⟩ | h
  rotate_left
  · exact x_dC h (y_dC h ⟨rfl, sc_mk I⟩)
  rcases pk_ix v2 (n := 15) (by decide) with h | h | ⟨w, hw, rfl⟩
  · exact x_dN hc (Or.inl h) (y_dN hc (Or.inl h) ⟨rfl, sc_mk I⟩)
  · have h' : ¬ v2 < 0 ∧ 14 < v2 := by
      rw [Int32.le_iff_toInt_le] at h
      rw [Int32.lt_iff_toInt_lt, Int32.lt_iff_toInt_lt]
      have e1 : (nI 15).toInt = 15 := nI_toInt (by decide)
      have e2 : (14 : Int32).toInt = 14 := by decide
      have e3 : (0 : Int32).toInt = 0 := by decide
      omega
    exact x_dN hc (Or.inr h') (y_dN hc (Or.inr h') ⟨rfl, sc_mk I⟩)
  have I0 := I
  obtain ⟨i1, i2, i3, i4, i5, i6, i7, i8, i9, i10, i11, i12, i13, i14, i15, i16, i17⟩ := I
  match w, hw with
  | 0, _ => exact x_d0 hc (fun z => y_d0 hc (fun _ => ⟨rfl, sc_mk ⟨i1, i2, i3, i4, i5, i6, i7, i8, i9, sc_updC i10 c (sc_Win 9 (by omega) (by omega) (by decide) z), i11, i12, i13, i14, i15, i16, i17⟩⟩) (fun y => absurd z y)) (fun z => y_d0 hc (fun y => absurd y z) (fun _ => ⟨rfl, sc_mk I0⟩))
  | 1, _ =>
    refine x_d1 hc (sc_mkSD i16 hc 1) (fun z g sh' => ?_) (fun z g sh' => ?_) (fun z => ?_)
    · exact y_d1 (ds := ds) hc (sc_mkSD i16 hc 1) i15 (fun _ _ _ => ⟨rfl, sc_mk ⟨i1, i2, i3, i4, i5, i6, i7, i8, i9, i10, i11, i12, i13, i14, sc_pbU i15 c 1 v4, sc_mkDec i16 (by decide) (sc_mkSD i16 hc 1 z) g, i17⟩⟩) (fun _ y => absurd g y) (fun y => absurd z y)
    · exact y_d1 (ds := ds) hc (sc_mkSD i16 hc 1) i15 (fun _ y => absurd y g) (fun _ _ _ => ⟨rfl, sc_mk I0⟩) (fun y => absurd z y)
    · exact y_d1 (ds := ds) hc (sc_mkSD i16 hc 1) i15 (fun y => absurd y z) (fun y => absurd y z) (fun _ => ⟨rfl, sc_mk I0⟩)
  | 2, _ =>
    refine x_d2 hc (sc_mkSD i16 hc 2) (fun z g sh' => ?_) (fun z g sh' => ?_) (fun z => ?_)
    · exact y_d2 (ds := ds) hc (sc_mkSD i16 hc 2) i15 (fun _ _ _ => ⟨rfl, sc_mk ⟨i1, i2, i3, i4, i5, i6, i7, i8, i9, i10, i11, i12, i13, i14, sc_pbU i15 c 2 v4, sc_mkDec i16 (by decide) (sc_mkSD i16 hc 2 z) g, i17⟩⟩) (fun _ y => absurd g y) (fun y => absurd z y)
    · exact y_d2 (ds := ds) hc (sc_mkSD i16 hc 2) i15 (fun _ y => absurd y g) (fun _ _ _ => ⟨rfl, sc_mk I0⟩) (fun y => absurd z y)
    · exact y_d2 (ds := ds) hc (sc_mkSD i16 hc 2) i15 (fun y => absurd y z) (fun y => absurd y z) (fun _ => ⟨rfl, sc_mk I0⟩)
  | 3, _ => exact x_d3 hc (fun z => y_d3 hc (fun _ => ⟨rfl, sc_mk ⟨i1, i2, i3, i4, i5, i6, i7, i8, i9, i10, i11, i12, i13, i14, sc_pb0 i15 c, sc_noDec i16 c, i17⟩⟩) (fun y => absurd z y)) (fun z => y_d3 hc (fun y => absurd y z) (fun _ => ⟨rfl, sc_mk I0⟩))
  | 4, _ => exact x_d4 hc (fun z => y_d4 hc (fun _ => ⟨rfl, sc_mk I0⟩) (fun y => absurd z y)) (fun z => y_d4 hc (fun y => absurd y z) (fun _ => ⟨rfl, sc_mk I0⟩))
  | 5, _ => exact x_d5 hc (fun z => y_d5 hc (fun _ => ⟨rfl, sc_mk ⟨i1, i2, i3, i4, i5, sc_updC i6 c (sc_W47 z), i7, i8, i9, i10, i11, i12, i13, i14, i15, i16, i17⟩⟩) (fun y => absurd z y)) (fun z => y_d5 hc (fun y => absurd y z) (fun _ => ⟨rfl, sc_mk I0⟩))
  | 6, _ => exact x_d6 hc (fun z => y_d6 hc (fun _ => ⟨rfl, sc_mk ⟨i1, i2, i3, i4, i5, i6, sc_updC i7 c (sc_W47 z.1), sc_updO i8 c (sc_W47m z.2), i9, i10, i11, i12, i13, i14, i15, i16, i17⟩⟩) (fun y => absurd z y)) (fun z => y_d6 hc (fun y => absurd y z) (fun _ => ⟨rfl, sc_mk I0⟩))
  | 7, _ => exact x_d7 hc (fun z => y_d7 hc (fun _ => ⟨rfl, sc_mk ⟨i1, i2, i3, i4, i5, i6, i7, i8, sc_updO i9 c (sc_W47m z), i10, i11, i12, i13, i14, i15, i16, i17⟩⟩) (fun y => absurd z y)) (fun z => y_d7 hc (fun y => absurd y z) (fun _ => ⟨rfl, sc_mk I0⟩))
  | 8, _ => exact x_d8 hc (fun z => y_d8 hc (fun _ => ⟨rfl, sc_mk I0⟩) (fun y => absurd z y)) (fun z => y_d8 hc (fun y => absurd y z) (fun _ => ⟨rfl, sc_mk I0⟩))
  | 9, _ => exact x_d9 hc (fun z => y_d9 hc (fun _ => ⟨rfl, sc_mk ⟨i1, i2, i3, i4, i5, i6, i7, i8, i9, i10, i11, i12, i13, i14, i15, i16, sc_weU i17 hc _ _ _⟩⟩) (fun y => absurd z y)) (fun z => y_d9 hc (fun y => absurd y z) (fun _ => ⟨rfl, sc_mk I0⟩))
  | 10, _ => exact x_d10 hc (fun z => y_d10 hc (fun _ => ⟨rfl, sc_mk ⟨i1, i2, i3, i4, i5, i6, i7, i8, i9, i10, i11, i12, sc_updO i13 c (Or.inr (sc_W47 z.1)), sc_ebU i14 c v3 (sc_W47 z.2), i15, i16, i17⟩⟩) (fun y => absurd z y)) (fun z => y_d10 hc (fun y => absurd y z) (fun _ => ⟨rfl, sc_mk I0⟩))
  | 11, _ => exact x_d11 hc (fun z => y_d11 hc (fun _ => ⟨rfl, sc_mk ⟨i1, i2, i3, i4, i5, i6, i7, i8, i9, i10, i11, i12, sc_updO i13 c (Or.inl rfl), sc_eb0 i14 c, i15, i16, i17⟩⟩) (fun y => absurd z y)) (fun z => y_d11 hc (fun y => absurd y z) (fun _ => ⟨rfl, sc_mk I0⟩))
  | 12, _ =>
    obtain ⟨m, hm, rfl⟩ := i1
    refine x_d12 hm hc (fun z p q => ?_) (fun z p q => ?_) (fun z k' p q => ?_) (fun z => ?_)
    · exact y_d12 hm hc (fun _ _ _ => ⟨rfl, sc_mk ⟨⟨m + 1, by omega, rfl⟩, i2, i3, i4, i5, i6, i7, i8, i9, i10, i11, sc_updC i12 m (sc_W47 z.2), i13, i14, i15, i16, i17⟩⟩) (fun _ _ y => absurd y (by omega)) (fun _ k' _ y => absurd (y.symm.trans p) (sc_m1 k' (by omega))) (fun y => absurd z y)
    · exact y_d12 hm hc (fun _ _ y => absurd y (by omega)) (fun _ _ _ => ⟨rfl, sc_mk I0⟩) (fun _ k' _ y => absurd (y.symm.trans p) (sc_m1 k' (by omega))) (fun y => absurd z y)
    · refine y_d12 hm hc (fun _ y _ => absurd (q.symm.trans y) (sc_m1 k' (by omega))) (fun _ y _ => absurd (q.symm.trans y) (sc_m1 k' (by omega))) (fun _ k'' p'' y => ?_) (fun y => absurd z y)
      obtain rfl : k'' = k' := (nI_eq (by omega) (by omega)).mp (y.symm.trans q)
      exact ⟨rfl, sc_mk ⟨⟨m, hm, rfl⟩, i2, i3, i4, i5, i6, i7, i8, i9, i10, i11, sc_updC i12 k'' (sc_W47 z.2), i13, i14, i15, i16, i17⟩⟩
    · exact y_d12 hm hc (fun y => absurd y z) (fun y => absurd y z) (fun y => absurd y z) (fun _ => ⟨rfl, sc_mk I0⟩)
  | 13, _ =>
    obtain ⟨m, hm, rfl⟩ := i1
    refine x_d13 hm hc (fun z p => ?_) (fun z k' p q => ?_) (fun z => ?_)
    · exact y_d13 hm hc (fun _ _ => ⟨rfl, sc_mk I0⟩) (fun _ k' _ y => absurd (y.symm.trans p) (sc_m1 k' (by omega))) (fun y => absurd z y)
    · refine y_d13 hm hc (fun _ y => absurd (q.symm.trans y) (sc_m1 k' (by omega))) (fun _ k'' p'' y => ?_) (fun y => absurd z y)
      obtain rfl : k'' = k' := (nI_eq (by omega) (by omega)).mp (y.symm.trans q)
      exact ⟨rfl, sc_mk ⟨⟨m - 1, by omega, rfl⟩, i2, i3, i4, i5, i6, i7, i8, i9, i10, i11, sc_updC i12 k'' (i12 _), i13, i14, i15, i16, i17⟩⟩
    · exact y_d13 hm hc (fun y => absurd y z) (fun y => absurd y z) (fun _ => ⟨rfl, sc_mk I0⟩)
  | 14, _ => exact x_d14 hc (fun z => y_d14 hc (fun _ => ⟨rfl, sc_mk ⟨i1, i2, i3, i4, i5, i6, i7, i8, i9, i10, sc_updC i11 c (sc_Win 6 (by omega) (by omega) (by decide) z), i12, i13, i14, i15, i16, i17⟩⟩) (fun y => absurd z y)) (fun z => y_d14 hc (fun y => absurd y z) (fun _ => ⟨rfl, sc_mk I0⟩))
  | n + 15, h => exact absurd h (by omega)
end
section
/-! clusters and words: one pure picture for both sides -/
def sc_kd (ki tx : Nat → Int32) (t k : Nat) : Int32 := ki (tx (16 * t + k)).toNatClampNeg
def sc_cb (x y : Int32) : Int32 := if y = 2 then (if x = 1 then 1 else 0) else if x = 3 then (if y = 1 then 1 else 0) else 1
def sc_ca (g : Nat → Int32) : Nat → Nat
  | 0 => 0
  | k + 1 => if g (k + 1) = 2 then (if g k = 1 then k + 1 else sc_ca g k) else k + 1
def sc_kb (g : Nat → Int32) : Nat → Nat → Int32
  | 0, _ => -1
  | d + 1, i => if g i = 2 then sc_kb g d (i + 1) else g i
def sc_Jn (x y : Int32) : Prop := (x = 4 ∨ x = 5 ∨ x = 7) ∧ (y = 4 ∨ y = 5 ∨ y = 7)
def sc_Br (b m e : Int32) : Prop := m = 6 ∧ b = e ∧ (b = 4 ∨ b = 5)
def sc_Wd (w x y z : Int32) : Prop := ¬ sc_Jn x y ∧ ¬ sc_Br x y z ∧ ¬ sc_Br w x y
noncomputable def sc_b (P : Prop) : Int32 := @ite Int32 P (Classical.propDecidable P) 1 0
theorem sc_bt {P : Prop} (h : P) : sc_b P = 1 := by unfold sc_b; rw [if_pos h]
theorem sc_bf {P : Prop} (h : ¬ P) : sc_b P = 0 := by unfold sc_b; rw [if_neg h]
theorem sc_b0 {P : Prop} : sc_b P = 0 ↔ ¬ P := ⟨fun z h => by rw [sc_bt h] at z; exact absurd z (by decide), sc_bf⟩
noncomputable def sc_wb (g : Nat → Int32) (n p : Nat) : Int32 :=
  if g p = 2 then (if g (p - 1) = 1 then 1 else 0)
  else sc_b (sc_Wd (if sc_ca g (p - 1) = 0 then -1 else g (sc_ca g (sc_ca g (p - 1) - 1))) (g (sc_ca g (p - 1))) (g p) (sc_kb g (n - (p + 1)) (p + 1)))
theorem sc_ca_le (g : Nat → Int32) : ∀ k, sc_ca g k ≤ k := by
  intro k
  induction k with
  | zero => exact Nat.le_refl 0
  | succ k ih =>
    unfold sc_ca
    by_cases h : g (k + 1) = 2
    · rw [if_pos h]
      by_cases h1 : g k = 1
      · rw [if_pos h1]; omega
      · rw [if_neg h1]; omega
    · rw [if_neg h]; omega
section
variable {cc rl wl : Int32} {cl dt df ds ex lo uf us fi ki ef es di we cf cs cm tx le rr wk sh fo fl el ec ke kl em oe be pl po : Nat → Int32}
theorem x_kindAt {post : Int32 → Prop} {t k : Nat} (ht : t < 2) (hk : k < 16) (htx : sc_Chr tx) (h : post (sc_kd ki tx t k)) : wpX_kindAt post (cc, rl, wl, cl, dt, df, ds, ex, lo, uf, us, fi, ki, ef, es, di, we, cf, cs, cm, tx, le, rr, wk, sh, fo, fl, el, ec, ke, kl, em, oe, be, pl, po) (nI t) (nI k) := by
  have e : nI t * 16 + nI k = nI (16 * t + k) := by rw [sn_t16, nI_add]
  have c : (nI t * 16 + nI k).toNatClampNeg = 16 * t + k := by rw [e, nI_clamp (by omega)]
  exact ⟨pk_in (16 * t + k) 32 (by omega) e, htx _, by rw [c]; exact h⟩
theorem x_breaksCluster {post : Int32 → Prop} {t p : Nat} (ht : t < 2) (hp : p + 1 < 16) (htx : sc_Chr tx) (h : post (sc_cb (sc_kd ki tx t p) (sc_kd ki tx t (p + 1)))) : wpX_breaksCluster post (cc, rl, wl, cl, dt, df, ds, ex, lo, uf, us, fi, ki, ef, es, di, we, cf, cs, cm, tx, le, rr, wk, sh, fo, fl, el, ec, ke, kl, em, oe, be, pl, po) (nI t) (nI (p + 1)) := by
  unfold wpX_breaksCluster
  rw [nI_pred]
  refine x_kindAt ht (by omega) htx (x_kindAt ht hp htx ?_)
  unfold sc_cb at h
  refine br_c (fun a => br_c (fun b => ?_) (fun b => ?_)) (fun a => br_c (fun b => br_c (fun c => ?_) (fun c => ?_)) (fun b => ?_))
  · rw [if_pos a, if_pos b] at h; exact h
  · rw [if_pos a, if_neg b] at h; exact h
  · rw [if_neg a, if_pos b, if_pos c] at h; exact h
  · rw [if_neg a, if_pos b, if_neg c] at h; exact h
  · rw [if_neg a, if_neg b] at h; exact h
theorem x_ca_l {post : Int32 → Prop} {t : Nat} (ht : t < 2) (htx : sc_Chr tx) : ∀ k, k < 16 → post (nI (sc_ca (sc_kd ki tx t) k)) → wX_wordCharacterUpTo_2 post (nI t) cc rl wl cl dt df ds ex lo uf us fi ki ef es di we cf cs cm tx le rr wk sh fo fl el ec ke kl em oe be pl po (k + 1) (nI k) := by
  intro k
  induction k with
  | zero => exact fun hk h => br_t (by decide) h
  | succ k ih =>
    intro hk h
    unfold sc_ca at h
    refine br_f (nI_nle (by omega) (by omega)) (x_kindAt ht hk htx (br_c (fun a => ?_) (fun a => ?_)))
    · rw [nI_pred]
      refine x_kindAt ht (by omega) htx (br_c (fun b => ?_) (fun b => nm_r (pk_m1 k) (ih (by omega) ?_)))
      · rw [if_pos a, if_pos b] at h; exact h
      · rw [if_pos a, if_neg b] at h; exact h
    · rw [if_neg a] at h; exact h
theorem x_ca {post : Int32 → Prop} {t k : Nat} (ht : t < 2) (htx : sc_Chr tx) (hk : k < 16) (h : post (nI (sc_ca (sc_kd ki tx t) k))) : wpX_wordCharacterUpTo post (cc, rl, wl, cl, dt, df, ds, ex, lo, uf, us, fi, ki, ef, es, di, we, cf, cs, cm, tx, le, rr, wk, sh, fo, fl, el, ec, ke, kl, em, oe, be, pl, po) (nI t) (nI k) := ⟨k + 1, x_ca_l ht htx k hk h⟩
theorem x_kb_l {post : Int32 → Prop} {t n : Nat} (ht : t < 2) (htx : sc_Chr tx) (hn : n ≤ 16) (hl : le t = nI n) : ∀ d i, i + d = n → post (sc_kb (sc_kd ki tx t) d i) → wX_kindBehind_4 post (nI t) cc rl wl cl dt df ds ex lo uf us fi ki ef es di we cf cs cm tx le rr wk sh fo fl el ec ke kl em oe be pl po (d + 1) (nI i) := by
  intro d
  have hL : le (nI t).toNatClampNeg = nI n := by rw [nI_clamp (by omega), hl]
  induction d with
  | zero => exact fun i hi h => ⟨vp_in_nI ht (by decide), br_t (by rw [hL]; exact nI_le (by omega) (by omega)) h⟩
  | succ d ih =>
    intro i hi h
    unfold sc_kb at h
    refine ⟨vp_in_nI ht (by decide), br_f (by rw [hL]; exact nI_ge (by omega) (by omega)) (x_kindAt ht (by omega) htx (br_c (fun a => nm_r (nI_1 i) (ih (i + 1) (by omega) ?_)) (fun a => ?_)))⟩
    · rw [if_pos a] at h; exact h
    · rw [if_neg a] at h; exact h
theorem x_kb {post : Int32 → Prop} {t n p : Nat} (ht : t < 2) (htx : sc_Chr tx) (hn : n ≤ 16) (hl : le t = nI n) (hp : p < n) (h : post (sc_kb (sc_kd ki tx t) (n - (p + 1)) (p + 1))) : wpX_kindBehind post (cc, rl, wl, cl, dt, df, ds, ex, lo, uf, us, fi, ki, ef, es, di, we, cf, cs, cm, tx, le, rr, wk, sh, fo, fl, el, ec, ke, kl, em, oe, be, pl, po) (nI t) (nI p) := by
  unfold wpX_kindBehind
  exact nm_r (nI_1 p) ⟨n - (p + 1) + 1, x_kb_l ht htx hn hl _ (p + 1) (by omega) h⟩
theorem x_joined {post : Int32 → Prop} {x y : Int32} (h1 : sc_Jn x y → post 1) (h0 : ¬ sc_Jn x y → post 0) : wpX_isJoined post (cc, rl, wl, cl, dt, df, ds, ex, lo, uf, us, fi, ki, ef, es, di, we, cf, cs, cm, tx, le, rr, wk, sh, fo, fl, el, ec, ke, kl, em, oe, be, pl, po) x y := by
  unfold sc_Jn at h1 h0
  unfold wpX_isJoined wX_isJoined_10 wX_isJoined_15 wX_isJoined_26 wX_isJoined_31
  dsimp only
  repeat' (refine br_c (fun _ => ?_) (fun _ => ?_))
  all_goals first | (refine h1 ?_; simp_all) | (refine h0 ?_; simp_all) | simp_all
theorem x_bridged {post : Int32 → Prop} {x y z : Int32} (h1 : sc_Br x y z → post 1) (h0 : ¬ sc_Br x y z → post 0) : wpX_isBridged post (cc, rl, wl, cl, dt, df, ds, ex, lo, uf, us, fi, ki, ef, es, di, we, cf, cs, cm, tx, le, rr, wk, sh, fo, fl, el, ec, ke, kl, em, oe, be, pl, po) x y z := by
  unfold sc_Br at h1 h0
  unfold wpX_isBridged
  dsimp only
  repeat' (refine br_c (fun _ => ?_) (fun _ => ?_))
  all_goals first | (refine h1 ?_; simp_all) | (refine h0 ?_; simp_all) | simp_all
theorem x_bw77 {post : Int32 → Prop} {t n p : Nat} {y x w : Int32} (ht : t < 2) (htx : sc_Chr tx) (hn : n ≤ 16) (hl : le t = nI n) (hp : p < n) (h : post (sc_b (sc_Wd w x y (sc_kb (sc_kd ki tx t) (n - (p + 1)) (p + 1))))) : wX_breaksWord_77 post (nI t) (nI p) y x w cc rl wl cl dt df ds ex lo uf us fi ki ef es di we cf cs cm tx le rr wk sh fo fl el ec ke kl em oe be pl po := by
  unfold wX_breaksWord_77
  refine x_kb ht htx hn hl hp (x_joined (fun j => br_f (by decide) ?_) (fun j => br_t rfl (x_bridged (fun b => br_f (by decide) ?_) (fun b => br_t rfl (x_bridged (fun b' => br_f (by decide) ?_) (fun b' => br_t rfl ?_))))))
  · rw [sc_bf (fun z => z.1 j)] at h; exact h
  · rw [sc_bf (fun z => z.2.1 b)] at h; exact h
  · rw [sc_bf (fun z => z.2.2 b')] at h; exact h
  · rw [sc_bt ⟨j, b, b'⟩] at h; exact h
theorem x_breaksWord {post : Int32 → Prop} {t n p : Nat} (ht : t < 2) (htx : sc_Chr tx) (hn : n ≤ 16) (hl : le t = nI n) (hp : p + 1 < n) (h : post (sc_wb (sc_kd ki tx t) n (p + 1))) : wpX_breaksWord post (cc, rl, wl, cl, dt, df, ds, ex, lo, uf, us, fi, ki, ef, es, di, we, cf, cs, cm, tx, le, rr, wk, sh, fo, fl, el, ec, ke, kl, em, oe, be, pl, po) (nI t) (nI (p + 1)) := by
  unfold wpX_breaksWord
  unfold sc_wb at h
  rw [Nat.add_sub_cancel] at h
  have hc := sc_ca_le (sc_kd ki tx t) p
  rw [nI_pred]
  refine x_kindAt ht (by omega) htx (br_c (fun a => x_kindAt ht (by omega) htx (br_c (fun b => ?_) (fun b => ?_))) (fun a => x_ca ht htx (by omega) (x_kindAt ht (by omega) htx ?_)))
  · rw [if_pos a, if_pos b] at h; exact h
  · rw [if_pos a, if_neg b] at h; exact h
  · rw [if_neg a] at h
    by_cases c0 : sc_ca (sc_kd ki tx t) p = 0
    · rw [if_pos c0] at h
      exact br_t (by rw [c0]; decide) (x_bw77 ht htx hn hl hp h)
    · rw [if_neg c0] at h
      obtain ⟨q, hq⟩ : ∃ q, sc_ca (sc_kd ki tx t) p = q + 1 := ⟨_, (Nat.succ_pred c0).symm⟩
      have hc2 := sc_ca_le (sc_kd ki tx t) q
      refine br_f (nI_nle (by omega) (by omega)) ?_
      rw [hq, Nat.add_sub_cancel] at h
      rw [hq, nI_pred]
      exact x_ca ht htx (by omega) (x_kindAt ht (by omega) htx (x_bw77 ht htx hn hl hp h))
end
section
variable {cc rl yn : Int32} {cl dt df pb lo uf us fi ki wt ef eb di ex cf cs cm lg tx le rr ro fm fL ee en ye lv se pg ou : Nat → Int32}
theorem y_kindAt {post : Int32 → Prop} {t k : Nat} (ht : t < 2) (hk : k < 16) (htx : sc_Chr tx) (h : post (sc_kd ki tx t k)) : wpY_kindAt post (cc, rl, yn, cl, dt, df, pb, lo, uf, us, fi, ki, wt, ef, eb, di, ex, cf, cs, cm, lg, tx, le, rr, ro, fm, fL, ee, en, ye, lv, se, pg, ou) (nI t) (nI k) := by
  have e : 16 * nI t + nI k = nI (16 * t + k) := sn_16 t k
  have c : (16 * nI t + nI k).toNatClampNeg = 16 * t + k := by rw [e, nI_clamp (by omega)]
  exact ⟨pk_in (16 * t + k) 32 (by omega) e, htx _, by rw [c]; exact h⟩
theorem y_ca_l {post : Int32 → Prop} {t : Nat} (ht : t < 2) (htx : sc_Chr tx) : ∀ k, k < 16 → post (nI (sc_ca (sc_kd ki tx t) k)) → wY_carrier_2 post (nI t) cc rl yn cl dt df pb lo uf us fi ki wt ef eb di ex cf cs cm lg tx le rr ro fm fL ee en ye lv se pg ou (k + 1) (nI k) := by
  intro k
  induction k with
  | zero => exact fun hk h => br_t (by decide) h
  | succ k ih =>
    intro hk h
    unfold sc_ca at h
    refine br_f (nI_nle (by omega) (by omega)) (y_kindAt ht hk htx (br_c (fun a => ?_) (fun a => ?_)))
    · rw [nI_pred]
      refine y_kindAt ht (by omega) htx (br_c (fun b => ?_) (fun b => nm_r (pk_m1 k) (ih (by omega) ?_)))
      · rw [if_pos a, if_pos b] at h; exact h
      · rw [if_pos a, if_neg b] at h; exact h
    · rw [if_neg a] at h; exact h
theorem y_ca {post : Int32 → Prop} {t k : Nat} (ht : t < 2) (htx : sc_Chr tx) (hk : k < 16) (h : post (nI (sc_ca (sc_kd ki tx t) k))) : wpY_carrier post (cc, rl, yn, cl, dt, df, pb, lo, uf, us, fi, ki, wt, ef, eb, di, ex, cf, cs, cm, lg, tx, le, rr, ro, fm, fL, ee, en, ye, lv, se, pg, ou) (nI t) (nI k) := ⟨k + 1, y_ca_l ht htx k hk h⟩
theorem y_wl {post : Int32 → Prop} {x : Int32} (h1 : x = 4 ∨ x = 5 → post 1) (h0 : ¬ (x = 4 ∨ x = 5) → post 0) : wpY_wordLike post x :=
  br_c (fun a => h1 (Or.inl a)) (fun a => br_c (fun b => h1 (Or.inr b)) (fun b => h0 (fun z => z.elim a b)))
theorem y_wb239 {post : Int32 → Prop} {x y w z : Int32} (hj : ¬ sc_Jn x y) (hb : ¬ sc_Br x y z) (h : post (sc_b (sc_Wd w x y z))) : wY_wordBreak_239 post x y w cc rl yn cl dt df pb lo uf us fi ki wt ef eb di ex cf cs cm lg tx le rr ro fm fL ee en ye lv se pg ou := by
  unfold wY_wordBreak_239
  refine y_wl (fun a => br_f (by decide) (br_c (fun b => br_c (fun c => ?_) (fun c => ?_)) (fun b => ?_))) (fun a => br_t rfl ?_)
  · rw [sc_bf (fun q => q.2.2 ⟨b, c, by rw [c]; exact a⟩)] at h; exact h
  · rw [sc_bt ⟨hj, hb, fun q => c q.2.1⟩] at h; exact h
  · rw [sc_bt ⟨hj, hb, fun q => b q.1⟩] at h; exact h
  · rw [sc_bt ⟨hj, hb, fun q => a (by rw [← q.2.1]; exact q.2.2)⟩] at h; exact h
theorem y_wb217 {post : Int32 → Prop} {x y w z : Int32} (hj : ¬ sc_Jn x y) (h : post (sc_b (sc_Wd w x y z))) : wY_wordBreak_217 post x y w z cc rl yn cl dt df pb lo uf us fi ki wt ef eb di ex cf cs cm lg tx le rr ro fm fL ee en ye lv se pg ou := by
  unfold wY_wordBreak_217
  refine y_wl (fun a => br_f (by decide) (br_c (fun b => br_c (fun c => ?_) (fun c => ?_)) (fun b => ?_))) (fun a => br_t rfl ?_)
  · rw [sc_bf (fun q => q.2.1 ⟨b, c.symm, a⟩)] at h; exact h
  · exact y_wb239 hj (fun q => c q.2.1.symm) h
  · exact y_wb239 hj (fun q => b q.1) h
  · exact y_wb239 hj (fun q => a q.2.2) h
theorem y_wb194 {post : Int32 → Prop} {x y w z : Int32} (hj : ¬ (x = 4 ∨ x = 5) ∨ ¬ (y = 4 ∨ y = 5 ∨ y = 7)) (h : post (sc_b (sc_Wd w x y z))) : wY_wordBreak_194 post x y w z cc rl yn cl dt df pb lo uf us fi ki wt ef eb di ex cf cs cm lg tx le rr ro fm fL ee en ye lv se pg ou := by
  unfold wY_wordBreak_194
  refine br_c (fun a => y_wl (fun b => br_f (by decide) ?_) (fun b => br_t rfl (br_c (fun c => ?_) (fun c => y_wb217 ?_ h)))) (fun a => y_wb217 ?_ h)
  · rw [sc_bf (fun q => q.1 ⟨Or.inr (Or.inr a), b.elim Or.inl (fun e => Or.inr (Or.inl e))⟩)] at h; exact h
  · rw [sc_bf (fun q => q.1 ⟨Or.inr (Or.inr a), Or.inr (Or.inr c)⟩)] at h; exact h
  · exact fun q => q.2.elim (fun e => b (Or.inl e)) (fun e => e.elim (fun e => b (Or.inr e)) c)
  · exact fun q => hj.elim (fun e => q.1.elim (fun f => e (Or.inl f)) (fun f => f.elim (fun f => e (Or.inr f)) a)) (fun e => e q.2)
theorem y_wb162 {post : Int32 → Prop} {t i : Nat} {y w z : Int32} (ht : t < 2) (htx : sc_Chr tx) (hi : i < 16) (h : post (sc_b (sc_Wd w (sc_kd ki tx t i) y z))) : wY_wordBreak_162 post (nI t) y (nI i) w z cc rl yn cl dt df pb lo uf us fi ki wt ef eb di ex cf cs cm lg tx le rr ro fm fL ee en ye lv se pg ou := by
  unfold wY_wordBreak_162
  refine y_kindAt ht hi htx (y_wl (fun a => br_f (by decide) (y_wl (fun b => br_f (by decide) ?_) (fun b => br_t rfl (br_c (fun c => ?_) (fun c => y_wb194 (Or.inr ?_) h))))) (fun a => br_t rfl (y_wb194 (Or.inl a) h)))
  · rw [sc_bf (fun q => q.1 ⟨a.elim Or.inl (fun e => Or.inr (Or.inl e)), b.elim Or.inl (fun e => Or.inr (Or.inl e))⟩)] at h; exact h
  · rw [sc_bf (fun q => q.1 ⟨a.elim Or.inl (fun e => Or.inr (Or.inl e)), Or.inr (Or.inr c)⟩)] at h; exact h
  · exact fun q => q.elim (fun e => b (Or.inl e)) (fun e => e.elim (fun e => b (Or.inr e)) c)
theorem y_wb138 {post : Int32 → Prop} {t n i j : Nat} {y w : Int32} (ht : t < 2) (htx : sc_Chr tx) (hn : n ≤ 16) (hl : le t = nI n) (hi : i < 16) (hj : j ≤ n) (h : post (sc_b (sc_Wd w (sc_kd ki tx t i) y (if j < n then sc_kd ki tx t j else -1)))) : wY_wordBreak_138 post (nI t) y (nI i) (nI j) w cc rl yn cl dt df pb lo uf us fi ki wt ef eb di ex cf cs cm lg tx le rr ro fm fL ee en ye lv se pg ou := by
  have hL : le (nI t).toNatClampNeg = nI n := by rw [nI_clamp (by omega), hl]
  refine ⟨vp_in_nI ht (by decide), ?_⟩
  rw [hL]
  by_cases c : j < n
  · rw [if_pos c] at h
    exact br_f (nI_ge c (by omega)) (y_kindAt ht (by omega) htx (y_wb162 ht htx hi h))
  · rw [if_neg c] at h
    exact br_t (nI_le (by omega) (by omega)) (y_wb162 ht htx hi h)
theorem y_wb94 {post : Int32 → Prop} {t n i : Nat} {y q : Int32} (ht : t < 2) (htx : sc_Chr tx) (hn : n ≤ 16) (hl : le t = nI n) :
    ∀ d j, j + d = n → (∀ j', j' ≤ n → (if j' < n then sc_kd ki tx t j' else -1) = sc_kb (sc_kd ki tx t) d j → wY_wordBreak_122 post (nI t) y (nI i) q (nI j') cc rl yn cl dt df pb lo uf us fi ki wt ef eb di ex cf cs cm lg tx le rr ro fm fL ee en ye lv se pg ou) → wY_wordBreak_94 post (nI t) y (nI i) q cc rl yn cl dt df pb lo uf us fi ki wt ef eb di ex cf cs cm lg tx le rr ro fm fL ee en ye lv se pg ou (d + 1) (nI j) := by
  have hL : le (nI t).toNatClampNeg = nI n := by rw [nI_clamp (by omega), hl]
  intro d
  induction d with
  | zero => exact fun j hj h => ⟨vp_in_nI ht (by decide), br_t (by rw [hL]; exact nI_le (by omega) (by omega)) (h j (by omega) (if_neg (by omega)))⟩
  | succ d ih =>
    intro j hj h
    unfold sc_kb at h
    refine ⟨vp_in_nI ht (by decide), br_f (by rw [hL]; exact nI_ge (by omega) (by omega)) (y_kindAt ht (by omega) htx (br_c (fun a => nm_r (nI_1 j) (ih (j + 1) (by omega) ?_)) (fun a => ?_)))⟩
    · rw [if_pos a] at h; exact h
    · rw [if_neg a] at h; exact h j (by omega) (if_pos (by omega))
theorem y_wb59 {post : Int32 → Prop} {t n p : Nat} {y : Int32} (ht : t < 2) (htx : sc_Chr tx) (hn : n ≤ 16) (hl : le t = nI n) (hp : p + 1 < n)
    (h : post (sc_b (sc_Wd (if sc_ca (sc_kd ki tx t) p = 0 then -1 else sc_kd ki tx t (sc_ca (sc_kd ki tx t) (sc_ca (sc_kd ki tx t) p - 1))) (sc_kd ki tx t (sc_ca (sc_kd ki tx t) p)) y (sc_kb (sc_kd ki tx t) (n - (p + 1 + 1)) (p + 1 + 1))))) : wY_wordBreak_59 post (nI t) (nI (p + 1)) y cc rl yn cl dt df pb lo uf us fi ki wt ef eb di ex cf cs cm lg tx le rr ro fm fL ee en ye lv se pg ou := by
  unfold wY_wordBreak_59
  have hc := sc_ca_le (sc_kd ki tx t) p
  rw [nI_pred]
  refine y_ca ht htx (by omega) ?_
  by_cases c0 : sc_ca (sc_kd ki tx t) p = 0
  · rw [if_pos c0] at h
    refine br_t (by rw [c0]; decide) (nm_r (nI_1 _) ⟨_, y_wb94 ht htx hn hl (n - (p + 1 + 1)) (p + 1 + 1) (by omega) (fun j hj e => br_f (by decide) (y_wb138 ht htx hn hl (by omega) hj ?_))⟩)
    rw [e]; exact h
  · rw [if_neg c0] at h
    obtain ⟨q, hq⟩ : ∃ q, sc_ca (sc_kd ki tx t) p = q + 1 := ⟨_, (Nat.succ_pred c0).symm⟩
    have hc2 := sc_ca_le (sc_kd ki tx t) q
    refine br_f (nI_nle (by omega) (by omega)) ?_
    rw [hq, Nat.add_sub_cancel] at h
    rw [hq, nI_pred]
    refine y_ca ht htx (by omega) (nm_r (nI_1 _) ⟨_, y_wb94 ht htx hn hl (n - (p + 1 + 1)) (p + 1 + 1) (by omega) (fun j hj e => br_t (nI_pos' (by omega)) (y_kindAt ht (by omega) htx (y_wb138 ht htx hn hl (by omega) hj ?_)))⟩)
    rw [e]; exact h
end
end
section
/-! breaks as bits -/
noncomputable def sc_q (g : Nat → Int32) (n : Nat) (kd : Int32) (p : Nat) : Int32 :=
  if p = 0 ∨ p = n then (if n = 0 then 0 else 1) else if kd = 0 then sc_cb (g (p - 1)) (g p) else sc_wb g n p
def sc_bm (q : Nat → Int32) : Nat → Nat
  | 0 => 0
  | p + 1 => sc_bm q p + (if q p = 0 then 0 else 2 ^ p)
theorem sc_bm_lt (q : Nat → Int32) : ∀ p, sc_bm q p < 2 ^ p := by
  intro p
  induction p with
  | zero => exact Nat.one_pos
  | succ p ih =>
    unfold sc_bm
    rw [Nat.pow_succ]
    by_cases h : q p = 0
    · rw [if_pos h]; omega
    · rw [if_neg h]; omega
theorem sc_bm_bit (q : Nat → Int32) : ∀ p i, (sc_bm q p).testBit i = decide (i < p ∧ ¬ q i = 0) := by
  intro p
  induction p with
  | zero => intro i; unfold sc_bm; simp
  | succ p ih =>
    intro i
    unfold sc_bm
    have hl := sc_bm_lt q p
    by_cases h : q p = 0
    · rw [if_pos h, Nat.add_zero, ih i]
      apply decide_eq_decide.mpr
      constructor
      · exact fun z => ⟨by omega, z.2⟩
      · intro z
        refine ⟨?_, z.2⟩
        rcases Nat.lt_or_ge i p with y | y
        · exact y
        · have : i = p := by omega
          subst this; exact absurd h z.2
    · rw [if_neg h, Nat.add_comm]
      rcases Nat.lt_trichotomy i p with y | y | y
      · rw [Nat.testBit_two_pow_add_gt y, ih i]
        apply decide_eq_decide.mpr
        exact ⟨fun z => ⟨by omega, z.2⟩, fun z => ⟨y, z.2⟩⟩
      · subst y
        rw [Nat.testBit_two_pow_add_eq, ih i]
        simp [h]
      · rw [Nat.testBit_lt_two_pow (Nat.lt_of_lt_of_le (show 2 ^ p + sc_bm q p < 2 ^ (p + 1) by rw [Nat.pow_succ]; omega) (Nat.pow_le_pow_right (by decide) y))]
        symm
        apply decide_eq_false
        intro z
        omega
theorem sc_btN {m i : Nat} (hi : i < 32) : bt (nI m) i = m.testBit i := by
  show (BitVec.ofNat 32 m).getLsbD i = _
  rw [BitVec.getLsbD_ofNat]
  simp [hi]
theorem sc_bt1 {p i : Nat} (hp : p < 32) (hi : i < 32) : bt ((1 : Int32) <<< (nI p &&& 31)) i = decide (i = p) := by
  rw [b_shl p hp _ hi, show (1 : Int32) = nI 1 from rfl, sc_btN (by omega)]
  by_cases h : p ≤ i
  · by_cases e : i = p
    · subst e; simp
    · obtain ⟨d, hd⟩ : ∃ d, i - p = d + 1 := ⟨i - p - 1, by omega⟩
      rw [hd, Nat.testBit_succ]
      simp [h, e]
  · have e : ¬ i = p := by omega
    simp [h, e]
theorem sc_shlN {p : Nat} (hp : p < 31) : (1 : Int32) <<< (nI p &&& 31) = nI (2 ^ p) := by
  have := pk_shlN (n := 1) (nI p &&& 31) p (s_l p (by omega)) (by rw [Nat.one_mul]; exact Nat.pow_lt_pow_right (by decide) (by omega))
  rw [Nat.one_mul] at this
  exact this
theorem sc_isin {m p : Nat} (hp : p < 31) (hm : m < 2 ^ 31) : ((nI m >>> (nI p &&& 31)) &&& 1) = 1 ↔ m.testBit p = true := by
  rw [pk_shrN hm _ p (s_l p (by omega)), pk_andN (n := m / 2 ^ p) (Nat.lt_of_le_of_lt (Nat.div_le_self _ _) (by omega)) (m := 1) 1 (by decide)]
  rw [Nat.testBit_eq_decide_div_mod_eq, decide_eq_true_iff]
  have h2 : m / 2 ^ p % 2 ^ 1 < 2 := Nat.mod_lt _ (by decide)
  rw [show (1 : Int32) = nI 1 from rfl, nI_eq (by omega) (by omega)]
theorem sc_wd1 (w z : Int32) : sc_Wd w 1 2 z := ⟨fun h => absurd h.1 (by decide), fun h => absurd h.1 (by decide), fun h => absurd h.1 (by decide)⟩
theorem sc_ca1 {g : Nat → Int32} {p : Nat} (h : g p = 1) : sc_ca g p = p := by
  cases p with
  | zero => rfl
  | succ p => unfold sc_ca; rw [if_neg (by rw [h]; decide)]
section
variable {cc rl yn : Int32} {cl dt df pb lo uf us fi ki wt ef eb di ex cf cs cm lg tx le rr ro fm fL ee en ye lv se pg ou : Nat → Int32}
theorem y_cb14 {post : Int32 → Prop} {t n : Nat} (ht : t < 2) (hn : n ≤ 16) (hl : le t = nI n) (h : post (if n = 0 then 0 else 1)) : wY_clusterBreak_14 post (nI t) cc rl yn cl dt df pb lo uf us fi ki wt ef eb di ex cf cs cm lg tx le rr ro fm fL ee en ye lv se pg ou := by
  have hL : le (nI t).toNatClampNeg = nI n := by rw [nI_clamp (by omega), hl]
  refine ⟨vp_in_nI ht (by decide), ?_⟩
  rw [hL]
  by_cases c : n = 0
  · subst c; exact br_t (by decide) h
  · rw [if_neg c] at h; exact br_f (nI_nle (by omega) (by omega)) h
theorem y_wb14 {post : Int32 → Prop} {t n : Nat} (ht : t < 2) (hn : n ≤ 16) (hl : le t = nI n) (h : post (if n = 0 then 0 else 1)) : wY_wordBreak_14 post (nI t) cc rl yn cl dt df pb lo uf us fi ki wt ef eb di ex cf cs cm lg tx le rr ro fm fL ee en ye lv se pg ou := by
  have hL : le (nI t).toNatClampNeg = nI n := by rw [nI_clamp (by omega), hl]
  refine ⟨vp_in_nI ht (by decide), ?_⟩
  rw [hL]
  by_cases c : n = 0
  · subst c; exact br_t (by decide) h
  · rw [if_neg c] at h; exact br_f (nI_nle (by omega) (by omega)) h
theorem y_cluster {post : Int32 → Prop} {t n p : Nat} (ht : t < 2) (htx : sc_Chr tx) (hn : n ≤ 16) (hl : le t = nI n) (hp : p ≤ n) (h : post (sc_q (sc_kd ki tx t) n 0 p)) : wpY_clusterBreak post (cc, rl, yn, cl, dt, df, pb, lo, uf, us, fi, ki, wt, ef, eb, di, ex, cf, cs, cm, lg, tx, le, rr, ro, fm, fL, ee, en, ye, lv, se, pg, ou) (nI t) (nI p) := by
  have hL : le (nI t).toNatClampNeg = nI n := by rw [nI_clamp (by omega), hl]
  unfold sc_q at h
  unfold wpY_clusterBreak
  cases p with
  | zero => rw [if_pos (Or.inl rfl)] at h; exact br_t rfl (y_cb14 ht hn hl h)
  | succ p =>
    refine br_f (nI_ne0 (by omega) (by omega)) ⟨vp_in_nI ht (by decide), ?_⟩
    rw [hL]
    by_cases c : p + 1 = n
    · rw [if_pos (Or.inr c)] at h; exact br_t (by rw [c]) (y_cb14 ht hn hl h)
    · rw [if_neg (fun z => z.elim (by omega) c), if_pos rfl, Nat.add_sub_cancel] at h
      refine br_f (fun z => c ((nI_eq (by omega) (by omega)).mp z)) ?_
      rw [nI_pred]
      refine y_kindAt ht (by omega) htx (y_kindAt ht (by omega) htx ?_)
      unfold sc_cb at h
      refine br_c (fun a => br_c (fun b => br_f (by rw [b]; decide) ?_) (fun b => ?_)) (fun a => br_c (fun b => br_c (fun c => ?_) (fun c => ?_)) (fun b => ?_))
      · rw [if_pos a, if_pos b] at h; exact h
      · rw [if_pos a, if_neg b] at h; exact h
      · rw [if_neg a, if_pos b, if_pos c] at h; exact h
      · rw [if_neg a, if_pos b, if_neg c] at h; exact h
      · rw [if_neg a, if_neg b] at h; exact h
theorem y_word {post : Int32 → Prop} {t n p : Nat} {kd : Int32} (hkd : ¬ kd = 0) (ht : t < 2) (htx : sc_Chr tx) (hn : n ≤ 16) (hl : le t = nI n) (hp : p ≤ n) (h : post (sc_q (sc_kd ki tx t) n kd p)) : wpY_wordBreak post (cc, rl, yn, cl, dt, df, pb, lo, uf, us, fi, ki, wt, ef, eb, di, ex, cf, cs, cm, lg, tx, le, rr, ro, fm, fL, ee, en, ye, lv, se, pg, ou) (nI t) (nI p) := by
  have hL : le (nI t).toNatClampNeg = nI n := by rw [nI_clamp (by omega), hl]
  unfold sc_q at h
  unfold wpY_wordBreak
  cases p with
  | zero => rw [if_pos (Or.inl rfl)] at h; exact br_t rfl (y_wb14 ht hn hl h)
  | succ p =>
    refine br_f (nI_ne0 (by omega) (by omega)) ⟨vp_in_nI ht (by decide), ?_⟩
    rw [hL]
    by_cases c : p + 1 = n
    · rw [if_pos (Or.inr c)] at h; exact br_t (by rw [c]) (y_wb14 ht hn hl h)
    · rw [if_neg (fun z => z.elim (by omega) c), if_neg hkd] at h
      refine br_f (fun z => c ((nI_eq (by omega) (by omega)).mp z)) ?_
      rw [nI_pred]
      refine y_kindAt ht (by omega) htx (y_kindAt ht (by omega) htx ?_)
      unfold sc_wb at h
      rw [Nat.add_sub_cancel] at h
      refine br_c (fun a => br_c (fun b => y_wb59 ht htx hn hl (by omega) ?_) (fun b => ?_)) (fun a => y_wb59 ht htx hn hl (by omega) ?_)
      · rw [if_pos a, if_pos b] at h
        rw [sc_ca1 b, b, a, sc_bt (sc_wd1 _ _)]
        exact h
      · rw [if_pos a, if_neg b] at h; exact h
      · rw [if_neg a] at h; exact h
theorem y_breaks_l {post : Int32 → Prop} {t n : Nat} {kd : Int32} (ht : t < 2) (htx : sc_Chr tx) (hn : n ≤ 16) (hl : le t = nI n) (h : post (nI (sc_bm (sc_q (sc_kd ki tx t) n kd) (n + 1)))) :
    ∀ d p, p + d = n + 1 → wY_breaks_21 post (nI t) kd cc rl yn cl dt df pb lo uf us fi ki wt ef eb di ex cf cs cm lg tx le rr ro fm fL ee en ye lv se pg ou (d + 1) (nI (sc_bm (sc_q (sc_kd ki tx t) n kd) p)) (nI p) := by
  have hL : le (nI t).toNatClampNeg = nI n := by rw [nI_clamp (by omega), hl]
  intro d
  induction d with
  | zero =>
    intro p hp
    obtain rfl : p = n + 1 := by omega
    exact ⟨vp_in_nI ht (by decide), br_t (by rw [hL]; exact nI_lt (by omega) (by omega)) h⟩
  | succ d ih =>
    intro p hp
    have step : ∀ r, r = sc_q (sc_kd ki tx t) n kd p → wY_breaks_53 post (wY_breaks_21 post (nI t) kd cc rl yn cl dt df pb lo uf us fi ki wt ef eb di ex cf cs cm lg tx le rr ro fm fL ee en ye lv se pg ou (d + 1)) (nI t) kd (nI (sc_bm (sc_q (sc_kd ki tx t) n kd) p)) (nI p) r cc rl yn cl dt df pb lo uf us fi ki wt ef eb di ex cf cs cm lg tx le rr ro fm fL ee en ye lv se pg ou := by
      intro r er
      have g := ih (p + 1) (by omega)
      unfold sc_bm at g
      refine br_c (fun a => nm_r (nI_1 p) ?_) (fun a => nm_r (e' := nI (sc_bm (sc_q (sc_kd ki tx t) n kd) p + 2 ^ p)) ?_ (nm_r (nI_1 p) ?_))
      · rw [if_pos (er ▸ a), Nat.add_zero] at g; exact g
      · rw [sc_shlN (by omega), nI_add]
      · rw [if_neg (er ▸ a)] at g; exact g
    refine ⟨vp_in_nI ht (by decide), br_f (by rw [hL]; exact nI_nlt (by omega) (by omega)) (br_c (fun a => ?_) (fun a => ?_))⟩
    · exact y_cluster ht htx hn hl (by omega) (step _ (by rw [a]))
    · exact y_word a ht htx hn hl (by omega) (step _ rfl)
theorem y_breaks {post : Int32 → Prop} {t n w : Nat} (ht : t < 2) (hw : w < 2) (htx : sc_Chr tx) (hn : n ≤ 16) (hl : le t = nI n) (h : post (nI (sc_bm (sc_q (sc_kd ki tx t) n (nI w)) (n + 1)))) : wpY_breaks post (cc, rl, yn, cl, dt, df, pb, lo, uf, us, fi, ki, wt, ef, eb, di, ex, cf, cs, cm, lg, tx, le, rr, ro, fm, fL, ee, en, ye, lv, se, pg, ou) (nI t) (nI w) := by
  unfold wpY_breaks
  exact ys_text1 ht (br_f (by decide) (ys_text1 hw (br_f (by decide) ⟨_, y_breaks_l ht htx hn hl h (n + 1) 0 (by omega)⟩)))
end
section
variable {cc rl wl : Int32} {cl dt df ds ex lo uf us fi ki ef es di we cf cs cm tx le rr wk sh fo fl el ec ke kl em oe be pl po : Nat → Int32}
theorem x_fb_l {post : Int32 → Prop} {t n : Nat} {kd : Int32} (ht : t < 2) (htx : sc_Chr tx) (hn : n ≤ 16) (hn0 : 0 < n) (hl : le t = nI n) (h : post (nI (sc_bm (sc_q (sc_kd ki tx t) n kd) (n + 1)))) :
    ∀ d p m, p + 1 + d = n → (∀ i, i < 32 → bt m i = decide (i = 0 ∨ i = n ∨ i < p + 1 ∧ ¬ sc_q (sc_kd ki tx t) n kd i = 0)) → wX_findBreaks_25 post (nI t) kd (nI n) cc rl wl cl dt df ds ex lo uf us fi ki ef es di we cf cs cm tx le rr wk sh fo fl el ec ke kl em oe be pl po (d + 1) m (nI (p + 1)) := by
  intro d
  induction d with
  | zero =>
    intro p m hp hm
    refine br_t (nI_le (by omega) (by omega)) ?_
    have e : m = nI (sc_bm (sc_q (sc_kd ki tx t) n kd) (n + 1)) := by
      apply b_ext
      intro i hi
      rw [hm i hi, sc_btN hi, sc_bm_bit]
      apply decide_eq_decide.mpr
      have q0 : ∀ j, j = 0 ∨ j = n → ¬ sc_q (sc_kd ki tx t) n kd j = 0 := by
        intro j hj
        unfold sc_q
        rw [if_pos hj, if_neg (by omega)]
        decide
      constructor
      · rintro (z | z | z)
        · exact ⟨by omega, q0 i (Or.inl z)⟩
        · exact ⟨by omega, q0 i (Or.inr z)⟩
        · exact ⟨by omega, z.2⟩
      · intro z
        by_cases y : i = n
        · exact Or.inr (Or.inl y)
        · exact Or.inr (Or.inr ⟨by omega, z.2⟩)
    rw [e]; exact h
  | succ d ih =>
    intro p m hp hm
    have step : ∀ r, r = sc_q (sc_kd ki tx t) n kd (p + 1) → wX_findBreaks_52 post (wX_findBreaks_25 post (nI t) kd (nI n) cc rl wl cl dt df ds ex lo uf us fi ki ef es di we cf cs cm tx le rr wk sh fo fl el ec ke kl em oe be pl po (d + 1)) (nI t) kd (nI n) m (nI (p + 1)) r cc rl wl cl dt df ds ex lo uf us fi ki ef es di we cf cs cm tx le rr wk sh fo fl el ec ke kl em oe be pl po := by
      intro r er
      refine br_c (fun a => nm_r (nI_1 (p + 1)) (ih (p + 1) m (by omega) ?_)) (fun a => nm_e (nm_r (nI_1 (p + 1)) (ih (p + 1) _ (by omega) ?_)))
      · intro i hi
        rw [hm i hi]
        apply decide_eq_decide.mpr
        rw [er] at a
        constructor
        · rintro (z | z | z)
          · exact Or.inl z
          · exact Or.inr (Or.inl z)
          · exact Or.inr (Or.inr ⟨by omega, z.2⟩)
        · rintro (z | z | z)
          · exact Or.inl z
          · exact Or.inr (Or.inl z)
          · by_cases y : i = p + 1
            · subst y; exact absurd a z.2
            · exact Or.inr (Or.inr ⟨by omega, z.2⟩)
      · intro i hi
        rw [b_or, hm i hi, sc_bt1 (by omega) hi, ← Bool.decide_or]
        apply decide_eq_decide.mpr
        rw [er] at a
        constructor
        · rintro ((z | z | z) | z)
          · exact Or.inl z
          · exact Or.inr (Or.inl z)
          · exact Or.inr (Or.inr ⟨by omega, z.2⟩)
          · subst z; exact Or.inr (Or.inr ⟨by omega, a⟩)
        · rintro (z | z | z)
          · exact Or.inl (Or.inl z)
          · exact Or.inl (Or.inr (Or.inl z))
          · by_cases y : i = p + 1
            · exact Or.inr y
            · exact Or.inl (Or.inr (Or.inr ⟨by omega, z.2⟩))
    have eq : sc_q (sc_kd ki tx t) n kd (p + 1) = if kd = 0 then sc_cb (sc_kd ki tx t p) (sc_kd ki tx t (p + 1)) else sc_wb (sc_kd ki tx t) n (p + 1) := by
      unfold sc_q
      rw [if_neg (by omega), Nat.add_sub_cancel]
    refine br_f (nI_ge (by omega) (by omega)) (br_c (fun a => x_breaksCluster ht (by omega) htx (step _ ?_)) (fun a => x_breaksWord ht htx hn hl (by omega) (step _ ?_)))
    · rw [eq, if_pos a]
    · rw [eq, if_neg a]
theorem x_findBreaks {post : Int32 → Prop} {t n : Nat} {kd : Int32} (ht : t < 2) (htx : sc_Chr tx) (hn : n ≤ 16) (hl : le t = nI n) (h : post (nI (sc_bm (sc_q (sc_kd ki tx t) n kd) (n + 1)))) : wpX_findBreaks post (cc, rl, wl, cl, dt, df, ds, ex, lo, uf, us, fi, ki, ef, es, di, we, cf, cs, cm, tx, le, rr, wk, sh, fo, fl, el, ec, ke, kl, em, oe, be, pl, po) (nI t) kd := by
  have hL : le (nI t).toNatClampNeg = nI n := by rw [nI_clamp (by omega), hl]
  unfold wpX_findBreaks
  refine ⟨vp_in_nI ht (by decide), nm_r hL ?_⟩
  by_cases c : n = 0
  · subst c
    refine br_t (by decide) ⟨1, br_t (by decide) ?_⟩
    unfold sc_bm sc_bm sc_q at h
    exact h
  · refine br_f (nI_nle (by omega) (by omega)) (nm_e ⟨n - 1 + 1, x_fb_l ht htx hn (by omega) hl h (n - 1) 0 _ (by omega) ?_⟩)
    intro i hi
    rw [b_or, show (1 : Int32) = nI 1 from rfl, sc_btN hi]
    rw [show nI 1 = (1 : Int32) from rfl, sc_bt1 (by omega) hi]
    by_cases z : i = 0
    · subst z; simp
    · obtain ⟨j, rfl⟩ : ∃ j, i = j + 1 := ⟨i - 1, by omega⟩
      rw [Nat.testBit_succ]
      simp
theorem x_isIn {post : Int32 → Prop} {m p : Nat} (hp : p < 31) (hm : m < 2 ^ 31) (h1 : m.testBit p = true → post 1) (h0 : m.testBit p = false → post 0) : wpX_isIn post (cc, rl, wl, cl, dt, df, ds, ex, lo, uf, us, fi, ki, ef, es, di, we, cf, cs, cm, tx, le, rr, wk, sh, fo, fl, el, ec, ke, kl, em, oe, be, pl, po) (nI m) (nI p) := by
  refine br_c (fun a => h1 ((sc_isin hp hm).mp a)) (fun a => h0 ?_)
  cases e : m.testBit p
  · rfl
  · exact absurd ((sc_isin hp hm).mpr e) a
end
theorem i_vc_breaks {k : Nat} {u : SX} {v : SY} (I : i_Rel k u v) (hk : k + 5 ≤ 2560) (v1 : Int32) (v2 : Int32) : wpX_breaks (fun r => wpY_breaks (fun r' => r' = r ∧ i_Rel (k + 5) u v) v v1 v2) u v1 v2 := by
  obtain ⟨cc, rl, wl, yn, cl, dt, df, ds, ex, lo, uf, us, fi, ki, ef, es, di, we, cf, cs, cm, tx, le, rr, wk, sh, fo, fl, el, ec, ke, kl, em, oe, be, pl, po, pb, wt, eb, lg, ro, fm, fL, ee, en, rfl, rfl, I⟩ := I
  have I0 := I
  obtain ⟨i1, i2, i3, i4, -⟩ := I
  unfold wpX_breaks
  rcases sn_text v1 with ⟨t, ht, rfl⟩ | ⟨h0, h1, h2⟩
  · obtain ⟨n, hn, hl⟩ := i3 t ht
    refine xs_text1 ht (br_f (by decide) ?_)
    rcases sn_text v2 with ⟨w, hw, rfl⟩ | ⟨h0, h1, h2⟩
    · rcases Nat.lt_or_ge w 1 with z | z
      · obtain rfl : w = 0 := by omega
        exact br_t rfl (x_findBreaks ht i4 hn hl (y_breaks ht hw i4 hn hl ⟨rfl, sc_mk I0⟩))
      · obtain rfl : w = 1 := by omega
        exact br_f (by decide) (br_t rfl (x_findBreaks ht i4 hn hl (y_breaks ht hw i4 hn hl ⟨rfl, sc_mk I0⟩)))
    · refine br_f h0 (br_f h1 ?_)
      unfold wpY_breaks
      exact ys_text1 ht (br_f (by decide) (ys_text0 h0 h1 (br_t rfl ⟨rfl, sc_mk I0⟩)))
  · refine xs_text0 h2 (br_t rfl ?_)
    unfold wpY_breaks
    exact ys_text0 h0 h1 (br_t rfl ⟨rfl, sc_mk I0⟩)
end
section
/-! a row as a list -/
def sc_at : List Int32 → Nat → Int32
  | [], _ => 0
  | x :: _, 0 => x
  | _ :: l, i + 1 => sc_at l i
theorem sc_at_lt : ∀ (l m : List Int32) (i : Nat), i < l.length → sc_at (l ++ m) i = sc_at l i
  | [], _, _, h => absurd h (Nat.not_lt_zero _)
  | _ :: _, _, 0, _ => rfl
  | _ :: l, m, i + 1, h => sc_at_lt l m i (Nat.lt_of_succ_lt_succ h)
theorem sc_at_ge : ∀ (l m : List Int32) (i : Nat), sc_at (l ++ m) (l.length + i) = sc_at m i
  | [], m, i => by show sc_at m (0 + i) = _; rw [Nat.zero_add]
  | x :: l, m, i => by
    show sc_at (x :: (l ++ m)) (l.length + 1 + i) = _
    rw [Nat.add_right_comm]
    exact sc_at_ge l m i
theorem sc_at_ge' (l m : List Int32) {i : Nat} (h : l.length ≤ i) : sc_at (l ++ m) i = sc_at m (i - l.length) := by
  obtain ⟨j, rfl⟩ : ∃ j, i = l.length + j := ⟨i - l.length, by omega⟩
  rw [sc_at_ge, Nat.add_sub_cancel_left]
theorem sc_at_mid (l m : List Int32) (x : Int32) : sc_at (l ++ x :: m) l.length = x := sc_at_ge l (x :: m) 0
theorem sc_at_mem : ∀ (l : List Int32) (i : Nat), i < l.length → sc_at l i ∈ l
  | [], _, h => absurd h (Nat.not_lt_zero _)
  | x :: l, 0, _ => List.mem_cons_self
  | x :: l, i + 1, h => List.mem_cons_of_mem _ (sc_at_mem l i (Nat.lt_of_succ_lt_succ h))
theorem sc_at_ext : ∀ (l m : List Int32), l.length = m.length → (∀ i, i < l.length → sc_at l i = sc_at m i) → l = m
  | [], [], _, _ => rfl
  | [], _ :: _, h, _ => absurd h (by simp)
  | _ :: _, [], h, _ => absurd h (by simp)
  | x :: l, y :: m, h, e => by
    have h0 : x = y := e 0 (by simp)
    have h1 := sc_at_ext l m (by simpa using h) (fun i hi => e (i + 1) (by simpa using hi))
    rw [h0, h1]
def sc_Rp (a : Nat → Int32) (l : List Int32) : Prop := ∀ i, i < l.length → a i = sc_at l i
theorem sc_Rp0 (a : Nat → Int32) : sc_Rp a [] := fun i h => absurd h (Nat.not_lt_zero _)
theorem sc_Rp_mid {a : Nat → Int32} {l m : List Int32} {x : Int32} (h : sc_Rp a (l ++ x :: m)) : a l.length = x := by
  rw [h l.length (by simp), sc_at_mid]
theorem sc_Rp_set {a : Nat → Int32} {l m : List Int32} {x : Int32} (y : Int32) (h : sc_Rp a (l ++ x :: m)) : sc_Rp (upd a l.length y) (l ++ y :: m) := by
  intro i hi
  have hi' : i < (l ++ x :: m).length := by simpa using hi
  by_cases e : i = l.length
  · rw [e, pk_us, sc_at_mid]
  · rw [pk_un e, h i hi']
    rcases Nat.lt_or_ge i l.length with z | z
    · rw [sc_at_lt _ _ _ z, sc_at_lt _ _ _ z]
    · rw [sc_at_ge' _ _ z, sc_at_ge' _ _ z]
      obtain ⟨j, hj⟩ : ∃ j, i - l.length = j + 1 := ⟨i - l.length - 1, by omega⟩
      rw [hj]; rfl
theorem sc_Rp_snoc {a : Nat → Int32} {l : List Int32} (y : Int32) (h : sc_Rp a l) : sc_Rp (upd a l.length y) (l ++ [y]) := by
  intro i hi
  have hi' : i < l.length + 1 := by simpa using hi
  by_cases e : i = l.length
  · rw [e, pk_us, sc_at_mid]
  · rw [pk_un e, h i (by omega), sc_at_lt _ _ _ (by omega)]
theorem sc_Rp_pre {a : Nat → Int32} {l m : List Int32} (h : sc_Rp a (l ++ m)) : sc_Rp a l := by
  intro i hi
  rw [h i (by rw [List.length_append]; omega), sc_at_lt _ _ _ hi]
theorem sc_Rp_eq {a b : Nat → Int32} {l : List Int32} (h : sc_Rp a l) (e : ∀ i, i < l.length → b i = a i) : sc_Rp b l := fun i hi => (e i hi).trans (h i hi)
theorem sc_upV (o : Nat) : ∀ d k a j, sc_up o d k a j = if o + k < j ∧ j ≤ o + k + d then a (j - 1) else a j := by
  intro d
  induction d with
  | zero => intro k a j; exact (if_neg (by omega)).symm
  | succ d ih =>
    intro k a j
    show sc_up o d k (upd a (o + k + d + 1) (a (o + k + d))) j = _
    rw [ih]
    unfold upd
    by_cases h : o + k < j ∧ j ≤ o + k + d
    · rw [if_pos h, if_neg (by omega), if_pos (by omega)]
    · rw [if_neg h]
      by_cases e : j = o + k + d + 1
      · rw [if_pos e, if_pos (by omega), e]; rfl
      · rw [if_neg e, if_neg (by omega)]
theorem sc_dnV (o : Nat) : ∀ d i a j, sc_dn o d i a j = if o + i ≤ j ∧ j < o + i + d then a (j + 1) else a j := by
  intro d
  induction d with
  | zero => intro k a j; exact (if_neg (by omega)).symm
  | succ d ih =>
    intro i a j
    show sc_dn o d (i + 1) (upd a (o + i) (a (o + i + 1))) j = _
    rw [ih]
    unfold upd
    by_cases h : o + (i + 1) ≤ j ∧ j < o + (i + 1) + d
    · rw [if_pos h, if_neg (by omega), if_pos (by omega)]
    · rw [if_neg h]
      by_cases e : j = o + i
      · rw [if_pos e, if_pos (by omega), e]
      · rw [if_neg e, if_neg (by omega)]
theorem sc_Rp_ins {a : Nat → Int32} {l m : List Int32} (c : Int32) (h : sc_Rp a (l ++ m)) : sc_Rp (upd (sc_up 0 m.length l.length a) l.length c) (l ++ c :: m) := by
  intro i hi
  have hi' : i < l.length + m.length + 1 := by simpa [Nat.add_assoc] using hi
  have hh : ∀ j, j < l.length + m.length → a j = sc_at (l ++ m) j := fun j hj => h j (by simpa using hj)
  by_cases e : i = l.length
  · rw [e, pk_us, sc_at_mid]
  · rw [pk_un e, sc_upV, Nat.zero_add]
    rcases Nat.lt_or_ge i l.length with z | z
    · rw [if_neg (by omega), hh i (by omega), sc_at_lt _ _ _ z, sc_at_lt _ _ _ z]
    · obtain ⟨j, rfl⟩ : ∃ j, i = l.length + (j + 1) := ⟨i - l.length - 1, by omega⟩
      rw [if_pos (by omega), sc_at_ge, show l.length + (j + 1) - 1 = l.length + j by omega, hh _ (by omega), sc_at_ge]
      rfl
theorem sc_Rp_del {a : Nat → Int32} {l m : List Int32} {x : Int32} (h : sc_Rp a (l ++ x :: m)) : sc_Rp (sc_dn 0 m.length l.length a) (l ++ m) := by
  intro i hi
  have hi' : i < l.length + m.length := by simpa using hi
  have hh : ∀ j, j < l.length + m.length + 1 → a j = sc_at (l ++ x :: m) j := fun j hj => h j (by simpa [Nat.add_assoc] using hj)
  rw [sc_dnV, Nat.zero_add]
  rcases Nat.lt_or_ge i l.length with z | z
  · rw [if_neg (by omega), hh i (by omega), sc_at_lt _ _ _ z, sc_at_lt _ _ _ z]
  · obtain ⟨j, rfl⟩ : ∃ j, i = l.length + j := ⟨i - l.length, by omega⟩
    rw [if_pos (by omega), sc_at_ge, show l.length + j + 1 = l.length + (j + 1) by omega, hh _ (by omega), sc_at_ge]
    rfl
def sc_All (l : List Int32) : Prop := ∀ x, x ∈ l → vp_in x 48
theorem sc_All_app {l m : List Int32} : sc_All (l ++ m) ↔ sc_All l ∧ sc_All m := by
  constructor
  · exact fun h => ⟨fun x hx => h x (List.mem_append_left _ hx), fun x hx => h x (List.mem_append_right _ hx)⟩
  · exact fun h x hx => (List.mem_append.mp hx).elim (h.1 x) (h.2 x)
theorem sc_All_cons {l : List Int32} {c : Int32} : sc_All (c :: l) ↔ vp_in c 48 ∧ sc_All l := by
  constructor
  · exact fun h => ⟨h c List.mem_cons_self, fun x hx => h x (List.mem_cons_of_mem _ hx)⟩
  · exact fun h x hx => (List.mem_cons.mp hx).elim (fun e => e ▸ h.1) (h.2 x)
theorem sc_All_nil : sc_All [] := fun x hx => absurd hx (by simp)
theorem sc_len_mid (l m : List Int32) (x : Int32) : (l ++ x :: m).length = l.length + m.length + 1 := by simp [Nat.add_assoc]
/-! the stretch of a text -/
def sc_ld (tx : Nat → Int32) (t : Nat) : Nat → Nat → List Int32
  | 0, _ => []
  | d + 1, i => tx (16 * t + i) :: sc_ld tx t d (i + 1)
theorem sc_ldL (tx : Nat → Int32) (t : Nat) : ∀ d i, (sc_ld tx t d i).length = d := by
  intro d
  induction d with
  | zero => exact fun i => rfl
  | succ d ih => exact fun i => congrArg (· + 1) (ih (i + 1))
theorem sc_ldA {tx : Nat → Int32} (h : sc_Chr tx) (t : Nat) : ∀ d i, sc_All (sc_ld tx t d i) := by
  intro d
  induction d with
  | zero => exact fun i => sc_All_nil
  | succ d ih => exact fun i => sc_All_cons.mpr ⟨h _, ih (i + 1)⟩
theorem sc_ldV (tx : Nat → Int32) (t : Nat) : ∀ d i j, j < d → sc_at (sc_ld tx t d i) j = tx (16 * t + i + j) := by
  intro d
  induction d with
  | zero => intro i j h; omega
  | succ d ih =>
    intro i j h
    cases j with
    | zero => rfl
    | succ j =>
      show sc_at (sc_ld tx t d (i + 1)) j = _
      rw [ih (i + 1) j (by omega)]
      exact congrArg tx (by omega)
section
variable {cc rl wl : Int32} {cl dt df ds ex lo uf us fi ki ef es di we cf cs cm tx le rr wk sh fo fl el ec ke kl em oe be pl po : Nat → Int32}
theorem x_append {post : SX → Prop} {n : Nat} {c : Int32} (hn : n < 64) (h : post (cc, rl, nI (n + 1), cl, dt, df, ds, ex, lo, uf, us, fi, ki, ef, es, di, we, cf, cs, cm, tx, le, rr, upd wk n c, sh, fo, fl, el, ec, ke, kl, em, oe, be, pl, po)) : wpX_appendToWork post (cc, rl, nI n, cl, dt, df, ds, ex, lo, uf, us, fi, ki, ef, es, di, we, cf, cs, cm, tx, le, rr, wk, sh, fo, fl, el, ec, ke, kl, em, oe, be, pl, po) c := by
  unfold wpX_appendToWork
  exact br_f (nI_ge (b := 64) hn (by decide)) ⟨vp_in_nI hn (by decide), nm_r (by rw [nI_clamp (by omega)]) (nm_r (nI_1 n) h)⟩
theorem x_load_l {post : SX → Prop} {t e : Nat} {f : Int32} (ht : t < 2) (he : e ≤ 16) :
    ∀ (d i : Nat) (acc : List Int32) (wk : Nat → Int32), i + d = e → acc.length + d ≤ 64 → sc_Rp wk acc →
    (∀ wk, sc_Rp wk (acc ++ sc_ld tx t d i) → wX_makeForm_52 post f (if f < 2 then 1 else 2) cc rl (nI (acc ++ sc_ld tx t d i).length) cl dt df ds ex lo uf us fi ki ef es di we cf cs cm tx le rr wk sh fo fl el ec ke kl em oe be pl po) →
    wX_makeForm_14 post (nI e) f (nI (16 * t)) (d + 1) (nI i) cc rl (nI acc.length) cl dt df ds ex lo uf us fi ki ef es di we cf cs cm tx le rr wk sh fo fl el ec ke kl em oe be pl po := by
  intro d
  induction d with
  | zero =>
    intro i acc wk hi ha hr h
    have h' := h wk (by rw [sc_ld, List.append_nil]; exact hr)
    rw [sc_ld, List.append_nil] at h'
    refine br_t (nI_le (by omega) (by omega)) (br_c (fun a => ?_) (fun a => ?_))
    · rw [if_pos a] at h'; exact h'
    · rw [if_neg a] at h'; exact h'
  | succ d ih =>
    intro i acc wk hi ha hr h
    have e1 : nI (16 * t) + nI i = nI (16 * t + i) := nI_add _ _
    have e2 : (nI (16 * t) + nI i).toNatClampNeg = 16 * t + i := by rw [e1, nI_clamp (by omega)]
    refine br_f (nI_ge (by omega) (by omega)) ⟨pk_in (16 * t + i) 32 (by omega) e1, ?_⟩
    rw [e2]
    refine x_append (by omega) (nm_r (nI_1 i) ?_)
    have g := ih (i + 1) (acc ++ [tx (16 * t + i)]) (upd wk acc.length (tx (16 * t + i))) (by omega) (by simp; omega) (sc_Rp_snoc _ hr)
    rw [List.append_assoc, List.length_append (as := acc) (bs := [tx (16 * t + i)])] at g
    exact g h
theorem x_load {post : SX → Prop} {t b e : Nat} {f : Int32} (ht : t < 2) (he : e ≤ 16) (hb : b ≤ e)
    (h : ∀ wk, sc_Rp wk (sc_ld tx t (e - b) b) → wX_makeForm_52 post f (if f < 2 then 1 else 2) cc rl (nI (sc_ld tx t (e - b) b).length) cl dt df ds ex lo uf us fi ki ef es di we cf cs cm tx le rr wk sh fo fl el ec ke kl em oe be pl po) : wpX_makeForm post (cc, rl, wl, cl, dt, df, ds, ex, lo, uf, us, fi, ki, ef, es, di, we, cf, cs, cm, tx, le, rr, wk, sh, fo, fl, el, ec, ke, kl, em, oe, be, pl, po) (nI t) (nI b) (nI e) f := by
  unfold wpX_makeForm
  exact nm_r (sn_t16 t) ⟨_, x_load_l ht he (e - b) b [] wk (by omega) (by simp; omega) (sc_Rp0 _) h⟩
end
section
variable {cc rl yn : Int32} {cl dt df pb lo uf us fi ki wt ef eb di ex cf cs cm lg tx le rr ro fm fL ee en ye lv se pg ou : Nat → Int32}
theorem y_load_l {post : SY → Prop} {t e : Nat} (ht : t < 2) (he : e ≤ 16) :
    ∀ (d i : Nat) (acc : List Int32) (ro : Nat → Int32), i + d = e → acc.length + d ≤ 64 → sc_Rp ro acc →
    (∀ ro, sc_Rp ro (acc ++ sc_ld tx t d i) → post (cc, rl, nI (acc ++ sc_ld tx t d i).length, cl, dt, df, pb, lo, uf, us, fi, ki, wt, ef, eb, di, ex, cf, cs, cm, lg, tx, le, rr, ro, fm, fL, ee, en, ye, lv, se, pg, ou)) →
    wY_load_8 post (nI t) (nI e) cc rl (d + 1) (nI i) (nI acc.length) cl dt df pb lo uf us fi ki wt ef eb di ex cf cs cm lg tx le rr ro fm fL ee en ye lv se pg ou := by
  intro d
  induction d with
  | zero =>
    intro i acc ro hi ha hr h
    have h' := h ro (by rw [sc_ld, List.append_nil]; exact hr)
    rw [sc_ld, List.append_nil] at h'
    exact br_t (nI_le (by omega) (by omega)) h'
  | succ d ih =>
    intro i acc ro hi ha hr h
    have e1 : 16 * nI t + nI i = nI (16 * t + i) := sn_16 _ _
    have e2 : (16 * nI t + nI i).toNatClampNeg = 16 * t + i := by rw [e1, nI_clamp (by omega)]
    have g := ih (i + 1) (acc ++ [tx (16 * t + i)]) (upd ro acc.length (tx (16 * t + i))) (by omega) (by simp; omega) (sc_Rp_snoc _ hr)
    rw [List.append_assoc, List.length_append (as := acc) (bs := [tx (16 * t + i)])] at g
    exact br_f (nI_ge (by omega) (by omega)) ⟨pk_in (16 * t + i) 32 (by omega) e1, vp_in_nI (by omega) (by decide), nm_r (by rw [e2, nI_clamp (by omega)]) (nm_r (nI_1 _) (nm_r (nI_1 i) (g h)))⟩
theorem y_load {post : SY → Prop} {t b e : Nat} (ht : t < 2) (he : e ≤ 16) (hb : b ≤ e)
    (h : ∀ ro, sc_Rp ro (sc_ld tx t (e - b) b) → post (cc, rl, nI (sc_ld tx t (e - b) b).length, cl, dt, df, pb, lo, uf, us, fi, ki, wt, ef, eb, di, ex, cf, cs, cm, lg, tx, le, rr, ro, fm, fL, ee, en, ye, lv, se, pg, ou)) : wpY_load post (cc, rl, yn, cl, dt, df, pb, lo, uf, us, fi, ki, wt, ef, eb, di, ex, cf, cs, cm, lg, tx, le, rr, ro, fm, fL, ee, en, ye, lv, se, pg, ou) (nI t) (nI b) (nI e) := by
  unfold wpY_load
  exact ⟨_, y_load_l ht he (e - b) b [] ro (by omega) (by simp; omega) (sc_Rp0 _) h⟩
end
end
section
/-! decomposition of the row: one pure machine for both sides -/
def sc_is (dt : Nat → Int32) (mo c : Int32) : Prop := ¬ dt c.toNatClampNeg = 0 ∧ dt c.toNatClampNeg ≤ mo
def sc_tl (ds : Nat → Int32) (c : Int32) : List Int32 := if ds c.toNatClampNeg = -1 then [] else [ds c.toNatClampNeg]
noncomputable def sc_dc (dt df ds : Nat → Int32) (mo : Int32) : Nat → List Int32 → List Int32 → List Int32
  | 0, pre, todo => pre ++ todo
  | _ + 1, pre, [] => pre
  | f + 1, pre, c :: rest => @ite _ (sc_is dt mo c) (Classical.propDecidable _) (sc_dc dt df ds mo f pre (df c.toNatClampNeg :: (sc_tl ds c ++ rest))) (sc_dc dt df ds mo f (pre ++ [c]) rest)
def sc_ms : List Int32 → Nat
  | [] => 0
  | c :: l => 3 ^ c.toNatClampNeg + sc_ms l
def sc_ls (L : Nat → Nat) : List Int32 → Nat
  | [] => 0
  | c :: l => L c.toNatClampNeg + sc_ls L l
theorem sc_ls_app (L : Nat → Nat) (m : List Int32) : ∀ l, sc_ls L (l ++ m) = sc_ls L l + sc_ls L m
  | [] => (Nat.zero_add _).symm
  | c :: l => by show L _ + sc_ls L (l ++ m) = L _ + sc_ls L l + sc_ls L m; rw [sc_ls_app L m l, Nat.add_assoc]
theorem sc_ls_len {dt df ds : Nat → Int32} {L : Nat → Nat} (h : sc_Pot dt df ds L) : ∀ l : List Int32, l.length ≤ sc_ls L l
  | [] => Nat.le_refl _
  | c :: l => by
    have := (h.1 c.toNatClampNeg).1
    have := sc_ls_len h l
    show l.length + 1 ≤ L _ + sc_ls L l
    omega
theorem sc_ls_le {dt df ds : Nat → Int32} {L : Nat → Nat} (h : sc_Pot dt df ds L) : ∀ l : List Int32, sc_ls L l ≤ 4 * l.length
  | [] => Nat.le_refl _
  | c :: l => by
    have := (h.1 c.toNatClampNeg).2
    have := sc_ls_le h l
    show L _ + sc_ls L l ≤ 4 * (l.length + 1)
    omega
theorem sc_ms_app (m : List Int32) : ∀ l, sc_ms (l ++ m) = sc_ms l + sc_ms m
  | [] => (Nat.zero_add _).symm
  | c :: l => by show 3 ^ _ + sc_ms (l ++ m) = 3 ^ _ + sc_ms l + sc_ms m; rw [sc_ms_app m l, Nat.add_assoc]
/-- what a replacement does to measure, potential and range -/
theorem sc_rep {dt df ds : Nat → Int32} {L : Nat → Nat} (hd : sc_Dec dt df ds) (hp : sc_Pot dt df ds L) {mo c : Int32} (hc : vp_in c 48) (hi : sc_is dt mo c) (rest : List Int32) :
    (∃ j, j < c.toNatClampNeg ∧ df c.toNatClampNeg = nI j) ∧ (ds c.toNatClampNeg = -1 ∨ vp_in (ds c.toNatClampNeg) 48 ∧ ¬ ds c.toNatClampNeg = -1) ∧
    vp_in (df c.toNatClampNeg) 48 ∧ sc_All (sc_tl ds c) ∧ sc_ms (df c.toNatClampNeg :: (sc_tl ds c ++ rest)) < sc_ms (c :: rest) ∧ sc_ls L (df c.toNatClampNeg :: (sc_tl ds c ++ rest)) ≤ sc_ls L (c :: rest) := by
  have c48 := sn_cl hc
  obtain ⟨⟨j, hj, ej⟩, h2⟩ := hd.2.1 c.toNatClampNeg c48 hi.1
  have hL := hp.2 c.toNatClampNeg c48 hi.1
  have p0 : 3 ^ c.toNatClampNeg = 3 * 3 ^ (c.toNatClampNeg - 1) := by
    obtain ⟨q, hq⟩ : ∃ q, c.toNatClampNeg = q + 1 := ⟨c.toNatClampNeg - 1, by omega⟩
    rw [hq, Nat.pow_succ, Nat.add_sub_cancel, Nat.mul_comm]
  have p1 : 3 ^ j ≤ 3 ^ (c.toNatClampNeg - 1) := Nat.pow_le_pow_right (by decide) (by omega)
  have pp : 0 < 3 ^ (c.toNatClampNeg - 1) := Nat.pow_pos (by decide)
  refine ⟨⟨j, hj, ej⟩, ?_, by rw [ej]; exact vp_in_nI (by omega) (by decide), ?_⟩
  · rcases h2 with h2 | ⟨i, hi', ei⟩
    · exact Or.inl h2
    · exact Or.inr (by rw [ei]; exact ⟨vp_in_nI (by omega) (by decide), sc_m1 i (by omega)⟩)
  · unfold sc_tl
    rw [ej] at hL ⊢
    rw [nI_clamp (by omega)] at hL
    rcases h2 with h2 | ⟨i, hi', ei⟩
    · rw [if_pos h2] at hL ⊢
      refine ⟨sc_All_nil, ?_, ?_⟩
      · show 3 ^ (nI j).toNatClampNeg + sc_ms rest < 3 ^ c.toNatClampNeg + sc_ms rest
        rw [nI_clamp (by omega)]
        omega
      · show L (nI j).toNatClampNeg + sc_ls L rest ≤ L c.toNatClampNeg + sc_ls L rest
        rw [nI_clamp (by omega)]
        omega
    · have p2 : 3 ^ i ≤ 3 ^ (c.toNatClampNeg - 1) := Nat.pow_le_pow_right (by decide) (by omega)
      rw [ei, if_neg (sc_m1 i (by omega))] at hL ⊢
      rw [nI_clamp (by omega)] at hL
      refine ⟨sc_All_cons.mpr ⟨vp_in_nI (by omega) (by decide), sc_All_nil⟩, ?_, ?_⟩
      · show 3 ^ (nI j).toNatClampNeg + (3 ^ (nI i).toNatClampNeg + sc_ms rest) < 3 ^ c.toNatClampNeg + sc_ms rest
        rw [nI_clamp (by omega), nI_clamp (by omega)]
        omega
      · show L (nI j).toNatClampNeg + (L (nI i).toNatClampNeg + sc_ls L rest) ≤ L c.toNatClampNeg + sc_ls L rest
        rw [nI_clamp (by omega), nI_clamp (by omega)]
        omega
theorem sc_dcP {dt df ds : Nat → Int32} {L : Nat → Nat} (hd : sc_Dec dt df ds) (hp : sc_Pot dt df ds L) (mo : Int32) : ∀ f pre todo, sc_All (pre ++ todo) → sc_ls L (pre ++ todo) ≤ 64 → sc_All (sc_dc dt df ds mo f pre todo) ∧ sc_ls L (sc_dc dt df ds mo f pre todo) ≤ 64 := by
  intro f
  induction f with
  | zero => exact fun pre todo h1 h2 => ⟨h1, h2⟩
  | succ f ih =>
    intro pre todo h1 h2
    cases todo with
    | nil => rw [List.append_nil] at h1 h2; exact ⟨h1, h2⟩
    | cons c rest =>
      unfold sc_dc
      obtain ⟨a1, a2⟩ := sc_All_app.mp h1
      obtain ⟨a3, a4⟩ := sc_All_cons.mp a2
      by_cases hi : sc_is dt mo c
      · rw [if_pos hi]
        obtain ⟨-, -, b1, b2, -, b3⟩ := sc_rep hd hp a3 hi rest
        refine ih _ _ (sc_All_app.mpr ⟨a1, sc_All_cons.mpr ⟨b1, sc_All_app.mpr ⟨b2, a4⟩⟩⟩) ?_
        rw [sc_ls_app] at h2 ⊢
        omega
      · rw [if_neg hi]
        refine ih _ _ ?_ ?_
        · rw [List.append_assoc]; exact h1
        · rw [List.append_assoc]; exact h2
section
variable {cc rl yn : Int32} {cl dt df pb lo uf us fi ki wt ef eb di ex cf cs cm lg tx le rr ro fm fL ee en ye lv se pg ou : Nat → Int32}
theorem y_put_l {post : SY → Prop} {n p : Nat} {c : Int32} (hn : n < 64) (hp : p ≤ n) : ∀ (d : Nat) (ro : Nat → Int32), p + d ≤ n →
    post (cc, rl, nI (n + 1), cl, dt, df, pb, lo, uf, us, fi, ki, wt, ef, eb, di, ex, cf, cs, cm, lg, tx, le, rr, upd (sc_up 0 d p ro) p c, fm, fL, ee, en, ye, lv, se, pg, ou) → wY_putIn_5 post (nI p) c cc rl (nI n) (d + 1) (nI (p + d)) cl dt df pb lo uf us fi ki wt ef eb di ex cf cs cm lg tx le rr ro fm fL ee en ye lv se pg ou := by
  intro d
  induction d with
  | zero => exact fun ro hi h => br_t (nI_le (by omega) (by omega)) ⟨vp_in_nI (by omega) (by decide), nm_r (e' := upd ro p c) (by rw [nI_clamp (by omega)]) (nm_r (nI_1 n) h)⟩
  | succ d ih => exact fun ro hi h => br_f (nI_ge (by omega) (by omega)) ⟨pk_in (p + d) 64 (by omega) (nI_pred _), vp_in_nI (by omega) (by decide),
      nm_r (e' := upd ro (0 + p + d + 1) (ro (0 + p + d))) (by rw [show p + (d + 1) = p + d + 1 by omega, nI_pred, nI_clamp (by omega), nI_clamp (by omega), Nat.zero_add]) (nm_r (pk_m1 _) (ih _ (by omega) h))⟩
theorem y_put {post : SY → Prop} {l m : List Int32} {c : Int32} (hn : (l ++ m).length < 64) (hr : sc_Rp ro (l ++ m)) (h : ∀ ro, sc_Rp ro (l ++ c :: m) → post (cc, rl, nI (l ++ c :: m).length, cl, dt, df, pb, lo, uf, us, fi, ki, wt, ef, eb, di, ex, cf, cs, cm, lg, tx, le, rr, ro, fm, fL, ee, en, ye, lv, se, pg, ou)) : wpY_putIn post (cc, rl, nI (l ++ m).length, cl, dt, df, pb, lo, uf, us, fi, ki, wt, ef, eb, di, ex, cf, cs, cm, lg, tx, le, rr, ro, fm, fL, ee, en, ye, lv, se, pg, ou) (nI l.length) c := by
  have hl : (l ++ m).length = l.length + m.length := by simp
  have h' := h _ (sc_Rp_ins c hr)
  rw [sc_len_mid, ← hl] at h'
  have e := y_put_l (post := post) (c := c) hn (by omega : l.length ≤ (l ++ m).length) m.length ro (by omega) h'
  rw [← hl] at e
  exact ⟨_, e⟩
theorem y_decomp_l {post : SY → Prop} {mo : Int32} {ds : Nat → Int32} {L : Nat → Nat} (hd : sc_Dec dt df ds) (hp : sc_Pot dt df ds L) (hpb : ∀ i, i < 48 → ¬ dt i = 0 → pb i = ds i) :
    ∀ (f : Nat) (pre todo : List Int32) (ro : Nat → Int32), sc_ms todo < f → sc_All (pre ++ todo) → sc_ls L (pre ++ todo) ≤ 64 → sc_Rp ro (pre ++ todo) →
    (∀ ro, sc_Rp ro (sc_dc dt df ds mo f pre todo) → post (cc, rl, nI (sc_dc dt df ds mo f pre todo).length, cl, dt, df, pb, lo, uf, us, fi, ki, wt, ef, eb, di, ex, cf, cs, cm, lg, tx, le, rr, ro, fm, fL, ee, en, ye, lv, se, pg, ou)) →
    wY_decompose_2 post mo f (nI pre.length) cc rl (nI (pre ++ todo).length) cl dt df pb lo uf us fi ki wt ef eb di ex cf cs cm lg tx le rr ro fm fL ee en ye lv se pg ou := by
  intro f
  induction f with
  | zero => intro pre todo ro hm; omega
  | succ f ih =>
    intro pre todo ro hm hA hL hr h
    have hlen := sc_ls_len hp (pre ++ todo)
    cases todo with
    | nil =>
      rw [List.append_nil] at hr hlen hL ⊢
      exact br_t (nI_le (by omega) (by omega)) (h ro hr)
    | cons c rest =>
      have hl := sc_len_mid pre rest c
      obtain ⟨a1, a2⟩ := sc_All_app.mp hA
      obtain ⟨a3, a4⟩ := sc_All_cons.mp a2
      have ec : ro (nI pre.length).toNatClampNeg = c := by rw [nI_clamp (by omega)]; exact sc_Rp_mid hr
      have v : vp_in (nI pre.length) 64 := vp_in_nI (by omega) (by decide)
      have keep : ¬ sc_is dt mo c → wY_decompose_2 post mo f (nI (pre.length + 1)) cc rl (nI (pre ++ c :: rest).length) cl dt df pb lo uf us fi ki wt ef eb di ex cf cs cm lg tx le rr ro fm fL ee en ye lv se pg ou := by
        intro hi
        unfold sc_dc at h
        rw [if_neg hi] at h
        have g := ih (pre ++ [c]) rest ro
        rw [List.append_assoc, List.length_append (as := pre) (bs := [c])] at g
        have hm' : sc_ms rest < f := by
          have : 0 < 3 ^ c.toNatClampNeg := Nat.pow_pos (by decide)
          have e : sc_ms (c :: rest) = 3 ^ c.toNatClampNeg + sc_ms rest := rfl
          omega
        exact g hm' hA hL hr h
      refine br_f (nI_ge (by omega) (by omega)) ⟨v, nm_r ec ⟨a3, br_c (fun z => nm_r (nI_1 _) (keep (fun y => y.1 z))) (fun z => ⟨a3, br_c (fun y => ?_) (fun y => nm_r (nI_1 _) (keep (fun w => y w.2)))⟩)⟩⟩
      have hi : sc_is dt mo c := ⟨z, y⟩
      obtain ⟨-, b0, b1, b2, b3, b4⟩ := sc_rep hd hp a3 hi rest
      unfold sc_dc at h
      rw [if_pos hi] at h
      have hpb' : pb c.toNatClampNeg = ds c.toNatClampNeg := hpb _ (sn_cl a3) z
      have hr' : sc_Rp (upd ro pre.length (df c.toNatClampNeg)) (pre ++ df c.toNatClampNeg :: rest) := sc_Rp_set _ hr
      have g := ih pre (df c.toNatClampNeg :: (sc_tl ds c ++ rest))
      have hA' : sc_All (pre ++ df c.toNatClampNeg :: (sc_tl ds c ++ rest)) := sc_All_app.mpr ⟨a1, sc_All_cons.mpr ⟨b1, sc_All_app.mpr ⟨b2, a4⟩⟩⟩
      have hL' : sc_ls L (pre ++ df c.toNatClampNeg :: (sc_tl ds c ++ rest)) ≤ 64 := by
        rw [sc_ls_app] at hL ⊢
        omega
      refine ⟨a3, v, nm_r (e' := upd ro pre.length (df c.toNatClampNeg)) (by rw [nI_clamp (by omega)]) ⟨a3, ?_⟩⟩
      rw [hpb']
      rcases b0 with b0 | ⟨b0, b5⟩
      · unfold sc_tl at g h hA' hL' b3
        rw [if_pos b0] at g h hA' hL' b3
        refine br_t (by rw [b0]; decide) ?_
        have g' := g (upd ro pre.length (df c.toNatClampNeg)) (by omega) hA' hL' hr' h
        rw [show (pre ++ df c.toNatClampNeg :: ([] ++ rest)).length = (pre ++ c :: rest).length by simp] at g'
        exact g'
      · have hlen' := sc_ls_len hp (pre ++ df c.toNatClampNeg :: (sc_tl ds c ++ rest))
        unfold sc_tl at g h hA' hL' b3 hlen'
        rw [if_neg b5] at g h hA' hL' b3 hlen'
        refine br_f (sn_pos b0) ⟨a3, ?_⟩
        have e1 : (pre ++ c :: rest).length = ((pre ++ [df c.toNatClampNeg]) ++ rest).length := by simp
        have e2 : nI pre.length + 1 = nI (pre ++ [df c.toNatClampNeg]).length := by rw [nI_1]; simp
        rw [e1, e2]
        refine y_put ?_ ?_ (fun ro' hr'' => ?_)
        · have hlx : (pre ++ df c.toNatClampNeg :: ([ds c.toNatClampNeg] ++ rest)).length = pre.length + rest.length + 2 := by simp only [List.length_append, List.length_cons, List.length_nil]; omega
          simp only [List.length_append, List.length_cons, List.length_nil]; omega
        · rw [List.append_assoc]; exact hr'
        · have g' := g ro' (by omega) hA' hL' (by rw [List.append_assoc] at hr''; exact hr'') h
          rw [List.append_assoc]
          exact g'
theorem y_decomp {post : SY → Prop} {mo : Int32} {ds : Nat → Int32} {L : Nat → Nat} {l : List Int32} (hd : sc_Dec dt df ds) (hp : sc_Pot dt df ds L) (hpb : ∀ i, i < 48 → ¬ dt i = 0 → pb i = ds i)
    (hA : sc_All l) (hL : l.length ≤ 16) (hr : sc_Rp ro l) (h : ∀ ro, sc_Rp ro (sc_dc dt df ds mo (sc_ms l + 1) [] l) → post (cc, rl, nI (sc_dc dt df ds mo (sc_ms l + 1) [] l).length, cl, dt, df, pb, lo, uf, us, fi, ki, wt, ef, eb, di, ex, cf, cs, cm, lg, tx, le, rr, ro, fm, fL, ee, en, ye, lv, se, pg, ou)) : wpY_decompose post (cc, rl, nI l.length, cl, dt, df, pb, lo, uf, us, fi, ki, wt, ef, eb, di, ex, cf, cs, cm, lg, tx, le, rr, ro, fm, fL, ee, en, ye, lv, se, pg, ou) mo := by
  have := sc_ls_le hp l
  exact ⟨_, y_decomp_l hd hp hpb (sc_ms l + 1) [] l ro (by omega) hA (by show sc_ls L l ≤ 64; omega) hr h⟩
end
section
variable {cc rl wl : Int32} {cl dt df ds ex lo uf us fi ki ef es di we cf cs cm tx le rr wk sh fo fl el ec ke kl em oe be pl po : Nat → Int32}
theorem x_rep_l {post : SX → Prop} {n p : Nat} {c : Int32} (hc : vp_in c 48) (hn : n < 64) (hp : p + 1 ≤ n) : ∀ (d : Nat) (wk : Nat → Int32), p + 1 + d ≤ n →
    post (cc, rl, nI (n + 1), cl, dt, df, ds, ex, lo, uf, us, fi, ki, ef, es, di, we, cf, cs, cm, tx, le, rr, upd (sc_up 0 d (p + 1) wk) (p + 1) (ds c.toNatClampNeg), sh, fo, fl, el, ec, ke, kl, em, oe, be, pl, po) → wX_replaceByDecomposition_43 post (nI p) c cc rl (nI n) (d + 1) (nI (p + 1 + d)) cl dt df ds ex lo uf us fi ki ef es di we cf cs cm tx le rr wk sh fo fl el ec ke kl em oe be pl po := by
  intro d
  induction d with
  | zero => exact fun wk hi h => br_t (by rw [nI_1]; exact nI_le (by omega) (by omega)) ⟨hc, pk_in (p + 1) 64 (by omega) (nI_1 p), nm_r (e' := upd wk (p + 1) (ds c.toNatClampNeg)) (by rw [nI_1, nI_clamp (by omega)]) (nm_r (nI_1 n) h)⟩
  | succ d ih => exact fun wk hi h => br_f (by rw [nI_1]; exact nI_ge (by omega) (by omega)) ⟨pk_in (p + 1 + d) 64 (by omega) (nI_pred _), vp_in_nI (by omega) (by decide),
      nm_r (e' := upd wk (0 + (p + 1) + d + 1) (wk (0 + (p + 1) + d))) (by rw [show p + 1 + (d + 1) = p + 1 + d + 1 by omega, nI_pred, nI_clamp (by omega), nI_clamp (by omega), Nat.zero_add]) (nm_r (pk_m1 _) (ih _ (by omega) h))⟩
theorem x_rep {post : SX → Prop} {pre rest : List Int32} {c : Int32} (hc : vp_in c 48) (hn : (pre ++ c :: rest).length ≤ 64) (hr : sc_Rp wk (pre ++ c :: rest)) (hb : ds c.toNatClampNeg = -1 ∨ ¬ ds c.toNatClampNeg = -1 ∧ (pre ++ c :: rest).length < 64)
    (h : ∀ wk, sc_Rp wk (pre ++ df c.toNatClampNeg :: (sc_tl ds c ++ rest)) → post (cc, rl, nI (pre ++ df c.toNatClampNeg :: (sc_tl ds c ++ rest)).length, cl, dt, df, ds, ex, lo, uf, us, fi, ki, ef, es, di, we, cf, cs, cm, tx, le, rr, wk, sh, fo, fl, el, ec, ke, kl, em, oe, be, pl, po)) : wpX_replaceByDecomposition post (cc, rl, nI (pre ++ c :: rest).length, cl, dt, df, ds, ex, lo, uf, us, fi, ki, ef, es, di, we, cf, cs, cm, tx, le, rr, wk, sh, fo, fl, el, ec, ke, kl, em, oe, be, pl, po) (nI pre.length) := by
  have hl := sc_len_mid pre rest c
  have hwc : wk (nI pre.length).toNatClampNeg = c := by rw [nI_clamp (by omega)]; exact sc_Rp_mid hr
  have v : vp_in (nI pre.length) 64 := vp_in_nI (by omega) (by decide)
  have hr' : sc_Rp (upd wk pre.length (df c.toNatClampNeg)) (pre ++ df c.toNatClampNeg :: rest) := sc_Rp_set _ hr
  unfold wpX_replaceByDecomposition
  refine ⟨v, nm_r hwc ⟨hc, v, nm_r (e' := upd wk pre.length (df c.toNatClampNeg)) (by rw [nI_clamp (by omega)]) ⟨hc, ?_⟩⟩⟩
  unfold sc_tl at h
  rcases hb with hb | ⟨hb, hb'⟩
  · rw [if_pos hb] at h
    have h' := h _ hr'
    rw [show (pre ++ df c.toNatClampNeg :: ([] ++ rest)).length = (pre ++ c :: rest).length by simp] at h'
    exact br_t hb h'
  · rw [if_neg hb] at h
    refine br_f hb (br_f (nI_ge (b := 64) hb' (by decide)) ?_)
    have e0 : (pre ++ [df c.toNatClampNeg]).length = pre.length + 1 := by simp
    have r1 := sc_Rp_ins (l := pre ++ [df c.toNatClampNeg]) (m := rest) (ds c.toNatClampNeg) (by rw [List.append_assoc]; exact hr')
    rw [e0, List.append_assoc] at r1
    have h' := h _ r1
    rw [show (pre ++ df c.toNatClampNeg :: ([ds c.toNatClampNeg] ++ rest)).length = (pre ++ c :: rest).length + 1 by simp only [List.length_append, List.length_cons, List.length_nil]; omega] at h'
    have e := x_rep_l (post := post) hc hb' (by omega : pre.length + 1 ≤ (pre ++ c :: rest).length) rest.length (upd wk pre.length (df c.toNatClampNeg)) (by omega) h'
    rw [show pre.length + 1 + rest.length = (pre ++ c :: rest).length by omega] at e
    exact ⟨_, e⟩
theorem x_decomp_l {post : SX → Prop} {mo : Int32} {L : Nat → Nat} (hd : sc_Dec dt df ds) (hp : sc_Pot dt df ds L) :
    ∀ (f : Nat) (pre todo : List Int32) (wk : Nat → Int32), sc_ms todo < f → sc_All (pre ++ todo) → sc_ls L (pre ++ todo) ≤ 64 → sc_Rp wk (pre ++ todo) →
    (∀ wk, sc_Rp wk (sc_dc dt df ds mo f pre todo) → post (cc, rl, nI (sc_dc dt df ds mo f pre todo).length, cl, dt, df, ds, ex, lo, uf, us, fi, ki, ef, es, di, we, cf, cs, cm, tx, le, rr, wk, sh, fo, fl, el, ec, ke, kl, em, oe, be, pl, po)) →
    (∀ m, 65 ≤ m + pre.length → wX_decomposeWork_2 post mo m (nI pre.length) cc rl (nI (pre ++ todo).length) cl dt df ds ex lo uf us fi ki ef es di we cf cs cm tx le rr wk sh fo fl el ec ke kl em oe be pl po) ∧
    (∀ c rest, todo = c :: rest → ∀ m n s, c.toNatClampNeg + s ≤ 47 → 49 ≤ n + s → 65 ≤ m + pre.length + 1 → wX_decomposeWork_18 post (wX_decomposeWork_2 post mo m) mo (nI pre.length) n (nI s) cc rl (nI (pre ++ todo).length) cl dt df ds ex lo uf us fi ki ef es di we cf cs cm tx le rr wk sh fo fl el ec ke kl em oe be pl po) := by
  intro f
  induction f with
  | zero => intro pre todo wk hm; omega
  | succ f ih =>
    intro pre todo wk hm hA hL hr h
    have hlen := sc_ls_len hp (pre ++ todo)
    have B : ∀ c rest, todo = c :: rest → ∀ m n s, c.toNatClampNeg + s ≤ 47 → 49 ≤ n + s → 65 ≤ m + pre.length + 1 → wX_decomposeWork_18 post (wX_decomposeWork_2 post mo m) mo (nI pre.length) n (nI s) cc rl (nI (pre ++ todo).length) cl dt df ds ex lo uf us fi ki ef es di we cf cs cm tx le rr wk sh fo fl el ec ke kl em oe be pl po := by
      intro c rest et m n s hs hn hm2
      subst et
      have hl := sc_len_mid pre rest c
      obtain ⟨a1, a2⟩ := sc_All_app.mp hA
      obtain ⟨a3, a4⟩ := sc_All_cons.mp a2
      have hwc : wk (nI pre.length).toNatClampNeg = c := by rw [nI_clamp (by omega)]; exact sc_Rp_mid hr
      have v : vp_in (nI pre.length) 64 := vp_in_nI (by omega) (by decide)
      have keep : ¬ sc_is dt mo c → wX_decomposeWork_2 post mo m (nI (pre.length + 1)) cc rl (nI (pre ++ c :: rest).length) cl dt df ds ex lo uf us fi ki ef es di we cf cs cm tx le rr wk sh fo fl el ec ke kl em oe be pl po := by
        intro hi
        unfold sc_dc at h
        rw [if_neg hi] at h
        have g := ih (pre ++ [c]) rest wk
        rw [List.append_assoc, List.length_append (as := pre) (bs := [c])] at g
        have hm' : sc_ms rest < f := by
          have : 0 < 3 ^ c.toNatClampNeg := Nat.pow_pos (by decide)
          have e : sc_ms (c :: rest) = 3 ^ c.toNatClampNeg + sc_ms rest := rfl
          omega
        exact (g hm' hA hL hr h).1 m (by show 65 ≤ m + (pre.length + 1); omega)
      obtain ⟨n, rfl⟩ : ∃ q, n = q + 1 := ⟨n - 1, by omega⟩
      refine br_f (nI_ge (b := 48) (by omega) (by decide)) ⟨v, by rw [hwc]; exact a3, nm_r (e' := dt c.toNatClampNeg) (by rw [hwc]) (br_c (fun z => nm_r (nI_1 _) (keep (fun y => y.1 z))) (fun z => br_c (fun y => ?_) (fun y => nm_r (nI_1 _) (keep (fun w => y w.2)))))⟩
      have hi : sc_is dt mo c := ⟨z, y⟩
      obtain ⟨⟨j, hj, ej⟩, b0, b1, b2, b3, b4⟩ := sc_rep hd hp a3 hi rest
      unfold sc_dc at h
      rw [if_pos hi] at h
      have hA' : sc_All (pre ++ df c.toNatClampNeg :: (sc_tl ds c ++ rest)) := sc_All_app.mpr ⟨a1, sc_All_cons.mpr ⟨b1, sc_All_app.mpr ⟨b2, a4⟩⟩⟩
      have hL' : sc_ls L (pre ++ df c.toNatClampNeg :: (sc_tl ds c ++ rest)) ≤ 64 := by
        rw [sc_ls_app] at hL ⊢
        omega
      have hlen' := sc_ls_len hp (pre ++ df c.toNatClampNeg :: (sc_tl ds c ++ rest))
      refine x_rep a3 (by omega) hr ?_ (fun wk' hr' => nm_r (nI_1 s) ?_)
      · rcases b0 with b0 | ⟨b0, b5⟩
        · exact Or.inl b0
        · refine Or.inr ⟨b5, ?_⟩
          unfold sc_tl at hlen' hL'
          rw [if_neg b5] at hlen' hL'
          have hlx : (pre ++ df c.toNatClampNeg :: ([ds c.toNatClampNeg] ++ rest)).length = pre.length + rest.length + 2 := by simp only [List.length_append, List.length_cons, List.length_nil]; omega
          omega
      · refine (ih pre _ wk' (by omega) hA' hL' hr' h).2 _ _ rfl m n (s + 1) ?_ (by omega) hm2
        rw [ej, nI_clamp (by omega)]
        omega
    refine ⟨?_, B⟩
    intro m hm2
    cases todo with
    | nil =>
      rw [List.append_nil] at hr hlen hL ⊢
      obtain ⟨m, rfl⟩ : ∃ q, m = q + 1 := ⟨m - 1, by omega⟩
      have h' := h wk hr
      by_cases e : 64 ≤ pre.length
      · exact br_t (nI_le (a := 64) e (by omega)) h'
      · exact br_f (nI_ge (b := 64) (by omega) (by decide)) (br_t (nI_le (by omega) (by omega)) h')
    | cons c rest =>
      have hl := sc_len_mid pre rest c
      obtain ⟨m, rfl⟩ : ∃ q, m = q + 1 := ⟨m - 1, by omega⟩
      have a3 := sn_cl (sc_All_cons.mp (sc_All_app.mp hA).2).1
      exact br_f (nI_ge (b := 64) (by omega) (by decide)) (br_f (nI_ge (by omega) (by omega)) ⟨49, B c rest rfl m 49 0 (by omega) (by omega) (by omega)⟩)
theorem x_decomp {post : SX → Prop} {mo : Int32} {L : Nat → Nat} {l : List Int32} (hd : sc_Dec dt df ds) (hp : sc_Pot dt df ds L)
    (hA : sc_All l) (hL : l.length ≤ 16) (hr : sc_Rp wk l) (h : ∀ wk, sc_Rp wk (sc_dc dt df ds mo (sc_ms l + 1) [] l) → post (cc, rl, nI (sc_dc dt df ds mo (sc_ms l + 1) [] l).length, cl, dt, df, ds, ex, lo, uf, us, fi, ki, ef, es, di, we, cf, cs, cm, tx, le, rr, wk, sh, fo, fl, el, ec, ke, kl, em, oe, be, pl, po)) : wpX_decomposeWork post (cc, rl, nI l.length, cl, dt, df, ds, ex, lo, uf, us, fi, ki, ef, es, di, we, cf, cs, cm, tx, le, rr, wk, sh, fo, fl, el, ec, ke, kl, em, oe, be, pl, po) mo := by
  have := sc_ls_le hp l
  exact ⟨65, (x_decomp_l hd hp (sc_ms l + 1) [] l wk (by omega) hA (by show sc_ls L l ≤ 64; omega) hr h).1 65 (by simp)⟩
end
end
section
/-! ordering: insertion on one side, exchanges of neighbours on the other -/
def sc_ir (cl : Nat → Int32) (x : Int32) : List Int32 → List Int32
  | [] => [x]
  | y :: r => if cl y.toNatClampNeg ≤ cl x.toNatClampNeg then x :: y :: r else y :: sc_ir cl x r
def sc_io (cl : Nat → Int32) (x : Int32) (r : List Int32) : List Int32 := if cl x.toNatClampNeg ≤ 0 then x :: r else sc_ir cl x r
def sc_F (cl : Nat → Int32) : List Int32 → List Int32 → List Int32
  | r, [] => r
  | r, x :: l => sc_F cl (sc_io cl x r) l
def sc_od (cl : Nat → Int32) (l : List Int32) : List Int32 := (sc_F cl [] l).reverse
def sc_sw (cl : Nat → Int32) (x y : Int32) : Prop := ¬ cl x.toNatClampNeg ≤ cl y.toNatClampNeg ∧ ¬ cl y.toNatClampNeg ≤ 0
noncomputable def sc_ps (cl : Nat → Int32) : Int32 → List Int32 → List Int32
  | x, [] => [x]
  | x, y :: l => @ite _ (sc_sw cl x y) (Classical.propDecidable _) (y :: sc_ps cl x l) (x :: sc_ps cl y l)
def sc_pf (cl : Nat → Int32) : Int32 → List Int32 → Prop
  | _, [] => False
  | x, y :: l => sc_sw cl x y ∨ sc_pf cl y l
def sc_wv (cl : Nat → Int32) : Nat → List Int32 → Nat
  | _, [] => 0
  | k, x :: l => k * (cl x.toNatClampNeg).toNatClampNeg + sc_wv cl (k + 1) l
theorem sc_irL (cl : Nat → Int32) (x : Int32) : ∀ r, (sc_ir cl x r).length = r.length + 1
  | [] => rfl
  | y :: r => by
    unfold sc_ir
    by_cases h : cl y.toNatClampNeg ≤ cl x.toNatClampNeg
    · rw [if_pos h]; rfl
    · rw [if_neg h]; exact congrArg (· + 1) (sc_irL cl x r)
theorem sc_ioL (cl : Nat → Int32) (x : Int32) (r : List Int32) : (sc_io cl x r).length = r.length + 1 := by
  unfold sc_io
  by_cases h : cl x.toNatClampNeg ≤ 0
  · rw [if_pos h]; rfl
  · rw [if_neg h]; exact sc_irL cl x r
theorem sc_FL (cl : Nat → Int32) : ∀ l r, (sc_F cl r l).length = r.length + l.length
  | [], r => rfl
  | x :: l, r => by
    show (sc_F cl (sc_io cl x r) l).length = r.length + (l.length + 1)
    rw [sc_FL cl l, sc_ioL]; omega
theorem sc_irA (cl : Nat → Int32) {x : Int32} (hx : vp_in x 48) : ∀ r, sc_All r → sc_All (sc_ir cl x r)
  | [], _ => sc_All_cons.mpr ⟨hx, sc_All_nil⟩
  | y :: r, h => by
    unfold sc_ir
    by_cases z : cl y.toNatClampNeg ≤ cl x.toNatClampNeg
    · rw [if_pos z]; exact sc_All_cons.mpr ⟨hx, h⟩
    · rw [if_neg z]; exact sc_All_cons.mpr ⟨(sc_All_cons.mp h).1, sc_irA cl hx r (sc_All_cons.mp h).2⟩
theorem sc_FA (cl : Nat → Int32) : ∀ l r, sc_All r → sc_All l → sc_All (sc_F cl r l)
  | [], r, h, _ => h
  | x :: l, r, h, h2 => by
    refine sc_FA cl l _ ?_ (sc_All_cons.mp h2).2
    unfold sc_io
    by_cases z : cl x.toNatClampNeg ≤ 0
    · rw [if_pos z]; exact sc_All_cons.mpr ⟨(sc_All_cons.mp h2).1, h⟩
    · rw [if_neg z]; exact sc_irA cl (sc_All_cons.mp h2).1 r h
theorem sc_odL (cl : Nat → Int32) (l : List Int32) : (sc_od cl l).length = l.length := by
  unfold sc_od
  rw [List.length_reverse, sc_FL]; exact Nat.zero_add _
theorem sc_odA (cl : Nat → Int32) {l : List Int32} (h : sc_All l) : sc_All (sc_od cl l) := fun x hx => sc_FA cl l [] sc_All_nil h x (List.mem_reverse.mp hx)
theorem sc_irC {cl : Nat → Int32} {x y : Int32} (h : ¬ cl x.toNatClampNeg ≤ cl y.toNatClampNeg) : ∀ r, sc_ir cl x (sc_ir cl y r) = sc_ir cl y (sc_ir cl x r)
  | [] => by
    have h' : cl y.toNatClampNeg ≤ cl x.toNatClampNeg := Int32.le_of_lt (Int32.not_le.mp h)
    show sc_ir cl x [y] = sc_ir cl y [x]
    unfold sc_ir
    rw [if_pos h', if_neg h]
    rfl
  | z :: r => by
    have h' : cl y.toNatClampNeg ≤ cl x.toNatClampNeg := Int32.le_of_lt (Int32.not_le.mp h)
    have ih := sc_irC h r
    by_cases a : cl z.toNatClampNeg ≤ cl y.toNatClampNeg
    · have b : cl z.toNatClampNeg ≤ cl x.toNatClampNeg := Int32.le_trans a h'
      have e1 : sc_ir cl y (z :: r) = y :: z :: r := by rw [sc_ir, if_pos a]
      have e2 : sc_ir cl x (z :: r) = x :: z :: r := by rw [sc_ir, if_pos b]
      have e3 : sc_ir cl x (y :: z :: r) = x :: y :: z :: r := by rw [sc_ir, if_pos h']
      have e4 : sc_ir cl y (x :: z :: r) = x :: sc_ir cl y (z :: r) := by rw [sc_ir, if_neg h]
      rw [e1, e2, e3, e4, e1]
    · have e1 : sc_ir cl y (z :: r) = z :: sc_ir cl y r := by rw [sc_ir, if_neg a]
      by_cases b : cl z.toNatClampNeg ≤ cl x.toNatClampNeg
      · have e2 : sc_ir cl x (z :: r) = x :: z :: r := by rw [sc_ir, if_pos b]
        have e3 : sc_ir cl x (z :: sc_ir cl y r) = x :: z :: sc_ir cl y r := by rw [sc_ir, if_pos b]
        have e4 : sc_ir cl y (x :: z :: r) = x :: sc_ir cl y (z :: r) := by rw [sc_ir, if_neg h]
        rw [e1, e2, e3, e4, e1]
      · have e2 : sc_ir cl x (z :: r) = z :: sc_ir cl x r := by rw [sc_ir, if_neg b]
        have e3 : sc_ir cl x (z :: sc_ir cl y r) = z :: sc_ir cl x (sc_ir cl y r) := by rw [sc_ir, if_neg b]
        have e4 : sc_ir cl y (z :: sc_ir cl x r) = z :: sc_ir cl y (sc_ir cl x r) := by rw [sc_ir, if_neg a]
        rw [e1, e2, e3, e4, ih]
theorem sc_ioC {cl : Nat → Int32} {x y : Int32} (h : sc_sw cl x y) (r : List Int32) : sc_io cl x (sc_io cl y r) = sc_io cl y (sc_io cl x r) := by
  have hx : ¬ cl x.toNatClampNeg ≤ 0 := fun z => h.2 (Int32.le_trans (Int32.le_of_lt (Int32.not_le.mp h.1)) z)
  unfold sc_io
  rw [if_neg h.2, if_neg hx, if_neg h.2, if_neg hx]
  exact sc_irC h.1 r
theorem sc_psF (cl : Nat → Int32) : ∀ l x r, sc_F cl r (sc_ps cl x l) = sc_F cl r (x :: l)
  | [], x, r => rfl
  | y :: l, x, r => by
    unfold sc_ps
    by_cases h : sc_sw cl x y
    · rw [if_pos h]
      show sc_F cl (sc_io cl y r) (sc_ps cl x l) = sc_F cl (sc_io cl y (sc_io cl x r)) l
      rw [sc_psF cl l x, ← sc_ioC h]; rfl
    · rw [if_neg h]
      show sc_F cl (sc_io cl x r) (sc_ps cl y l) = sc_F cl (sc_io cl x r) (y :: l)
      rw [sc_psF cl l y]
theorem sc_psN (cl : Nat → Int32) : ∀ l x, ¬ sc_pf cl x l → sc_ps cl x l = x :: l
  | [], x, _ => rfl
  | y :: l, x, h => by
    unfold sc_ps
    rw [if_neg (fun z => h (Or.inl z)), sc_psN cl l y (fun z => h (Or.inr z))]
theorem sc_psO (cl : Nat → Int32) : ∀ l x r, ¬ sc_pf cl x l → sc_F cl (x :: r) l = l.reverse ++ x :: r
  | [], x, r, _ => rfl
  | y :: l, x, r, h => by
    have e : sc_io cl y (x :: r) = y :: x :: r := by
      unfold sc_io
      by_cases z : cl y.toNatClampNeg ≤ 0
      · rw [if_pos z]
      · rw [if_neg z, sc_ir]
        by_cases w : cl x.toNatClampNeg ≤ cl y.toNatClampNeg
        · rw [if_pos w]
        · exact absurd (Or.inl ⟨w, z⟩) h
    show sc_F cl (sc_io cl y (x :: r)) l = _
    rw [e, sc_psO cl l y (x :: r) (fun z => h (Or.inr z)), List.reverse_cons, List.append_assoc]
    rfl
theorem sc_io0 (cl : Nat → Int32) (x : Int32) : sc_io cl x [] = [x] := by
  unfold sc_io
  by_cases z : cl x.toNatClampNeg ≤ 0
  · rw [if_pos z]
  · rw [if_neg z]; rfl
theorem sc_odN {cl : Nat → Int32} {x : Int32} {l : List Int32} (h : ¬ sc_pf cl x l) : sc_od cl (x :: l) = x :: l := by
  unfold sc_od
  show (sc_F cl (sc_io cl x []) l).reverse = _
  rw [sc_io0, sc_psO cl l x [] h]
  simp
theorem sc_odP (cl : Nat → Int32) (x : Int32) (l : List Int32) : sc_od cl (sc_ps cl x l) = sc_od cl (x :: l) := by
  unfold sc_od
  rw [sc_psF]
theorem sc_psL (cl : Nat → Int32) : ∀ l x, (sc_ps cl x l).length = l.length + 1
  | [], x => rfl
  | y :: l, x => by
    unfold sc_ps
    by_cases h : sc_sw cl x y
    · rw [if_pos h]; exact congrArg (· + 1) (sc_psL cl l x)
    · rw [if_neg h]; exact congrArg (· + 1) (sc_psL cl l y)
theorem sc_psA (cl : Nat → Int32) : ∀ l x, sc_All (x :: l) → sc_All (sc_ps cl x l)
  | [], x, h => h
  | y :: l, x, h => by
    obtain ⟨h1, h2⟩ := sc_All_cons.mp h
    obtain ⟨h3, h4⟩ := sc_All_cons.mp h2
    unfold sc_ps
    by_cases z : sc_sw cl x y
    · rw [if_pos z]; exact sc_All_cons.mpr ⟨h3, sc_psA cl l x (sc_All_cons.mpr ⟨h1, h4⟩)⟩
    · rw [if_neg z]; exact sc_All_cons.mpr ⟨h1, sc_psA cl l y h2⟩
theorem sc_rk {cl : Nat → Int32} (hc : ∀ i, vp_in (cl i) 10) {x y : Int32} (h : sc_sw cl x y) : (cl y.toNatClampNeg).toNatClampNeg < (cl x.toNatClampNeg).toNatClampNeg := by
  have e1 := sn_val (hc x.toNatClampNeg) (by decide)
  have e2 := sn_val (hc y.toNatClampNeg) (by decide)
  have l1 := sn_cl (hc x.toNatClampNeg)
  have l2 := sn_cl (hc y.toNatClampNeg)
  rcases Nat.lt_or_ge (cl y.toNatClampNeg).toNatClampNeg (cl x.toNatClampNeg).toNatClampNeg with z | z
  · exact z
  · refine absurd ?_ h.1
    rw [e1, e2]
    exact nI_le z (by omega)
theorem sc_psW {cl : Nat → Int32} (hc : ∀ i, vp_in (cl i) 10) : ∀ l x k, sc_wv cl k (x :: l) ≤ sc_wv cl k (sc_ps cl x l) ∧ (sc_pf cl x l → sc_wv cl k (x :: l) < sc_wv cl k (sc_ps cl x l))
  | [], x, k => ⟨Nat.le_refl _, fun h => absurd h id⟩
  | y :: l, x, k => by
    unfold sc_ps
    by_cases h : sc_sw cl x y
    · rw [if_pos h]
      have ih := (sc_psW hc l x (k + 1)).1
      have r := sc_rk hc h
      have e1 : sc_wv cl k (x :: y :: l) = k * (cl x.toNatClampNeg).toNatClampNeg + ((k + 1) * (cl y.toNatClampNeg).toNatClampNeg + sc_wv cl (k + 1 + 1) l) := rfl
      have e2 : sc_wv cl k (y :: sc_ps cl x l) = k * (cl y.toNatClampNeg).toNatClampNeg + sc_wv cl (k + 1) (sc_ps cl x l) := rfl
      have e3 : sc_wv cl (k + 1) (x :: l) = (k + 1) * (cl x.toNatClampNeg).toNatClampNeg + sc_wv cl (k + 1 + 1) l := rfl
      rw [Nat.succ_mul] at e1 e3
      exact ⟨by omega, fun _ => by omega⟩
    · rw [if_neg h]
      have ih := sc_psW hc l y (k + 1)
      have e1 : sc_wv cl k (x :: y :: l) = k * (cl x.toNatClampNeg).toNatClampNeg + sc_wv cl (k + 1) (y :: l) := rfl
      have e2 : sc_wv cl k (x :: sc_ps cl y l) = k * (cl x.toNatClampNeg).toNatClampNeg + sc_wv cl (k + 1) (sc_ps cl y l) := rfl
      refine ⟨by omega, fun z => ?_⟩
      have := ih.2 (z.elim (fun w => absurd w h) id)
      omega
theorem sc_wvB {cl : Nat → Int32} (hc : ∀ i, vp_in (cl i) 10) : ∀ l k, k + l.length ≤ 64 → sc_wv cl k l ≤ 640 * l.length
  | [], k, _ => Nat.zero_le _
  | x :: l, k, h => by
    have h' : k + (l.length + 1) ≤ 64 := h
    have ih := sc_wvB hc l (k + 1) (by omega)
    have l1 := sn_cl (hc x.toNatClampNeg)
    have m : k * (cl x.toNatClampNeg).toNatClampNeg ≤ 64 * 10 := Nat.mul_le_mul (by omega) (by omega)
    show k * (cl x.toNatClampNeg).toNatClampNeg + sc_wv cl (k + 1) l ≤ 640 * (l.length + 1)
    omega
section
variable {cc rl wl : Int32} {cl dt df ds ex lo uf us fi ki ef es di we cf cs cm tx le rr wk sh fo fl el ec ke kl em oe be pl po : Nat → Int32}
theorem x_ord_i {post : SX → Prop} {J : Int32 → (Nat → Int32) → Prop} {J2 : _} {i : Nat} {x : Int32} (hx : vp_in x 48)
    (hJ : ∀ wk, J (nI (i + 1)) wk → J2 (nI (i + 1)) cl dt df ds ex lo uf us fi ki ef es di we cf cs cm tx le rr wk sh fo fl el ec ke kl em oe be pl po) :
    ∀ (r : List Int32) (h : Int32) (s : List Int32) (wk : Nat → Int32), r.length + 1 + s.length ≤ 64 → sc_All r → sc_Rp wk (r.reverse ++ h :: s) →
    (∀ wk, sc_Rp wk ((sc_ir cl x r).reverse ++ s) → J (nI (i + 1)) wk) →
    wX_orderWork_31 post J2 (nI i) x cc rl wl (r.length + 1) (nI r.length) (nI r.length) cl dt df ds ex lo uf us fi ki ef es di we cf cs cm tx le rr wk sh fo fl el ec ke kl em oe be pl po := by
  intro r
  induction r with
  | nil =>
    intro h s wk hl hA hr hk
    refine br_t (by decide) ⟨vp_in_nI (by simp) (by decide), nm_e (nm_r (nI_1 i) (hJ _ (hk _ ?_)))⟩
    exact sc_Rp_set (l := []) x hr
  | cons y r ih =>
    intro h s wk hl hA hr hk
    have hl' : r.length + 1 + 1 + s.length ≤ 64 := hl
    have hr2 := hr
    rw [List.reverse_cons, List.append_assoc] at hr2
    have ey : wk (nI (r.length + 1) - 1).toNatClampNeg = y := by
      rw [nI_pred, nI_clamp (by omega)]
      have := sc_Rp_mid hr2
      rw [List.length_reverse] at this
      exact this
    have e1 : (nI (r.length + 1)).toNatClampNeg = r.length + 1 := nI_clamp (by omega)
    have lr : (y :: r).reverse.length = r.length + 1 := by rw [List.length_reverse]; rfl
    have v1 : vp_in (nI (r.length + 1)) 64 := vp_in_nI (by omega) (by decide)
    have v0 : vp_in (nI (r.length + 1) - 1) 64 := by rw [nI_pred]; exact vp_in_nI (by omega) (by decide)
    unfold sc_ir at hk
    refine br_f (nI_nle (by simp) (by simp; omega)) ⟨v0, by show vp_in (wk (nI (r.length + 1) - 1).toNatClampNeg) 48; rw [ey]; exact (sc_All_cons.mp hA).1, hx, ?_⟩
    show (cl (wk (nI (r.length + 1) - 1).toNatClampNeg).toNatClampNeg ≤ cl x.toNatClampNeg → _) ∧ (¬ cl (wk (nI (r.length + 1) - 1).toNatClampNeg).toNatClampNeg ≤ cl x.toNatClampNeg → _)
    rw [ey]
    refine br_c (fun a => ⟨v1, nm_r (e' := upd wk (r.length + 1) x) (by show upd wk (nI (r.length + 1)).toNatClampNeg x = _; rw [e1]) (nm_r (nI_1 i) (hJ _ (hk _ ?_)))⟩) (fun a => ⟨v0, v1, nm_r (e' := upd wk (r.length + 1) y) (by show upd wk (nI (r.length + 1)).toNatClampNeg (wk (nI (r.length + 1) - 1).toNatClampNeg) = _; rw [e1, ey]) (nm_r (nI_pred _) (nm_r (pk_m1 _) (ih y (y :: s) _ (by simp; omega) (sc_All_cons.mp hA).2 ?_ (fun wk' hr' => hk wk' ?_))))⟩)
    · rw [if_pos a, List.reverse_cons]
      have := sc_Rp_set x hr
      rw [lr] at this
      rw [List.append_assoc]
      exact this
    · have := sc_Rp_set y hr
      rw [lr, List.reverse_cons, List.append_assoc] at this
      exact this
    · rw [if_neg a, List.reverse_cons, List.append_assoc]
      exact hr'
theorem x_ord_l {post : SX → Prop} {N : Nat} (hN : N ≤ 64) :
    ∀ (rest r : List Int32) (wk : Nat → Int32), r.length + rest.length = N → sc_All r → sc_All rest → sc_Rp wk (r.reverse ++ rest) →
    (∀ wk, sc_Rp wk ((sc_F cl r rest).reverse) → post (cc, rl, nI N, cl, dt, df, ds, ex, lo, uf, us, fi, ki, ef, es, di, we, cf, cs, cm, tx, le, rr, wk, sh, fo, fl, el, ec, ke, kl, em, oe, be, pl, po)) →
    wX_orderWork_2 post cc rl (nI N) (rest.length + 1) (nI r.length) cl dt df ds ex lo uf us fi ki ef es di we cf cs cm tx le rr wk sh fo fl el ec ke kl em oe be pl po := by
  intro rest
  induction rest with
  | nil =>
    intro r wk hl hA hB hr h
    have hl' : r.length + 0 = N := hl
    rw [List.append_nil] at hr
    exact br_t (nI_le (by omega) (by omega)) (h wk hr)
  | cons x rest ih =>
    intro r wk hl hA hB hr h
    have hl' : r.length + (rest.length + 1) = N := hl
    obtain ⟨hx, hB'⟩ := sc_All_cons.mp hB
    have ew : wk (nI r.length).toNatClampNeg = x := by
      rw [nI_clamp (by omega)]
      have := sc_Rp_mid hr
      rw [List.length_reverse] at this
      exact this
    have v : vp_in (nI r.length) 64 := vp_in_nI (by omega) (by decide)
    have h' : ∀ wk, sc_Rp wk ((sc_F cl (sc_io cl x r) rest).reverse) → post (cc, rl, nI N, cl, dt, df, ds, ex, lo, uf, us, fi, ki, ef, es, di, we, cf, cs, cm, tx, le, rr, wk, sh, fo, fl, el, ec, ke, kl, em, oe, be, pl, po) := h
    unfold sc_io at h'
    refine br_f (nI_ge (by omega) (by omega)) ⟨v, nm_r ew ⟨hx, br_c (fun a => ⟨v, nm_r (e' := upd wk r.length x) (by rw [nI_clamp (by omega)]) (nm_r (nI_1 _) ?_)⟩) (fun a => ?_)⟩⟩
    · rw [if_pos a] at h'
      refine ih (x :: r) _ (by simp; omega) (sc_All_cons.mpr ⟨hx, hA⟩) hB' ?_ h'
      have := sc_Rp_set x hr
      rw [List.length_reverse] at this
      rw [List.reverse_cons, List.append_assoc]
      exact this
    · rw [if_neg a] at h'
      refine ⟨r.length + 1, x_ord_i (J := fun _ wk => sc_Rp wk ((sc_ir cl x r).reverse ++ rest)) hx ?_ r x rest wk (by omega) hA hr (fun wk' hr' => hr')⟩
      intro wk' hr'
      have g := ih (sc_ir cl x r) wk' (by rw [sc_irL]; omega) (sc_irA cl hx r hA) hB' hr' h'
      rw [sc_irL] at g
      exact g
theorem x_order {post : SX → Prop} {l : List Int32} (hN : l.length ≤ 64) (hA : sc_All l) (hr : sc_Rp wk l) (h : ∀ wk, sc_Rp wk (sc_od cl l) → post (cc, rl, nI (sc_od cl l).length, cl, dt, df, ds, ex, lo, uf, us, fi, ki, ef, es, di, we, cf, cs, cm, tx, le, rr, wk, sh, fo, fl, el, ec, ke, kl, em, oe, be, pl, po)) : wpX_orderWork post (cc, rl, nI l.length, cl, dt, df, ds, ex, lo, uf, us, fi, ki, ef, es, di, we, cf, cs, cm, tx, le, rr, wk, sh, fo, fl, el, ec, ke, kl, em, oe, be, pl, po) := by
  rw [sc_odL] at h
  cases l with
  | nil => exact ⟨1, br_t (by decide) (h wk (sc_Rp0 _))⟩
  | cons x l =>
    obtain ⟨hx, hB⟩ := sc_All_cons.mp hA
    refine ⟨l.length + 1, x_ord_l hN l [x] wk (by simp; omega) (sc_All_cons.mpr ⟨hx, sc_All_nil⟩) hB hr (fun wk' hr' => h wk' ?_)⟩
    unfold sc_od
    show sc_Rp wk' (sc_F cl (sc_io cl x []) l).reverse
    rw [sc_io0]
    exact hr'
end
section
variable {cc rl yn : Int32} {cl dt df pb lo uf us fi ki wt ef eb di ex cf cs cm lg tx le rr ro fm fL ee en ye lv se pg ou : Nat → Int32}
theorem y_ord_i {post : SY → Prop} {J2 : _} {N : Nat} (hN : N ≤ 64) :
    ∀ (rest pre : List Int32) (x : Int32) (g : Int32) (ro : Nat → Int32), pre.length + 1 + rest.length = N → sc_All (x :: rest) → sc_Rp ro (pre ++ x :: rest) →
    (sc_pf cl x rest → ∀ ro, sc_Rp ro (pre ++ sc_ps cl x rest) → J2 1 cl dt df pb lo uf us fi ki wt ef eb di ex cf cs cm lg tx le rr ro fm fL ee en ye lv se pg ou) → (¬ sc_pf cl x rest → ∀ ro, sc_Rp ro (pre ++ sc_ps cl x rest) → J2 g cl dt df pb lo uf us fi ki wt ef eb di ex cf cs cm lg tx le rr ro fm fL ee en ye lv se pg ou) →
    wY_order_10 post J2 cc rl (nI N) (rest.length + 1) g (nI (pre.length + 1)) cl dt df pb lo uf us fi ki wt ef eb di ex cf cs cm lg tx le rr ro fm fL ee en ye lv se pg ou := by
  intro rest
  induction rest with
  | nil =>
    intro pre x g ro hl hA hr h1 h0
    have hl' : pre.length + 1 + 0 = N := hl
    exact br_t (nI_le (by omega) (by omega)) (h0 id ro hr)
  | cons y rest ih =>
    intro pre x g ro hl hA hr h1 h0
    have hl' : pre.length + 1 + (rest.length + 1) = N := hl
    obtain ⟨hx, hB⟩ := sc_All_cons.mp hA
    obtain ⟨hy, hC⟩ := sc_All_cons.mp hB
    have ex' : ro (nI (pre.length + 1) - 1).toNatClampNeg = x := by rw [nI_pred, nI_clamp (by omega)]; exact sc_Rp_mid hr
    have hr2 : sc_Rp ro ((pre ++ [x]) ++ y :: rest) := by rw [List.append_assoc]; exact hr
    have lx : ∀ z : Int32, (pre ++ [z]).length = pre.length + 1 := fun z => by simp
    have ey : ro (nI (pre.length + 1)).toNatClampNeg = y := by
      rw [nI_clamp (by omega), ← lx x]; exact sc_Rp_mid hr2
    have v0 : vp_in (nI (pre.length + 1) - 1) 64 := by rw [nI_pred]; exact vp_in_nI (by omega) (by decide)
    have v1 : vp_in (nI (pre.length + 1)) 64 := vp_in_nI (by omega) (by decide)
    have keep : ¬ sc_sw cl x y → wY_order_10 post J2 cc rl (nI N) (rest.length + 1) g (nI (pre.length + 1 + 1)) cl dt df pb lo uf us fi ki wt ef eb di ex cf cs cm lg tx le rr ro fm fL ee en ye lv se pg ou := by
      intro hs
      unfold sc_ps at h1 h0
      rw [if_neg hs] at h1 h0
      have q := ih (pre ++ [x]) y g ro (by rw [lx]; omega) hB hr2
      rw [lx, List.append_assoc] at q
      exact q (fun z => h1 (Or.inr z)) (fun z => h0 (fun w => w.elim hs z))
    refine br_f (nI_ge (by omega) (by omega)) ⟨v0, nm_r ex' ⟨v1, nm_r ey ⟨hx, hy, br_c (fun a => nm_r (nI_1 _) (keep (fun z => z.1 a))) (fun a => ⟨hy, br_c (fun b => nm_r (nI_1 _) (keep (fun z => z.2 b))) (fun b => ?_)⟩)⟩⟩⟩
    have hs : sc_sw cl x y := ⟨a, b⟩
    unfold sc_ps at h1
    rw [if_pos hs] at h1
    refine ⟨v0, nm_r (e' := upd ro pre.length y) (by rw [nI_pred, nI_clamp (by omega)]) ⟨v1, nm_r (e' := upd (upd ro pre.length y) (pre.length + 1) x) (by rw [nI_clamp (by omega)]) (nm_r (nI_1 _) ?_)⟩⟩
    have hr3 : sc_Rp (upd (upd ro pre.length y) (pre.length + 1) x) ((pre ++ [y]) ++ x :: rest) := by
      have r1 := sc_Rp_set y hr
      have r2 : sc_Rp (upd ro pre.length y) ((pre ++ [y]) ++ y :: rest) := by rw [List.append_assoc]; exact r1
      have r3 := sc_Rp_set x r2
      rw [lx] at r3
      exact r3
    have q := ih (pre ++ [y]) x 1 _ (by rw [lx]; omega) (sc_All_cons.mpr ⟨hx, hC⟩) hr3
    rw [lx, List.append_assoc] at q
    exact q (fun _ => h1 (Or.inl hs)) (fun _ => h1 (Or.inl hs))
theorem y_ord_l {post : SY → Prop} (hc : ∀ i, vp_in (cl i) 10) :
    ∀ (m : Nat) (l : List Int32) (ro : Nat → Int32), 40960 - sc_wv cl 0 l < m → l.length ≤ 64 → sc_All l → sc_Rp ro l →
    (∀ ro, sc_Rp ro (sc_od cl l) → post (cc, rl, nI l.length, cl, dt, df, pb, lo, uf, us, fi, ki, wt, ef, eb, di, ex, cf, cs, cm, lg, tx, le, rr, ro, fm, fL, ee, en, ye, lv, se, pg, ou)) → ∀ n, m + 1 ≤ n → wY_order_2 post cc rl (nI l.length) n 1 cl dt df pb lo uf us fi ki wt ef eb di ex cf cs cm lg tx le rr ro fm fL ee en ye lv se pg ou := by
  intro m
  induction m with
  | zero => intro l ro hm; omega
  | succ m ih =>
    intro l ro hm hl hA hr h n hn
    obtain ⟨n, rfl⟩ : ∃ q, n = q + 1 + 1 := ⟨n - 2, by omega⟩
    cases l with
    | nil => exact br_f (by decide) ⟨1, br_t (by decide) (br_t rfl (h ro hr))⟩
    | cons x l =>
      refine br_f (by decide) ⟨l.length + 1, ?_⟩
      have hw := sc_psW hc l x 0
      have hb := sc_wvB hc (sc_ps cl x l) 0 (by rw [sc_psL]; simp at hl; omega)
      rw [sc_psL] at hb
      have hl' : l.length + 1 ≤ 64 := hl
      refine y_ord_i hl l [] x 0 ro (by simp; omega) hA hr (fun z ro' hr' => ?_) (fun z ro' hr' => ?_)
      · have g := ih (sc_ps cl x l) ro' (by have := hw.2 z; omega) (by rw [sc_psL]; omega) (sc_psA cl l x hA) hr'
        rw [sc_odP, sc_psL] at g
        exact g h (n + 1) (by omega)
      · refine br_t rfl (h ro' ?_)
        rw [sc_odN z]
        have e : sc_Rp ro' (sc_ps cl x l) := hr'
        rw [sc_psN cl l x z] at e
        exact e
theorem y_order {post : SY → Prop} {l : List Int32} (hc : ∀ i, vp_in (cl i) 10) (hN : l.length ≤ 64) (hA : sc_All l) (hr : sc_Rp ro l) (h : ∀ ro, sc_Rp ro (sc_od cl l) → post (cc, rl, nI (sc_od cl l).length, cl, dt, df, pb, lo, uf, us, fi, ki, wt, ef, eb, di, ex, cf, cs, cm, lg, tx, le, rr, ro, fm, fL, ee, en, ye, lv, se, pg, ou)) : wpY_order post (cc, rl, nI l.length, cl, dt, df, pb, lo, uf, us, fi, ki, wt, ef, eb, di, ex, cf, cs, cm, lg, tx, le, rr, ro, fm, fL, ee, en, ye, lv, se, pg, ou) := by
  rw [sc_odL] at h
  exact ⟨40962, y_ord_l hc 40961 l ro (by omega) hN hA hr h 40962 (by omega)⟩
end
end
section
/-! composition -/
def sc_pr : Nat → Int32
  | 0 => -1
  | k + 1 => nI k
theorem sc_prS (k : Nat) : nI k - 1 = sc_pr k := by
  cases k with
  | zero => decide
  | succ k => exact nI_pred k
theorem sc_prA (k : Nat) : nI k + (-1) = sc_pr k := by
  cases k with
  | zero => decide
  | succ k => exact pk_m1 k
def sc_lz (g : Nat → Int32) : Nat → Int32
  | 0 => -1
  | k + 1 => if g k = 0 then nI k else sc_lz g k
def sc_ol (g : Nat → Int32) (c : Int32) : Nat → Prop
  | 0 => True
  | k + 1 => g k = 0 ∨ (g k < c ∧ sc_ol g c k)
theorem sc_lzR (g : Nat → Int32) : ∀ k, sc_lz g k = -1 ∨ ∃ s, s < k ∧ sc_lz g k = nI s := by
  intro k
  induction k with
  | zero => exact Or.inl rfl
  | succ k ih =>
    unfold sc_lz
    by_cases h : g k = 0
    · rw [if_pos h]; exact Or.inr ⟨k, by omega, rfl⟩
    · rw [if_neg h]
      exact ih.elim Or.inl (fun ⟨s, hs, e⟩ => Or.inr ⟨s, by omega, e⟩)
theorem sc_lzO {g : Nat → Int32} {c : Int32} {s : Nat} (hs : s < 2 ^ 31) : ∀ k, k < 2 ^ 31 → sc_lz g k = nI s → (sc_ol g c k ↔ ∀ j, s < j → j < k → g j < c) := by
  intro k
  induction k with
  | zero => intro _ h; exact absurd h.symm (sc_m1 s hs)
  | succ k ih =>
    intro hk h
    unfold sc_lz at h
    by_cases h0 : g k = 0
    · rw [if_pos h0] at h
      have : k = s := (nI_eq (by omega) hs).mp h
      exact ⟨fun _ j h1 h2 => absurd h1 (by omega), fun _ => Or.inl h0⟩
    · rw [if_neg h0] at h
      have ih' := ih (by omega) h
      constructor
      · intro z j h1 h2
        have z' := z.elim (fun w => absurd w h0) id
        by_cases e : j = k
        · rw [e]; exact z'.1
        · exact ih'.mp z'.2 j h1 (by omega)
      · intro z
        have sk : s < k := by
          rcases sc_lzR g k with e | ⟨s', hs', e⟩
          · exact absurd (h.symm.trans e) (sc_m1 s hs)
          · have := (nI_eq hs (by omega)).mp (h.symm.trans e); omega
        exact Or.inr ⟨z k sk (by omega), ih'.mpr (fun j h1 h2 => z j h1 (by omega))⟩
def sc_co (dt df ds ex : Nat → Int32) (s x : Int32) : Nat → Nat → Int32
  | 0, _ => -1
  | d + 1, i => if dt i = 1 ∧ ex i = 0 ∧ df i = s ∧ ds i = x then nI i else sc_co dt df ds ex s x d (i + 1)
theorem sc_coR (dt df ds ex : Nat → Int32) (s x : Int32) : ∀ d i, sc_co dt df ds ex s x d i = -1 ∨ ∃ j, j < i + d ∧ sc_co dt df ds ex s x d i = nI j := by
  intro d
  induction d with
  | zero => exact fun i => Or.inl rfl
  | succ d ih =>
    intro i
    unfold sc_co
    by_cases h : dt i = 1 ∧ ex i = 0 ∧ df i = s ∧ ds i = x
    · rw [if_pos h]; exact Or.inr ⟨i, by omega, rfl⟩
    · rw [if_neg h]
      exact (ih (i + 1)).elim Or.inl (fun ⟨j, hj, e⟩ => Or.inr ⟨j, by omega, e⟩)
def sc_g (cl : Nat → Int32) (l : List Int32) (i : Nat) : Int32 := cl (sc_at l i).toNatClampNeg
noncomputable def sc_cs (cl dt df ds ex : Nat → Int32) (pre : List Int32) (x : Int32) : List Int32 :=
  @ite _ (sc_lz (sc_g cl pre) pre.length = -1 ∨ sc_co dt df ds ex (sc_at pre (sc_lz (sc_g cl pre) pre.length).toNatClampNeg) x 48 0 = -1 ∨ ¬ sc_ol (sc_g cl pre) (cl x.toNatClampNeg) pre.length) (Classical.propDecidable _)
    (pre ++ [x]) (pre.set (sc_lz (sc_g cl pre) pre.length).toNatClampNeg (sc_co dt df ds ex (sc_at pre (sc_lz (sc_g cl pre) pre.length).toNatClampNeg) x 48 0))
noncomputable def sc_cm (cl dt df ds ex : Nat → Int32) : List Int32 → List Int32 → List Int32
  | pre, [] => pre
  | pre, x :: rest => sc_cm cl dt df ds ex (sc_cs cl dt df ds ex pre x) rest
theorem sc_at_set : ∀ (l : List Int32) (i : Nat) (c : Int32) (j : Nat), j < l.length → sc_at (l.set i c) j = if j = i then c else sc_at l j
  | [], _, _, _, h => absurd h (Nat.not_lt_zero _)
  | x :: l, 0, c, 0, _ => rfl
  | x :: l, 0, c, j + 1, _ => rfl
  | x :: l, i + 1, c, 0, _ => rfl
  | x :: l, i + 1, c, j + 1, h => by
    show sc_at (l.set i c) j = if j + 1 = i + 1 then c else sc_at l j
    rw [sc_at_set l i c j (Nat.lt_of_succ_lt_succ h)]
    by_cases e : j = i
    · rw [if_pos e, if_pos (by omega)]
    · rw [if_neg e, if_neg (by omega)]
theorem sc_Rp_list {a : Nat → Int32} {l : List Int32} {i : Nat} {c : Int32} (h : sc_Rp a l) : sc_Rp (upd a i c) (l.set i c) := by
  intro j hj
  rw [List.length_set] at hj
  rw [sc_at_set l i c j hj]
  by_cases e : j = i
  · rw [if_pos e, e, pk_us]
  · rw [if_neg e, pk_un e]; exact h j hj
theorem sc_All_set {l : List Int32} {c : Int32} (h : sc_All l) (hc : vp_in c 48) (i : Nat) : sc_All (l.set i c) := by
  intro x hx
  rcases List.mem_or_eq_of_mem_set hx with z | z
  · exact h x z
  · rw [z]; exact hc
theorem sc_csA {cl dt df ds ex : Nat → Int32} {pre : List Int32} {x : Int32} (h : sc_All pre) (hx : vp_in x 48) : sc_All (sc_cs cl dt df ds ex pre x) := by
  unfold sc_cs
  split
  · exact sc_All_app.mpr ⟨h, sc_All_cons.mpr ⟨hx, sc_All_nil⟩⟩
  · rename_i z
    refine sc_All_set h ?_ _
    rcases sc_coR dt df ds ex (sc_at pre (sc_lz (sc_g cl pre) pre.length).toNatClampNeg) x 48 0 with e | ⟨j, hj, e⟩
    · exact absurd (Or.inr (Or.inl e)) z
    · rw [e]; exact vp_in_nI (by omega) (by decide)
theorem sc_csL (cl dt df ds ex : Nat → Int32) (pre : List Int32) (x : Int32) : (sc_cs cl dt df ds ex pre x).length ≤ pre.length + 1 := by
  unfold sc_cs
  split
  · simp
  · rw [List.length_set]; omega
theorem sc_cmA {cl dt df ds ex : Nat → Int32} : ∀ rest pre, sc_All pre → sc_All rest → sc_All (sc_cm cl dt df ds ex pre rest)
  | [], pre, h, _ => h
  | x :: rest, pre, h, h2 => sc_cmA rest _ (sc_csA h (sc_All_cons.mp h2).1) (sc_All_cons.mp h2).2
theorem sc_cmL {cl dt df ds ex : Nat → Int32} : ∀ rest pre, (sc_cm cl dt df ds ex pre rest).length ≤ pre.length + rest.length
  | [], pre => Nat.le_refl _
  | x :: rest, pre => by
    have h1 := sc_csL cl dt df ds ex pre x
    have h2 := sc_cmL (cl := cl) (dt := dt) (df := df) (ds := ds) (ex := ex) rest (sc_cs cl dt df ds ex pre x)
    show (sc_cm cl dt df ds ex (sc_cs cl dt df ds ex pre x) rest).length ≤ pre.length + (rest.length + 1)
    omega
theorem sc_pe {a : Nat → Int32} {l : List Int32} (h : sc_Rp a l) (hA : sc_All l) (cl : Nat → Int32) : ∀ j, j < l.length → vp_in (a j) 48 ∧ cl (a j).toNatClampNeg = sc_g cl l j := by
  intro j hj
  rw [h j hj]
  exact ⟨hA _ (sc_at_mem l j hj), rfl⟩
section
variable {cc rl wl : Int32} {cl dt df ds ex lo uf us fi ki ef es di we cf cs cm tx le rr wk sh fo fl el ec ke kl em oe be pl po : Nat → Int32}
theorem x_lz_l {post : Int32 → Prop} {g : Nat → Int32} : ∀ k, k ≤ 64 → (∀ j, j < k → vp_in (wk j) 48 ∧ cl (wk j).toNatClampNeg = g j) → post (sc_lz g k) → wX_lastOfClassZero_4 post cc rl wl cl dt df ds ex lo uf us fi ki ef es di we cf cs cm tx le rr wk sh fo fl el ec ke kl em oe be pl po (k + 1) (sc_pr k) := by
  intro k
  induction k with
  | zero => exact fun hk hg h => br_t (by decide) h
  | succ k ih =>
    intro hk hg h
    have c : (sc_pr (k + 1)).toNatClampNeg = k := nI_clamp (by omega)
    unfold sc_lz at h
    obtain ⟨g1, g2⟩ := hg k (by omega)
    refine br_f (nI_pos (by omega)) ⟨vp_in_nI (by omega) (by decide), by rw [c]; exact g1, ?_⟩
    rw [c, g2]
    refine br_c (fun a => ?_) (fun a => nm_r (sc_prA k) (ih (by omega) (fun j hj => hg j (by omega)) ?_))
    · rw [if_pos a] at h; exact h
    · rw [if_neg a] at h; exact h
theorem x_lz {post : Int32 → Prop} {g : Nat → Int32} {k : Nat} (hk : k ≤ 64) (hg : ∀ j, j < k → vp_in (wk j) 48 ∧ cl (wk j).toNatClampNeg = g j) (h : post (sc_lz g k)) : wpX_lastOfClassZero post (cc, rl, wl, cl, dt, df, ds, ex, lo, uf, us, fi, ki, ef, es, di, we, cf, cs, cm, tx, le, rr, wk, sh, fo, fl, el, ec, ke, kl, em, oe, be, pl, po) (nI k) := by
  unfold wpX_lastOfClassZero
  exact nm_r (sc_prS k) ⟨k + 1, x_lz_l k hk hg h⟩
theorem x_co_l {post : Int32 → Prop} {s x : Int32} : ∀ d i, i + d = 48 → post (sc_co dt df ds ex s x d i) → wX_findComposite_2 post s x cc rl wl cl dt df ds ex lo uf us fi ki ef es di we cf cs cm tx le rr wk sh fo fl el ec ke kl em oe be pl po (d + 1) (nI i) := by
  intro d
  induction d with
  | zero => exact fun i hi h => br_t (nI_le (a := 48) (by omega) (by omega)) h
  | succ d ih =>
    intro i hi h
    have v : vp_in (nI i) 48 := vp_in_nI (by omega) (by decide)
    have c : (nI i).toNatClampNeg = i := nI_clamp (by omega)
    unfold sc_co at h
    refine br_f (nI_ge (b := 48) (by omega) (by decide)) ⟨v, ?_⟩
    rw [c]
    refine br_c (fun p => ⟨v, br_c (fun q => ⟨v, br_c (fun r => ⟨v, br_c (fun z => ?_) (fun z => nm_r (nI_1 i) (ih (i + 1) (by omega) ?_))⟩) (fun r => nm_r (nI_1 i) (ih (i + 1) (by omega) ?_))⟩) (fun q => nm_r (nI_1 i) (ih (i + 1) (by omega) ?_))⟩) (fun p => nm_r (nI_1 i) (ih (i + 1) (by omega) ?_))
    · rw [if_pos ⟨p, q, r, z⟩] at h; exact h
    · rw [if_neg (fun w => z w.2.2.2)] at h; exact h
    · rw [if_neg (fun w => r w.2.2.1)] at h; exact h
    · rw [if_neg (fun w => q w.2.1)] at h; exact h
    · rw [if_neg (fun w => p w.1)] at h; exact h
theorem x_co {post : Int32 → Prop} {s x : Int32} (h : post (sc_co dt df ds ex s x 48 0)) : wpX_findComposite post (cc, rl, wl, cl, dt, df, ds, ex, lo, uf, us, fi, ki, ef, es, di, we, cf, cs, cm, tx, le, rr, wk, sh, fo, fl, el, ec, ke, kl, em, oe, be, pl, po) s x := ⟨49, x_co_l 48 0 (by omega) h⟩
theorem x_ob_l {post : Int32 → Prop} {g : Nat → Int32} {x : Int32} {s k : Nat} (hk : k ≤ 64) (hx : vp_in x 48) (hg : ∀ j, j < k → vp_in (wk j) 48 ∧ cl (wk j).toNatClampNeg = g j)
    (h1 : (∀ j, s < j → j < k → g j < cl x.toNatClampNeg) → post 1) (h0 : ¬ (∀ j, s < j → j < k → g j < cl x.toNatClampNeg) → post 0) :
    ∀ d i, i + d = k → (∀ j, s < j → j < i → g j < cl x.toNatClampNeg) → s < i → wX_isOpenBetween_5 post (nI k) x cc rl wl cl dt df ds ex lo uf us fi ki ef es di we cf cs cm tx le rr wk sh fo fl el ec ke kl em oe be pl po (d + 1) (nI i) := by
  intro d
  induction d with
  | zero => exact fun i hi hs hsi => br_t (nI_le (by omega) (by omega)) (h1 (fun j a b => hs j a (by omega)))
  | succ d ih =>
    intro i hi hs hsi
    obtain ⟨g1, g2⟩ := hg i (by omega)
    have c : (nI i).toNatClampNeg = i := nI_clamp (by omega)
    refine br_f (nI_ge (by omega) (by omega)) ⟨vp_in_nI (by omega) (by decide), by rw [c]; exact g1, hx, ?_⟩
    rw [c, g2]
    refine br_c (fun a => nm_r (nI_1 i) (ih (i + 1) (by omega) (fun j p q => ?_) (by omega))) (fun a => h0 (fun z => a (z i hsi (by omega))))
    by_cases e : j = i
    · rw [e]; exact a
    · exact hs j p (by omega)
theorem x_ob {post : Int32 → Prop} {g : Nat → Int32} {x : Int32} {s k : Nat} (hk : k ≤ 64) (hs : s < k) (hx : vp_in x 48) (hg : ∀ j, j < k → vp_in (wk j) 48 ∧ cl (wk j).toNatClampNeg = g j)
    (h1 : (∀ j, s < j → j < k → g j < cl x.toNatClampNeg) → post 1) (h0 : ¬ (∀ j, s < j → j < k → g j < cl x.toNatClampNeg) → post 0) : wpX_isOpenBetween post (cc, rl, wl, cl, dt, df, ds, ex, lo, uf, us, fi, ki, ef, es, di, we, cf, cs, cm, tx, le, rr, wk, sh, fo, fl, el, ec, ke, kl, em, oe, be, pl, po) (nI s) (nI k) x := by
  unfold wpX_isOpenBetween
  exact nm_r (nI_1 s) ⟨k - (s + 1) + 1, x_ob_l hk hx hg h1 h0 (k - (s + 1)) (s + 1) (by omega) (fun j a b => absurd b (by omega)) (by omega)⟩
theorem x_cm_l {post : SX → Prop} {N : Nat} (hN : N ≤ 64) :
    ∀ (rest pre : List Int32) (i : Nat) (wk : Nat → Int32), pre.length ≤ i → i + rest.length = N → sc_All pre → sc_All rest → sc_Rp wk pre → (∀ j, j < rest.length → wk (i + j) = sc_at rest j) →
    (∀ wk, sc_Rp wk (sc_cm cl dt df ds ex pre rest) → post (cc, rl, nI (sc_cm cl dt df ds ex pre rest).length, cl, dt, df, ds, ex, lo, uf, us, fi, ki, ef, es, di, we, cf, cs, cm, tx, le, rr, wk, sh, fo, fl, el, ec, ke, kl, em, oe, be, pl, po)) →
    wX_composeWork_4 post cc rl (nI N) (rest.length + 1) (nI pre.length) (nI i) cl dt df ds ex lo uf us fi ki ef es di we cf cs cm tx le rr wk sh fo fl el ec ke kl em oe be pl po := by
  intro rest
  induction rest with
  | nil =>
    intro pre i wk hp hi hA hB hr hq h
    have hi' : i + 0 = N := hi
    exact br_t (nI_le (by omega) (by omega)) (h wk hr)
  | cons x rest ih =>
    intro pre i wk hp hi hA hB hr hq h
    have hi' : i + (rest.length + 1) = N := hi
    obtain ⟨hx, hB'⟩ := sc_All_cons.mp hB
    have wx : wk (nI i).toNatClampNeg = x := by rw [nI_clamp (by omega)]; exact hq 0 (Nat.succ_pos _)
    have hg := sc_pe hr hA cl
    have hcsL := sc_csL cl dt df ds ex pre x
    have keep : sc_cs cl dt df ds ex pre x = pre ++ [x] → wX_composeWork_79 post (wX_composeWork_4 post cc rl (nI N) (rest.length + 1)) (nI pre.length) (nI i) x cc rl (nI N) cl dt df ds ex lo uf us fi ki ef es di we cf cs cm tx le rr wk sh fo fl el ec ke kl em oe be pl po := by
      intro e
      refine ⟨vp_in_nI (by omega) (by decide), nm_r (e' := upd wk pre.length x) (by rw [nI_clamp (by omega)]) (nm_r (nI_1 _) (nm_r (nI_1 _) ?_))⟩
      have g := ih (pre ++ [x]) (i + 1) (upd wk pre.length x) (by simp; omega) (by omega) (sc_All_app.mpr ⟨hA, sc_All_cons.mpr ⟨hx, sc_All_nil⟩⟩) hB' (sc_Rp_snoc x hr) ?_ (by rw [← e]; exact h)
      · rw [List.length_append] at g
        exact g
      · intro j hj
        rw [pk_un (by omega), show i + 1 + j = i + (j + 1) by omega]
        exact hq (j + 1) (Nat.succ_lt_succ hj)
    refine br_f (nI_ge (by omega) (by omega)) ⟨vp_in_nI (by omega) (by decide), nm_r wx (x_lz (by omega) hg ?_)⟩
    rcases sc_lzR (sc_g cl pre) pre.length with e | ⟨s, hs, e⟩
    · refine br_t e (br_t rfl (keep ?_))
      unfold sc_cs
      rw [if_pos (Or.inl e)]
    · have cS : (nI s).toNatClampNeg = s := nI_clamp (by omega)
      rw [e]
      refine br_f (sc_m1 s (by omega)) ⟨vp_in_nI (by omega) (by decide), x_co ?_⟩
      have ws : wk (nI s).toNatClampNeg = sc_at pre s := by rw [cS]; exact hr s hs
      rw [ws]
      rcases sc_coR dt df ds ex (sc_at pre s) x 48 0 with e2 | ⟨c, hc, e2⟩
      · refine br_t e2 (keep ?_)
        unfold sc_cs
        rw [if_pos (Or.inr (Or.inl (by rw [e, cS]; exact e2)))]
      · rw [e2]
        refine br_f (sc_m1 c (by omega)) (x_ob (by omega) hs hx hg (fun o => br_f (by decide) ⟨vp_in_nI (by omega) (by decide), nm_r (e' := upd wk s (nI c)) (by rw [cS]) (nm_r (nI_1 _) ?_)⟩) (fun o => br_t rfl (keep ?_)))
        · have ecs : sc_cs cl dt df ds ex pre x = pre.set s (nI c) := by
            unfold sc_cs
            rw [e, cS, e2, if_neg]
            exact fun z => z.elim (sc_m1 s (by omega)) (fun z => z.elim (sc_m1 c (by omega)) (fun z => z ((sc_lzO (by omega) _ (by omega) e).mpr o)))
          have g := ih (pre.set s (nI c)) (i + 1) (upd wk s (nI c)) (by rw [List.length_set]; omega) (by omega) (sc_All_set hA (vp_in_nI (by omega) (by decide)) s) hB' (sc_Rp_list hr) ?_ (by rw [← ecs]; exact h)
          · rw [List.length_set] at g
            exact g
          · intro j hj
            rw [pk_un (by omega), show i + 1 + j = i + (j + 1) by omega]
            exact hq (j + 1) (Nat.succ_lt_succ hj)
        · unfold sc_cs
          rw [if_pos (Or.inr (Or.inr (fun z => o ((sc_lzO (by omega) _ (by omega) e).mp z))))]
theorem x_compose {post : SX → Prop} {l : List Int32} (hN : l.length ≤ 64) (hA : sc_All l) (hr : sc_Rp wk l) (h : ∀ wk, sc_Rp wk (sc_cm cl dt df ds ex [] l) → post (cc, rl, nI (sc_cm cl dt df ds ex [] l).length, cl, dt, df, ds, ex, lo, uf, us, fi, ki, ef, es, di, we, cf, cs, cm, tx, le, rr, wk, sh, fo, fl, el, ec, ke, kl, em, oe, be, pl, po)) : wpX_composeWork post (cc, rl, nI l.length, cl, dt, df, ds, ex, lo, uf, us, fi, ki, ef, es, di, we, cf, cs, cm, tx, le, rr, wk, sh, fo, fl, el, ec, ke, kl, em, oe, be, pl, po) :=
  ⟨l.length + 1, x_cm_l hN l [] 0 wk (Nat.le_refl _) (by omega) sc_All_nil hA (sc_Rp0 _) (fun j hj => by rw [Nat.zero_add]; exact hr j hj) h⟩
end
section
variable {cc rl yn : Int32} {cl dt df pb lo uf us fi ki wt ef eb di ex cf cs cm lg tx le rr ro fm fL ee en ye lv se pg ou : Nat → Int32}
theorem y_co_l {post : Int32 → Prop} {ds : Nat → Int32} (hpb : ∀ i, i < 48 → ¬ dt i = 0 → pb i = ds i) {s x : Int32} : ∀ d i, i + d = 48 → post (sc_co dt df ds ex s x d i) → wY_composite_2 post s x cc rl yn cl dt df pb lo uf us fi ki wt ef eb di ex cf cs cm lg tx le rr ro fm fL ee en ye lv se pg ou (d + 1) (nI i) := by
  intro d
  induction d with
  | zero => exact fun i hi h => br_t (nI_le (a := 48) (by omega) (by omega)) h
  | succ d ih =>
    intro i hi h
    have v : vp_in (nI i) 48 := vp_in_nI (by omega) (by decide)
    have c : (nI i).toNatClampNeg = i := nI_clamp (by omega)
    unfold sc_co at h
    refine br_f (nI_ge (b := 48) (by omega) (by decide)) ⟨v, ?_⟩
    rw [c]
    refine br_c (fun p => ⟨v, br_c (fun q => ⟨v, br_c (fun r => ⟨v, br_c (fun z => ?_) (fun z => nm_r (nI_1 i) (ih (i + 1) (by omega) ?_))⟩) (fun r => nm_r (nI_1 i) (ih (i + 1) (by omega) ?_))⟩) (fun q => nm_r (nI_1 i) (ih (i + 1) (by omega) ?_))⟩) (fun p => nm_r (nI_1 i) (ih (i + 1) (by omega) ?_))
    · rw [hpb i (by omega) (by rw [p]; decide)] at r
      rw [if_pos ⟨p, z, q, r⟩] at h; exact h
    · rw [if_neg (fun w => z w.2.1)] at h; exact h
    · rw [hpb i (by omega) (by rw [p]; decide)] at r
      rw [if_neg (fun w => r w.2.2.2)] at h; exact h
    · rw [if_neg (fun w => q w.2.2.1)] at h; exact h
    · rw [if_neg (fun w => p w.1)] at h; exact h
theorem y_co {post : Int32 → Prop} {ds : Nat → Int32} (hpb : ∀ i, i < 48 → ¬ dt i = 0 → pb i = ds i) {s x : Int32} (h : post (sc_co dt df ds ex s x 48 0)) : wpY_composite post (cc, rl, yn, cl, dt, df, pb, lo, uf, us, fi, ki, wt, ef, eb, di, ex, cf, cs, cm, lg, tx, le, rr, ro, fm, fL, ee, en, ye, lv, se, pg, ou) s x := ⟨49, y_co_l hpb 48 0 (by omega) h⟩
theorem y_out_l {post : SY → Prop} {n : Nat} (hn : n < 64) : ∀ (d i : Nat) (ro : Nat → Int32), i + d = n →
    post (cc, rl, nI n, cl, dt, df, pb, lo, uf, us, fi, ki, wt, ef, eb, di, ex, cf, cs, cm, lg, tx, le, rr, sc_dn 0 d i ro, fm, fL, ee, en, ye, lv, se, pg, ou) → wY_takeOut_12 post cc rl (nI n) (d + 1) (nI i) cl dt df pb lo uf us fi ki wt ef eb di ex cf cs cm lg tx le rr ro fm fL ee en ye lv se pg ou := by
  intro d
  induction d with
  | zero => exact fun i ro hi h => br_t (nI_le (by omega) (by omega)) h
  | succ d ih => exact fun i ro hi h => br_f (nI_ge (by omega) (by omega)) ⟨pk_in (i + 1) 64 (by omega) (nI_1 i), vp_in_nI (by omega) (by decide),
      nm_r (e' := upd ro (0 + i) (ro (0 + i + 1))) (by rw [nI_1, nI_clamp (by omega), nI_clamp (by omega), Nat.zero_add]) (nm_r (nI_1 i) (ih (i + 1) _ (by omega) h))⟩
theorem y_out {post : SY → Prop} {l m : List Int32} {x : Int32} (hn : (l ++ x :: m).length ≤ 64) (hr : sc_Rp ro (l ++ x :: m)) (h : ∀ ro, sc_Rp ro (l ++ m) → post (cc, rl, nI (l ++ m).length, cl, dt, df, pb, lo, uf, us, fi, ki, wt, ef, eb, di, ex, cf, cs, cm, lg, tx, le, rr, ro, fm, fL, ee, en, ye, lv, se, pg, ou)) : wpY_takeOut post (cc, rl, nI (l ++ x :: m).length, cl, dt, df, pb, lo, uf, us, fi, ki, wt, ef, eb, di, ex, cf, cs, cm, lg, tx, le, rr, ro, fm, fL, ee, en, ye, lv, se, pg, ou) (nI l.length) := by
  have h1 := sc_len_mid l m x
  have h2 : (l ++ m).length = l.length + m.length := by simp
  have h' := h _ (sc_Rp_del hr)
  unfold wpY_takeOut
  rw [h1]
  refine nm_r (nI_pred _) ⟨m.length + 1, y_out_l (by omega) m.length l.length ro rfl ?_⟩
  rw [h2] at h'
  exact h'
theorem y_scan {post : SY → Prop} {J2 : _} {p1 x : Int32} {g : Nat → Int32} (hx : vp_in x 48) :
    ∀ (k : Nat) (f : Int32), k ≤ 64 → (f = 1 ∨ f = 0) → (∀ j, j < k → vp_in (ro j) 48 ∧ cl (ro j).toNatClampNeg = g j) →
    (∀ f', f' = 1 ∧ f = 1 ∧ sc_ol g (cl x.toNatClampNeg) k ∨ f' = 0 ∧ ¬ (f = 1 ∧ sc_ol g (cl x.toNatClampNeg) k) → wY_compose_78 post J2 p1 (sc_lz g k) x f' cc rl yn cl dt df pb lo uf us fi ki wt ef eb di ex cf cs cm lg tx le rr ro fm fL ee en ye lv se pg ou) →
    wY_compose_24 post J2 p1 x cc rl yn cl dt df pb lo uf us fi ki wt ef eb di ex cf cs cm lg tx le rr ro fm fL ee en ye lv se pg ou (k + 1) (sc_pr k) f := by
  intro k
  induction k with
  | zero =>
    intro f hk hf hg h
    refine br_t (by decide) (h f ?_)
    rcases hf with rfl | rfl
    · exact Or.inl ⟨rfl, rfl, trivial⟩
    · exact Or.inr ⟨rfl, fun z => absurd z.1 (by decide)⟩
  | succ k ih =>
    intro f hk hf hg h
    have c : (sc_pr (k + 1)).toNatClampNeg = k := nI_clamp (by omega)
    obtain ⟨g1, g2⟩ := hg k (by omega)
    have v : vp_in (sc_pr (k + 1)) 64 := vp_in_nI (by omega) (by decide)
    have g1' : vp_in (ro (sc_pr (k + 1)).toNatClampNeg) 48 := by rw [c]; exact g1
    refine br_f (nI_pos (by omega)) ⟨v, g1', ?_⟩
    rw [c, g2]
    unfold sc_lz at h
    refine br_c (fun a => ?_) (fun a => ⟨v, by rw [c] at g1'; exact g1', hx, br_c (fun b => nm_r (e' := 0) ?_ (nm_r (sc_prA k) (ih 0 (by omega) (Or.inr rfl) (fun j hj => hg j (by omega)) (fun f' hf' => ?_)))) (fun b => nm_r (e' := f) ?_ (nm_r (sc_prA k) (ih f (by omega) hf (fun j hj => hg j (by omega)) (fun f' hf' => ?_))))⟩)
    · rw [if_pos a] at h
      refine h f ?_
      rcases hf with rfl | rfl
      · exact Or.inl ⟨rfl, rfl, Or.inl a⟩
      · exact Or.inr ⟨rfl, fun z => absurd z.1 (by decide)⟩
    · rcases hf with rfl | rfl <;> decide
    · rw [if_neg a] at h
      have e0 : f' = 0 := hf'.elim (fun z => absurd z.2.1 (by decide)) (fun z => z.1)
      exact h f' (Or.inr ⟨e0, fun z => z.2.elim a (fun w => absurd w.1 (Int32.not_lt.mpr b))⟩)
    · rcases hf with rfl | rfl <;> decide
    · rw [if_neg a] at h
      refine h f' (hf'.elim (fun z => Or.inl ⟨z.1, z.2.1, Or.inr ⟨Int32.not_le.mp b, z.2.2⟩⟩) (fun z => Or.inr ⟨z.1, fun w => z.2 ⟨w.1, w.2.elim (fun q => absurd q a) (fun q => q.2)⟩⟩))
theorem y_cm_l {post : SY → Prop} {ds : Nat → Int32} (hpb : ∀ i, i < 48 → ¬ dt i = 0 → pb i = ds i) :
    ∀ (rest pre : List Int32) (ro : Nat → Int32), (pre ++ rest).length ≤ 64 → sc_All pre → sc_All rest → sc_Rp ro (pre ++ rest) →
    (∀ ro, sc_Rp ro (sc_cm cl dt df ds ex pre rest) → post (cc, rl, nI (sc_cm cl dt df ds ex pre rest).length, cl, dt, df, pb, lo, uf, us, fi, ki, wt, ef, eb, di, ex, cf, cs, cm, lg, tx, le, rr, ro, fm, fL, ee, en, ye, lv, se, pg, ou)) →
    wY_compose_2 post (rest.length + 1) (nI pre.length) cc rl (nI (pre ++ rest).length) cl dt df pb lo uf us fi ki wt ef eb di ex cf cs cm lg tx le rr ro fm fL ee en ye lv se pg ou := by
  intro rest
  induction rest with
  | nil =>
    intro pre ro hl hA hB hr h
    rw [List.append_nil] at hr hl ⊢
    exact br_t (nI_le (by omega) (by omega)) (h ro hr)
  | cons x rest ih =>
    intro pre ro hl hA hB hr h
    have hlen := sc_len_mid pre rest x
    obtain ⟨hx, hB'⟩ := sc_All_cons.mp hB
    have wx : ro (nI pre.length).toNatClampNeg = x := by rw [nI_clamp (by omega)]; exact sc_Rp_mid hr
    have hg := sc_pe (sc_Rp_pre hr) hA cl
    have keep : sc_cs cl dt df ds ex pre x = pre ++ [x] → wY_compose_2 post (rest.length + 1) (nI (pre.length + 1)) cc rl (nI (pre ++ x :: rest).length) cl dt df pb lo uf us fi ki wt ef eb di ex cf cs cm lg tx le rr ro fm fL ee en ye lv se pg ou := by
      intro e
      have g := ih (pre ++ [x]) ro (by rw [List.append_assoc]; exact hl) (sc_All_app.mpr ⟨hA, sc_All_cons.mpr ⟨hx, sc_All_nil⟩⟩) hB' (by rw [List.append_assoc]; exact hr) (by rw [← e]; exact h)
      rw [List.append_assoc, List.length_append (as := pre) (bs := [x])] at g
      exact g
    refine br_f (nI_ge (by omega) (by omega)) (nm_r (sc_prS _) ⟨vp_in_nI (by omega) (by decide), nm_r wx ⟨pre.length + 1, y_scan hx pre.length 1 (by omega) (Or.inl rfl) hg (fun f' hf' => ?_)⟩⟩)
    rcases sc_lzR (sc_g cl pre) pre.length with e | ⟨s, hs, e⟩
    · rw [e]
      refine br_t (by decide) (br_t (by decide) (nm_r (nI_1 _) (keep ?_)))
      unfold sc_cs
      rw [if_pos (Or.inl e)]
    · have cS : (nI s).toNatClampNeg = s := nI_clamp (by omega)
      rw [e]
      refine br_f (nI_pos (by omega)) ?_
      rcases hf' with ⟨rfl, -, o⟩ | ⟨rfl, o⟩
      · refine br_f (by decide) ⟨vp_in_nI (by omega) (by decide), y_co hpb ?_⟩
        have ws : ro (nI s).toNatClampNeg = sc_at pre s := by rw [cS]; exact sc_Rp_pre hr s hs
        rw [ws]
        rcases sc_coR dt df ds ex (sc_at pre s) x 48 0 with e2 | ⟨c, hc, e2⟩
        · rw [e2]
          refine br_t (by decide) (nm_r (nI_1 _) (keep ?_))
          unfold sc_cs
          rw [if_pos (Or.inr (Or.inl (by rw [e, cS]; exact e2)))]
        · rw [e2]
          refine br_f (nI_pos (by omega)) ⟨vp_in_nI (by omega) (by decide), nm_r (e' := upd ro s (nI c)) (by rw [cS]) ?_⟩
          have ecs : sc_cs cl dt df ds ex pre x = pre.set s (nI c) := by
            unfold sc_cs
            rw [e, cS, e2, if_neg]
            exact fun z => z.elim (sc_m1 s (by omega)) (fun z => z.elim (sc_m1 c (by omega)) (fun z => z o))
          have ls : (pre.set s (nI c)).length = pre.length := List.length_set ..
          have hr2 : sc_Rp (upd ro s (nI c)) (pre.set s (nI c) ++ x :: rest) := by
            have := sc_Rp_list (i := s) (c := nI c) hr
            rw [List.set_append_left _ _ hs] at this
            exact this
          have hlen2 : (pre.set s (nI c) ++ x :: rest).length = (pre ++ x :: rest).length := by rw [List.length_append, List.length_append, ls]
          rw [← hlen2, ← ls]
          refine y_out (by rw [hlen2]; exact hl) hr2 (fun ro' hr' => ?_)
          exact ih (pre.set s (nI c)) ro' (by rw [List.length_append, ls]; omega) (sc_All_set hA (vp_in_nI (by omega) (by decide)) s) hB' hr' (by rw [← ecs]; exact h)
      · refine br_t rfl (br_t (by decide) (nm_r (nI_1 _) (keep ?_)))
        unfold sc_cs
        rw [if_pos (Or.inr (Or.inr (fun z => o ⟨rfl, z⟩)))]
theorem y_compose {post : SY → Prop} {ds : Nat → Int32} {l : List Int32} (hpb : ∀ i, i < 48 → ¬ dt i = 0 → pb i = ds i) (hN : l.length ≤ 64) (hA : sc_All l) (hr : sc_Rp ro l) (h : ∀ ro, sc_Rp ro (sc_cm cl dt df ds ex [] l) → post (cc, rl, nI (sc_cm cl dt df ds ex [] l).length, cl, dt, df, pb, lo, uf, us, fi, ki, wt, ef, eb, di, ex, cf, cs, cm, lg, tx, le, rr, ro, fm, fL, ee, en, ye, lv, se, pg, ou)) : wpY_compose post (cc, rl, nI l.length, cl, dt, df, pb, lo, uf, us, fi, ki, wt, ef, eb, di, ex, cf, cs, cm, lg, tx, le, rr, ro, fm, fL, ee, en, ye, lv, se, pg, ou) := by
  cases l with
  | nil => exact ⟨1, br_t (by decide) (h ro hr)⟩
  | cons x l =>
    obtain ⟨hx, hB⟩ := sc_All_cons.mp hA
    have e : sc_cm cl dt df ds ex [] (x :: l) = sc_cm cl dt df ds ex [x] l := by
      show sc_cm cl dt df ds ex (sc_cs cl dt df ds ex [] x) l = _
      congr 1
      unfold sc_cs
      exact if_pos (Or.inl rfl)
    rw [e] at h
    exact ⟨l.length + 1, y_cm_l hpb l [x] ro hN (sc_All_cons.mpr ⟨hx, sc_All_nil⟩) hB hr h⟩
end
end
section
/-! normal forms -/
def sc_mo (f : Nat) : Int32 := if f < 2 then 1 else 2
noncomputable def sc_nf (cl dt df ds ex : Nat → Int32) (f : Nat) (l : List Int32) : List Int32 :=
  if f % 2 = 1 then sc_cm cl dt df ds ex [] (sc_od cl (sc_dc dt df ds (sc_mo f) (sc_ms l + 1) [] l)) else sc_od cl (sc_dc dt df ds (sc_mo f) (sc_ms l + 1) [] l)
theorem sc_dcG {dt df ds : Nat → Int32} (hd : sc_Dec dt df ds) (mo : Int32) {l : List Int32} (hA : sc_All l) (hL : l.length ≤ 16) : sc_All (sc_dc dt df ds mo (sc_ms l + 1) [] l) ∧ (sc_dc dt df ds mo (sc_ms l + 1) [] l).length ≤ 64 := by
  obtain ⟨L, hp⟩ := hd.2.2
  have h1 := sc_ls_le hp l
  have h2 := sc_dcP hd hp mo (sc_ms l + 1) [] l hA (by show sc_ls L l ≤ 64; omega)
  have h3 := sc_ls_len hp (sc_dc dt df ds mo (sc_ms l + 1) [] l)
  exact ⟨h2.1, by omega⟩
theorem sc_nfG {cl dt df ds : Nat → Int32} (ex : Nat → Int32) (hd : sc_Dec dt df ds) (f : Nat) {l : List Int32} (hA : sc_All l) (hL : l.length ≤ 16) : sc_All (sc_nf cl dt df ds ex f l) ∧ (sc_nf cl dt df ds ex f l).length ≤ 64 := by
  obtain ⟨h1, h2⟩ := sc_dcG hd (sc_mo f) hA hL
  have h3 := sc_odL cl (sc_dc dt df ds (sc_mo f) (sc_ms l + 1) [] l)
  unfold sc_nf
  by_cases e : f % 2 = 1
  · rw [if_pos e]
    have := sc_cmL (cl := cl) (dt := dt) (df := df) (ds := ds) (ex := ex) (sc_od cl (sc_dc dt df ds (sc_mo f) (sc_ms l + 1) [] l)) []
    exact ⟨sc_cmA _ _ sc_All_nil (sc_odA cl h1), by simp at this; omega⟩
  · rw [if_neg e]
    exact ⟨sc_odA cl h1, by omega⟩
theorem sc_atC {l : List Int32} (h : sc_All l) : sc_Chr (sc_at l) := by
  intro i
  rcases Nat.lt_or_ge i l.length with z | z
  · exact h _ (sc_at_mem l i z)
  · have e : ∀ (l : List Int32) i, l.length ≤ i → sc_at l i = 0 := by
      intro l
      induction l with
      | nil => exact fun i _ => rfl
      | cons x l ih =>
        intro i hi
        cases i with
        | zero => exact absurd hi (by simp)
        | succ i => exact ih i (Nat.le_of_succ_le_succ hi)
    rw [e l i z]; exact sc_in0 48 (by decide)
theorem sc_cpE (f f' : Nat → Int32) (o : Nat) : ∀ d i a, (∀ j, i ≤ j → j < i + d → f j = f' j) → sc_cp f o d i a = sc_cp f' o d i a := by
  intro d
  induction d with
  | zero => exact fun i a h => rfl
  | succ d ih =>
    intro i a h
    show sc_cp f o d (i + 1) (upd a (o + i) (f i)) = sc_cp f' o d (i + 1) (upd a (o + i) (f' i))
    rw [h i (by omega) (by omega)]
    exact ih (i + 1) _ (fun j a b => h j (by omega) (by omega))
section
variable {cc rl wl : Int32} {cl dt df ds ex lo uf us fi ki ef es di we cf cs cm tx le rr wk sh fo fl el ec ke kl em oe be pl po : Nat → Int32}
theorem x_form52 {post : SX → Prop} {f : Nat} {l : List Int32} (hf : f < 4) (hd : sc_Dec dt df ds) (hA : sc_All l) (hL : l.length ≤ 16) (hr : sc_Rp wk l)
    (h : ∀ wk, sc_Rp wk (sc_nf cl dt df ds ex f l) → post (cc, rl, nI (sc_nf cl dt df ds ex f l).length, cl, dt, df, ds, ex, lo, uf, us, fi, ki, ef, es, di, we, cf, cs, cm, tx, le, rr, wk, sh, fo, fl, el, ec, ke, kl, em, oe, be, pl, po)) : wX_makeForm_52 post (nI f) (sc_mo f) cc rl (nI l.length) cl dt df ds ex lo uf us fi ki ef es di we cf cs cm tx le rr wk sh fo fl el ec ke kl em oe be pl po := by
  obtain ⟨L, hp⟩ := hd.2.2
  obtain ⟨h1, h2⟩ := sc_dcG hd (sc_mo f) hA hL
  have h3 := sc_odL cl (sc_dc dt df ds (sc_mo f) (sc_ms l + 1) [] l)
  unfold wX_makeForm_52
  refine x_decomp hd hp hA hL hr (fun wk1 hr1 => x_order h2 h1 hr1 (fun wk2 hr2 => ?_))
  unfold sc_nf at h
  refine pk_eq f 1 (fun e => ?_) (fun e => pk_eq f 3 (fun e' => ?_) (fun e' => ?_))
  · rw [if_pos (by omega)] at h
    unfold wX_makeForm_71
    exact x_compose (by omega) (sc_odA cl h1) hr2 h
  · rw [if_pos (by omega)] at h
    unfold wX_makeForm_71
    exact x_compose (by omega) (sc_odA cl h1) hr2 h
  · rw [if_neg (by omega)] at h
    exact h wk2 hr2
theorem x_form {post : SX → Prop} {t b e f : Nat} (ht : t < 2) (he : e ≤ 16) (hb : b ≤ e) (hf : f < 4) (htx : sc_Chr tx) (hd : sc_Dec dt df ds)
    (h : ∀ wk, sc_Rp wk (sc_nf cl dt df ds ex f (sc_ld tx t (e - b) b)) → post (cc, rl, nI (sc_nf cl dt df ds ex f (sc_ld tx t (e - b) b)).length, cl, dt, df, ds, ex, lo, uf, us, fi, ki, ef, es, di, we, cf, cs, cm, tx, le, rr, wk, sh, fo, fl, el, ec, ke, kl, em, oe, be, pl, po)) : wpX_makeForm post (cc, rl, wl, cl, dt, df, ds, ex, lo, uf, us, fi, ki, ef, es, di, we, cf, cs, cm, tx, le, rr, wk, sh, fo, fl, el, ec, ke, kl, em, oe, be, pl, po) (nI t) (nI b) (nI e) (nI f) := by
  refine x_load ht he hb (fun wk1 hr1 => ?_)
  have g := x_form52 (post := post) hf hd (sc_ldA htx t _ _) (by rw [sc_ldL]; omega) hr1 h
  have em : (if nI f < 2 then (1 : Int32) else 2) = sc_mo f := by
    unfold sc_mo
    by_cases z : f < 2
    · rw [if_pos z]; exact if_pos (nI_lt (b := 2) z (by decide))
    · rw [if_neg z]; exact if_neg (nI_nlt (a := f) (b := 2) (by omega) (by omega))
  rw [em]
  exact g
theorem x_wbr_l {post : Int32 → SX → Prop} {n : Nat} (hn : n ≤ 64) : ∀ (d i : Nat) (rr : Nat → Int32), i + d = n →
    post (nI n) (cc, nI n, nI n, cl, dt, df, ds, ex, lo, uf, us, fi, ki, ef, es, di, we, cf, cs, cm, tx, le, sc_cp wk 0 d i rr, wk, sh, fo, fl, el, ec, ke, kl, em, oe, be, pl, po) → wX_workBecomesResult_2 post cc rl (nI n) (d + 1) (nI i) cl dt df ds ex lo uf us fi ki ef es di we cf cs cm tx le rr wk sh fo fl el ec ke kl em oe be pl po := by
  intro d
  induction d with
  | zero => exact fun i rr hi h => br_t (nI_le (by omega) (by omega)) h
  | succ d ih => exact fun i rr hi h => br_f (nI_ge (by omega) (by omega)) ⟨vp_in_nI (by omega) (by decide), vp_in_nI (by omega) (by decide),
      nm_r (e' := upd rr (0 + i) (wk i)) (by rw [nI_clamp (by omega), Nat.zero_add]) (nm_r (nI_1 i) (ih (i + 1) _ (by omega) h))⟩
theorem x_wbr {post : Int32 → SX → Prop} {l : List Int32} (hn : l.length ≤ 64) (hr : sc_Rp wk l) (h : post (nI l.length) (cc, nI l.length, nI l.length, cl, dt, df, ds, ex, lo, uf, us, fi, ki, ef, es, di, we, cf, cs, cm, tx, le, sc_cp (sc_at l) 0 l.length 0 rr, wk, sh, fo, fl, el, ec, ke, kl, em, oe, be, pl, po)) : wpX_workBecomesResult post (cc, rl, nI l.length, cl, dt, df, ds, ex, lo, uf, us, fi, ki, ef, es, di, we, cf, cs, cm, tx, le, rr, wk, sh, fo, fl, el, ec, ke, kl, em, oe, be, pl, po) := by
  refine ⟨l.length + 1, x_wbr_l hn l.length 0 rr (by omega) ?_⟩
  rw [sc_cpE wk (sc_at l) 0 l.length 0 rr (fun j _ hj => hr j (by omega))]
  exact h
theorem xs_form {post : Int32 → Prop} {a : Int32} (h1 : sc_W a 0 3 → post 1) (h0 : ¬ sc_W a 0 3 → post 0) : wpX_isForm post (cc, rl, wl, cl, dt, df, ds, ex, lo, uf, us, fi, ki, ef, es, di, we, cf, cs, cm, tx, le, rr, wk, sh, fo, fl, el, ec, ke, kl, em, oe, be, pl, po) a :=
  br_c (fun z => h0 (fun w => w.1 z)) (fun z => br_c (fun y => h0 (fun w => w.2 y)) (fun y => h1 ⟨z, y⟩))
theorem x_isn_l {post : Int32 → SX → Prop} {t n : Nat} {l : List Int32} (ht : t < 2) (hl : le t = nI n) (hn : n ≤ 16) (hr : sc_Rp wk l) (hln : l.length = n)
    (h1 : (∀ i, i < n → sc_at l i = tx (16 * t + i)) → post 1 (cc, rl, wl, cl, dt, df, ds, ex, lo, uf, us, fi, ki, ef, es, di, we, cf, cs, cm, tx, le, rr, wk, sh, fo, fl, el, ec, ke, kl, em, oe, be, pl, po)) (h0 : ¬ (∀ i, i < n → sc_at l i = tx (16 * t + i)) → post 0 (cc, rl, wl, cl, dt, df, ds, ex, lo, uf, us, fi, ki, ef, es, di, we, cf, cs, cm, tx, le, rr, wk, sh, fo, fl, el, ec, ke, kl, em, oe, be, pl, po)) :
    ∀ d i, i + d = n → (∀ j, j < i → sc_at l j = tx (16 * t + j)) → wX_isNormal_54 post (nI t) (nI (16 * t)) cc rl wl cl dt df ds ex lo uf us fi ki ef es di we cf cs cm tx le rr wk sh fo fl el ec ke kl em oe be pl po (d + 1) (nI i) := by
  have hL : le (nI t).toNatClampNeg = nI n := by rw [nI_clamp (by omega), hl]
  intro d
  induction d with
  | zero => exact fun i hi hj => ⟨vp_in_nI ht (by decide), br_t (by rw [hL]; exact nI_le (by omega) (by omega)) (h1 (fun j a => hj j (by omega)))⟩
  | succ d ih =>
    intro i hi hj
    have e1 : nI (16 * t) + nI i = nI (16 * t + i) := nI_add _ _
    have e2 : (nI (16 * t) + nI i).toNatClampNeg = 16 * t + i := by rw [e1, nI_clamp (by omega)]
    have e3 : wk (nI i).toNatClampNeg = sc_at l i := by rw [nI_clamp (by omega)]; exact hr i (by omega)
    refine ⟨vp_in_nI ht (by decide), br_f (by rw [hL]; exact nI_ge (by omega) (by omega)) ⟨vp_in_nI (by omega) (by decide), pk_in (16 * t + i) 32 (by omega) e1, ?_⟩⟩
    rw [e2, e3]
    refine br_c (fun a => nm_r (nI_1 i) (ih (i + 1) (by omega) (fun j b => ?_))) (fun a => h0 (fun z => a (z i (by omega))))
    by_cases e : j = i
    · rw [e]; exact a
    · exact hj j (by omega)
end
section
variable {cc rl yn : Int32} {cl dt df pb lo uf us fi ki wt ef eb di ex cf cs cm lg tx le rr ro fm fL ee en ye lv se pg ou : Nat → Int32}
theorem y_norm {post : SY → Prop} {ds : Nat → Int32} {f : Nat} {l : List Int32} (hf : f < 4) (hc : ∀ i, vp_in (cl i) 10) (hd : sc_Dec dt df ds) (hpb : ∀ i, i < 48 → ¬ dt i = 0 → pb i = ds i) (hA : sc_All l) (hL : l.length ≤ 16) (hr : sc_Rp ro l)
    (h : ∀ ro, sc_Rp ro (sc_nf cl dt df ds ex f l) → post (cc, rl, nI (sc_nf cl dt df ds ex f l).length, cl, dt, df, pb, lo, uf, us, fi, ki, wt, ef, eb, di, ex, cf, cs, cm, lg, tx, le, rr, ro, fm, fL, ee, en, ye, lv, se, pg, ou)) : wpY_normalize post (cc, rl, nI l.length, cl, dt, df, pb, lo, uf, us, fi, ki, wt, ef, eb, di, ex, cf, cs, cm, lg, tx, le, rr, ro, fm, fL, ee, en, ye, lv, se, pg, ou) (nI f) := by
  obtain ⟨L, hp⟩ := hd.2.2
  obtain ⟨h1, h2⟩ := sc_dcG hd (sc_mo f) hA hL
  have h3 := sc_odL cl (sc_dc dt df ds (sc_mo f) (sc_ms l + 1) [] l)
  have key : wY_normalize_11 post (nI f) (sc_mo f) cc rl (nI l.length) cl dt df pb lo uf us fi ki wt ef eb di ex cf cs cm lg tx le rr ro fm fL ee en ye lv se pg ou := by
    unfold wY_normalize_11
    refine y_decomp hd hp hpb hA hL hr (fun ro1 hr1 => y_order hc h2 h1 hr1 (fun ro2 hr2 => ⟨by decide, ?_⟩))
    unfold sc_nf at h
    refine pk_eq (f % 2) 1 (fun e => ?_) (fun e => ?_) (pk_rem (by omega) (by decide) (by decide)) rfl
    · rw [if_pos e] at h
      exact y_compose hpb (by omega) (sc_odA cl h1) hr2 h
    · rw [if_neg e] at h
      exact h ro2 hr2
  unfold sc_mo at key
  unfold wpY_normalize
  refine pk_le 2 f (fun e => ?_) (fun e => ?_)
  · rw [if_neg (by omega)] at key; exact key
  · rw [if_pos e] at key; exact key
theorem y_give_l {post : Int32 → SY → Prop} {n : Nat} (hn : n ≤ 64) : ∀ (d i : Nat) (rr : Nat → Int32), i + d = n →
    post (nI n) (cc, nI n, nI n, cl, dt, df, pb, lo, uf, us, fi, ki, wt, ef, eb, di, ex, cf, cs, cm, lg, tx, le, sc_cp ro 0 d i rr, ro, fm, fL, ee, en, ye, lv, se, pg, ou) → wY_give_10 post cc (nI n) (nI n) (d + 1) (nI i) cl dt df pb lo uf us fi ki wt ef eb di ex cf cs cm lg tx le rr ro fm fL ee en ye lv se pg ou := by
  intro d
  induction d with
  | zero => exact fun i rr hi h => br_t (nI_le (by omega) (by omega)) h
  | succ d ih => exact fun i rr hi h => br_f (nI_ge (by omega) (by omega)) ⟨vp_in_nI (by omega) (by decide), vp_in_nI (by omega) (by decide),
      nm_r (e' := upd rr (0 + i) (ro i)) (by rw [nI_clamp (by omega), Nat.zero_add]) (nm_r (nI_1 i) (ih (i + 1) _ (by omega) h))⟩
theorem y_give {post : Int32 → SY → Prop} {l : List Int32} (hn : l.length ≤ 64) (hr : sc_Rp ro l) (h : post (nI l.length) (cc, nI l.length, nI l.length, cl, dt, df, pb, lo, uf, us, fi, ki, wt, ef, eb, di, ex, cf, cs, cm, lg, tx, le, sc_cp (sc_at l) 0 l.length 0 rr, ro, fm, fL, ee, en, ye, lv, se, pg, ou)) : wpY_give post (cc, rl, nI l.length, cl, dt, df, pb, lo, uf, us, fi, ki, wt, ef, eb, di, ex, cf, cs, cm, lg, tx, le, rr, ro, fm, fL, ee, en, ye, lv, se, pg, ou) := by
  refine ⟨l.length + 1, y_give_l hn l.length 0 rr (by omega) ?_⟩
  rw [sc_cpE ro (sc_at l) 0 l.length 0 rr (fun j _ hj => hr j (by omega))]
  exact h
theorem y_isn_l {post : Int32 → SY → Prop} {t n : Nat} {l : List Int32} (ht : t < 2) (hn : n ≤ 16) (hr : sc_Rp ro l) (hln : l.length = n)
    (h1 : (∀ i, i < n → sc_at l i = tx (16 * t + i)) → post 1 (cc, rl, nI n, cl, dt, df, pb, lo, uf, us, fi, ki, wt, ef, eb, di, ex, cf, cs, cm, lg, tx, le, rr, ro, fm, fL, ee, en, ye, lv, se, pg, ou)) (h0 : ¬ (∀ i, i < n → sc_at l i = tx (16 * t + i)) → post 0 (cc, rl, nI n, cl, dt, df, pb, lo, uf, us, fi, ki, wt, ef, eb, di, ex, cf, cs, cm, lg, tx, le, rr, ro, fm, fL, ee, en, ye, lv, se, pg, ou)) :
    ∀ d i, i + d = n → (∀ j, j < i → sc_at l j = tx (16 * t + j)) → wY_isNormal_57 post (nI t) cc rl (nI n) cl dt df pb lo uf us fi ki wt ef eb di ex cf cs cm lg tx le rr ro fm fL ee en ye lv se pg ou (d + 1) 1 (nI i) := by
  intro d
  induction d with
  | zero => exact fun i hi hj => br_t (nI_le (by omega) (by omega)) ⟨rfl, h1 (fun j a => hj j (by omega))⟩
  | succ d ih =>
    intro i hi hj
    have e1 : 16 * nI t + nI i = nI (16 * t + i) := sn_16 _ _
    have e2 : (16 * nI t + nI i).toNatClampNeg = 16 * t + i := by rw [e1, nI_clamp (by omega)]
    have e3 : ro (nI i).toNatClampNeg = sc_at l i := by rw [nI_clamp (by omega)]; exact hr i (by omega)
    refine br_f (nI_ge (by omega) (by omega)) (br_f (by decide) ⟨vp_in_nI (by omega) (by decide), pk_in (16 * t + i) 32 (by omega) e1, ?_⟩)
    rw [e2, e3]
    refine br_c (fun a => nm_r (nI_1 i) (ih (i + 1) (by omega) (fun j b => ?_))) (fun a => nm_r (nI_1 i) (br_c (fun _ => ⟨rfl, h0 (fun z => a (z i (by omega)))⟩) (fun _ => br_t rfl ⟨rfl, h0 (fun z => a (z i (by omega)))⟩)))
    by_cases e : j = i
    · rw [e]; exact a
    · exact hj j (by omega)
end
theorem i_vc_normal {k : Nat} {u : SX} {v : SY} (I : i_Rel k u v) (hk : k + 5 ≤ 2560) (v1 : Int32) (v2 : Int32) : wpX_normal (fun r u' => wpY_normal (fun r' v' => r' = r ∧ i_Rel (k + 5) u' v') v v1 v2) u v1 v2 := by
  obtain ⟨cc, rl, wl, yn, cl, dt, df, ds, ex, lo, uf, us, fi, ki, ef, es, di, we, cf, cs, cm, tx, le, rr, wk, sh, fo, fl, el, ec, ke, kl, em, oe, be, pl, po, pb, wt, eb, lg, ro, fm, fL, ee, en, rfl, rfl, I⟩ := I
  have I0 := I
  obtain ⟨i1, i2, i3, i4, i5, i6, i7, i8, i9, i10, i11, i12, i13, i14, i15, i16, i17⟩ := I
  unfold wpX_normal
  rcases sn_text v1 with ⟨t, ht, rfl⟩ | ⟨h0, h1, h2⟩
  · obtain ⟨n, hn, hl⟩ := i3 t ht
    have hL : le (nI t).toNatClampNeg = nI n := by rw [nI_clamp (by omega), hl]
    refine xs_text1 ht (br_f (by decide) (xs_form (fun z => br_f (by decide) ⟨vp_in_nI ht (by decide), ?_⟩) (fun z => br_t rfl ?_)))
    · obtain ⟨f, hf, rfl⟩ := sc_Wn (n := 3) (by omega) (by decide) z
      obtain ⟨n1, n2⟩ := sc_nfG (cl := cl) ex i16 f (sc_ldA i4 t (n - 0) 0) (by rw [sc_ldL]; omega)
      rw [hL]
      refine x_form (b := 0) ht hn (by omega) (by omega) i4 i16 (fun wk1 hr1 => x_wbr n2 hr1 ?_)
      unfold wpY_normal
      refine ys_text1 ht (br_f (by decide) (ys_in (fun z' => br_f (by decide) ⟨vp_in_nI ht (by decide), ?_⟩) (fun z' => absurd z z')))
      rw [hL]
      refine y_load (b := 0) ht hn (by omega) (fun ro1 hq1 => y_norm (by omega) i10 i16 i15 (sc_ldA i4 t _ _) (by rw [sc_ldL]; omega) hq1 (fun ro2 hq2 => y_give n2 hq2 ⟨rfl, ?_⟩))
      exact sc_mk ⟨i1, ⟨_, n2, rfl⟩, i3, i4, sc_cpC (sc_atC n1) _ _ _ _ i5, i6, i7, i8, i9, i10, i11, i12, i13, i14, i15, i16, i17⟩
    · unfold wpY_normal
      exact ys_text1 ht (br_f (by decide) (ys_in (fun z' => absurd z' z) (fun z' => br_t rfl ⟨rfl, sc_mk I0⟩)))
  · refine xs_text0 h2 (br_t rfl ?_)
    unfold wpY_normal
    exact ys_text0 h0 h1 (br_t rfl ⟨rfl, sc_mk I0⟩)
theorem i_vc_isNormal {k : Nat} {u : SX} {v : SY} (I : i_Rel k u v) (hk : k + 5 ≤ 2560) (v1 : Int32) (v2 : Int32) : wpX_isNormal (fun r u' => wpY_isNormal (fun r' v' => r' = r ∧ i_Rel (k + 5) u' v') v v1 v2) u v1 v2 := by
  obtain ⟨cc, rl, wl, yn, cl, dt, df, ds, ex, lo, uf, us, fi, ki, ef, es, di, we, cf, cs, cm, tx, le, rr, wk, sh, fo, fl, el, ec, ke, kl, em, oe, be, pl, po, pb, wt, eb, lg, ro, fm, fL, ee, en, rfl, rfl, I⟩ := I
  have I0 := I
  obtain ⟨i1, i2, i3, i4, i5, i6, i7, i8, i9, i10, i11, i12, i13, i14, i15, i16, i17⟩ := I
  unfold wpX_isNormal
  rcases sn_text v1 with ⟨t, ht, rfl⟩ | ⟨h0, h1, h2⟩
  · obtain ⟨n, hn, hl⟩ := i3 t ht
    have hL : le (nI t).toNatClampNeg = nI n := by rw [nI_clamp (by omega), hl]
    refine xs_text1 ht (br_f (by decide) (xs_form (fun z => br_f (by decide) ⟨vp_in_nI ht (by decide), ?_⟩) (fun z => br_t rfl ?_)))
    · obtain ⟨f, hf, rfl⟩ := sc_Wn (n := 3) (by omega) (by decide) z
      obtain ⟨n1, n2⟩ := sc_nfG (cl := cl) ex i16 f (sc_ldA i4 t (n - 0) 0) (by rw [sc_ldL]; omega)
      rw [hL]
      refine x_form (b := 0) ht hn (by omega) (by omega) i4 i16 (fun wk1 hr1 => ⟨vp_in_nI ht (by decide), ?_⟩)
      rw [hL]
      by_cases e : (sc_nf cl dt df ds ex f (sc_ld tx t (n - 0) 0)).length = n
      · refine br_t (by rw [e]) (nm_r (sn_t16 t) ⟨n + 1, x_isn_l ht hl hn hr1 e (fun g => ?_) (fun g => ?_) n 0 (by omega) (fun j hj => absurd hj (by omega))⟩)
        · unfold wpY_isNormal
          refine ys_text1 ht (br_f (by decide) (ys_in (fun z' => br_f (by decide) ⟨vp_in_nI ht (by decide), ?_⟩) (fun z' => absurd z z')))
          rw [hL]
          refine y_load (b := 0) ht hn (by omega) (fun ro1 hq1 => y_norm (by omega) i10 i16 i15 (sc_ldA i4 t _ _) (by rw [sc_ldL]; omega) hq1 (fun ro2 hq2 => ⟨vp_in_nI ht (by decide), ?_⟩))
          rw [hL, e]
          exact br_t rfl ⟨n + 1, y_isn_l ht hn hq2 e (fun _ => ⟨rfl, sc_mk I0⟩) (fun y => absurd g y) n 0 (by omega) (fun j hj => absurd hj (by omega))⟩
        · unfold wpY_isNormal
          refine ys_text1 ht (br_f (by decide) (ys_in (fun z' => br_f (by decide) ⟨vp_in_nI ht (by decide), ?_⟩) (fun z' => absurd z z')))
          rw [hL]
          refine y_load (b := 0) ht hn (by omega) (fun ro1 hq1 => y_norm (by omega) i10 i16 i15 (sc_ldA i4 t _ _) (by rw [sc_ldL]; omega) hq1 (fun ro2 hq2 => ⟨vp_in_nI ht (by decide), ?_⟩))
          rw [hL, e]
          exact br_t rfl ⟨n + 1, y_isn_l ht hn hq2 e (fun y => absurd y g) (fun _ => ⟨rfl, sc_mk I0⟩) n 0 (by omega) (fun j hj => absurd hj (by omega))⟩
      · have ne : ¬ nI (sc_nf cl dt df ds ex f (sc_ld tx t (n - 0) 0)).length = nI n := fun y => e ((nI_eq (by omega) (by omega)).mp y)
        refine br_f ne ?_
        unfold wpY_isNormal
        refine ys_text1 ht (br_f (by decide) (ys_in (fun z' => br_f (by decide) ⟨vp_in_nI ht (by decide), ?_⟩) (fun z' => absurd z z')))
        rw [hL]
        refine y_load (b := 0) ht hn (by omega) (fun ro1 hq1 => y_norm (by omega) i10 i16 i15 (sc_ldA i4 t _ _) (by rw [sc_ldL]; omega) hq1 (fun ro2 hq2 => ⟨vp_in_nI ht (by decide), ?_⟩))
        rw [hL]
        exact br_f ne ⟨1, br_c (fun _ => ⟨rfl, rfl, sc_mk I0⟩) (fun _ => br_t rfl ⟨rfl, rfl, sc_mk I0⟩)⟩
    · unfold wpY_isNormal
      exact ys_text1 ht (br_f (by decide) (ys_in (fun z' => absurd z' z) (fun z' => br_t rfl ⟨rfl, sc_mk I0⟩)))
  · refine xs_text0 h2 (br_t rfl ?_)
    unfold wpY_isNormal
    exact ys_text0 h0 h1 (br_t rfl ⟨rfl, sc_mk I0⟩)
end
section
/-! case: pure pictures, and the single appends -/
def sc_lb (g : Nat → Int32) : Nat → Prop
  | 0 => False
  | k + 1 => if g k = 6 ∨ g k = 2 then sc_lb g k else g k = 4
def sc_lh (g : Nat → Int32) : Nat → Nat → Prop
  | 0, _ => False
  | d + 1, i => if g i = 6 ∨ g i = 2 then sc_lh g d (i + 1) else g i = 4
def sc_Fi (g : Nat → Int32) (n k : Nat) : Prop := sc_lb g k ∧ ¬ sc_lh g (n - (k + 1)) (k + 1)
noncomputable def sc_lw (ki lo fi tx : Nat → Int32) (t n k : Nat) : Int32 :=
  @ite _ (¬ fi (tx (16 * t + k)).toNatClampNeg = -1 ∧ sc_Fi (sc_kd ki tx t) n k) (Classical.propDecidable _) (fi (tx (16 * t + k)).toNatClampNeg) (lo (tx (16 * t + k)).toNatClampNeg)
def sc_uL (uf us : Nat → Int32) (c : Int32) : List Int32 := uf c.toNatClampNeg :: (if us c.toNatClampNeg = -1 then [] else [us c.toNatClampNeg])
theorem sc_uLl (uf us : Nat → Int32) (c : Int32) : (sc_uL uf us c).length ≤ 2 := by
  unfold sc_uL
  split <;> simp
theorem sc_uLA {uf us : Nat → Int32} (h1 : sc_Chr uf) (h2 : sc_Opt us) (c : Int32) : sc_All (sc_uL uf us c) := by
  unfold sc_uL
  refine sc_All_cons.mpr ⟨h1 _, ?_⟩
  split
  · exact sc_All_nil
  · rename_i z
    exact sc_All_cons.mpr ⟨(h2 _).elim (fun e => absurd e z) id, sc_All_nil⟩
theorem sc_lwC {ki lo fi tx : Nat → Int32} (h1 : sc_Chr lo) (h2 : sc_Opt fi) (t n k : Nat) : vp_in (sc_lw ki lo fi tx t n k) 48 := by
  unfold sc_lw
  split
  · rename_i z
    exact (h2 _).elim (fun e => absurd e z.1) id
  · exact h1 _
section
variable {cc rl wl : Int32} {cl dt df ds ex lo uf us fi ki ef es di we cf cs cm tx le rr wk sh fo fl el ec ke kl em oe be pl po : Nat → Int32}
theorem x_lb_l {post : Int32 → Prop} {t : Nat} (ht : t < 2) (htx : sc_Chr tx) : ∀ k, k ≤ 16 → (sc_lb (sc_kd ki tx t) k → post 1) → (¬ sc_lb (sc_kd ki tx t) k → post 0) → wX_isLetterBefore_4 post (nI t) cc rl wl cl dt df ds ex lo uf us fi ki ef es di we cf cs cm tx le rr wk sh fo fl el ec ke kl em oe be pl po (k + 1) (sc_pr k) := by
  intro k
  induction k with
  | zero => exact fun hk h1 h0 => br_t (by decide) (h0 id)
  | succ k ih =>
    intro hk h1 h0
    unfold sc_lb at h1 h0
    refine br_f (nI_pos (by omega)) (x_kindAt ht (by omega) htx (br_c (fun a => ?_) (fun a => br_c (fun b => ?_) (fun b => br_c (fun c => ?_) (fun c => ?_)))))
    · rw [if_pos (Or.inl a)] at h1 h0
      exact nm_r (sc_prA k) (ih (by omega) h1 h0)
    · rw [if_pos (Or.inr b)] at h1 h0
      exact nm_r (sc_prA k) (ih (by omega) h1 h0)
    · rw [if_neg (fun z => z.elim a b)] at h1; exact h1 c
    · rw [if_neg (fun z => z.elim a b)] at h0; exact h0 c
theorem x_lb {post : Int32 → Prop} {t k : Nat} (ht : t < 2) (htx : sc_Chr tx) (hk : k ≤ 16) (h1 : sc_lb (sc_kd ki tx t) k → post 1) (h0 : ¬ sc_lb (sc_kd ki tx t) k → post 0) : wpX_isLetterBefore post (cc, rl, wl, cl, dt, df, ds, ex, lo, uf, us, fi, ki, ef, es, di, we, cf, cs, cm, tx, le, rr, wk, sh, fo, fl, el, ec, ke, kl, em, oe, be, pl, po) (nI t) (nI k) := by
  unfold wpX_isLetterBefore
  exact nm_r (sc_prS k) ⟨k + 1, x_lb_l ht htx k hk h1 h0⟩
theorem x_lh_l {post : Int32 → Prop} {t n : Nat} (ht : t < 2) (htx : sc_Chr tx) (hn : n ≤ 16) (hl : le t = nI n) : ∀ d i, i + d = n → (sc_lh (sc_kd ki tx t) d i → post 1) → (¬ sc_lh (sc_kd ki tx t) d i → post 0) → wX_isLetterBehind_4 post (nI t) cc rl wl cl dt df ds ex lo uf us fi ki ef es di we cf cs cm tx le rr wk sh fo fl el ec ke kl em oe be pl po (d + 1) (nI i) := by
  have hL : le (nI t).toNatClampNeg = nI n := by rw [nI_clamp (by omega), hl]
  intro d
  induction d with
  | zero => exact fun i hi h1 h0 => ⟨vp_in_nI ht (by decide), br_t (by rw [hL]; exact nI_le (by omega) (by omega)) (h0 id)⟩
  | succ d ih =>
    intro i hi h1 h0
    unfold sc_lh at h1 h0
    refine ⟨vp_in_nI ht (by decide), br_f (by rw [hL]; exact nI_ge (by omega) (by omega)) (x_kindAt ht (by omega) htx (br_c (fun a => ?_) (fun a => br_c (fun b => ?_) (fun b => br_c (fun c => ?_) (fun c => ?_)))))⟩
    · rw [if_pos (Or.inl a)] at h1 h0
      exact nm_r (nI_1 i) (ih (i + 1) (by omega) h1 h0)
    · rw [if_pos (Or.inr b)] at h1 h0
      exact nm_r (nI_1 i) (ih (i + 1) (by omega) h1 h0)
    · rw [if_neg (fun z => z.elim a b)] at h1; exact h1 c
    · rw [if_neg (fun z => z.elim a b)] at h0; exact h0 c
theorem x_fin {post : Int32 → Prop} {t n k : Nat} (ht : t < 2) (htx : sc_Chr tx) (hn : n ≤ 16) (hl : le t = nI n) (hk : k < n) (h1 : sc_Fi (sc_kd ki tx t) n k → post 1) (h0 : ¬ sc_Fi (sc_kd ki tx t) n k → post 0) : wpX_standsFinally post (cc, rl, wl, cl, dt, df, ds, ex, lo, uf, us, fi, ki, ef, es, di, we, cf, cs, cm, tx, le, rr, wk, sh, fo, fl, el, ec, ke, kl, em, oe, be, pl, po) (nI t) (nI k) := by
  unfold wpX_standsFinally
  refine x_lb ht htx (by omega) (fun a => br_f (by decide) ?_) (fun a => br_t rfl (h0 (fun z => a z.1)))
  unfold wpX_isLetterBehind
  exact nm_r (nI_1 k) ⟨n - (k + 1) + 1, x_lh_l ht htx hn hl _ (k + 1) (by omega) (fun b => br_f (by decide) (h0 (fun z => z.2 b))) (fun b => br_t rfl (h1 ⟨a, b⟩))⟩
theorem x_appLower {post : SX → Prop} {t n k : Nat} {acc : List Int32} (ht : t < 2) (htx : sc_Chr tx) (hn : n ≤ 16) (hl : le t = nI n) (hk : k < n) (ha : acc.length < 64) (hr : sc_Rp wk acc)
    (h : ∀ wk, sc_Rp wk (acc ++ [sc_lw ki lo fi tx t n k]) → post (cc, rl, nI (acc.length + 1), cl, dt, df, ds, ex, lo, uf, us, fi, ki, ef, es, di, we, cf, cs, cm, tx, le, rr, wk, sh, fo, fl, el, ec, ke, kl, em, oe, be, pl, po)) : wpX_appendLower post (cc, rl, nI acc.length, cl, dt, df, ds, ex, lo, uf, us, fi, ki, ef, es, di, we, cf, cs, cm, tx, le, rr, wk, sh, fo, fl, el, ec, ke, kl, em, oe, be, pl, po) (nI t) (nI k) := by
  have e : nI t * 16 + nI k = nI (16 * t + k) := by rw [sn_t16, nI_add]
  have c : (nI t * 16 + nI k).toNatClampNeg = 16 * t + k := by rw [e, nI_clamp (by omega)]
  unfold wpX_appendLower
  refine ⟨pk_in (16 * t + k) 32 (by omega) e, nm_r (e' := tx (16 * t + k)) (by rw [c]) ⟨htx _, ?_⟩⟩
  unfold sc_lw at h
  refine br_c (fun a => ?_) (fun a => x_fin ht htx hn hl hk (fun b => br_f (by decide) ⟨htx _, ?_⟩) (fun b => br_t rfl ?_))
  · rw [if_neg (fun z => z.1 a)] at h
    exact ⟨htx _, x_append ha (h _ (sc_Rp_snoc _ hr))⟩
  · rw [if_pos ⟨a, b⟩] at h
    exact x_append ha (h _ (sc_Rp_snoc _ hr))
  · rw [if_neg (fun z => b z.2)] at h
    exact ⟨htx _, x_append ha (h _ (sc_Rp_snoc _ hr))⟩
theorem x_appUpper {post : SX → Prop} {t k : Nat} {acc : List Int32} (ht : t < 2) (htx : sc_Chr tx) (hk : k < 16) (ha : acc.length + 2 ≤ 64) (hr : sc_Rp wk acc)
    (h : ∀ wk, sc_Rp wk (acc ++ sc_uL uf us (tx (16 * t + k))) → post (cc, rl, nI (acc ++ sc_uL uf us (tx (16 * t + k))).length, cl, dt, df, ds, ex, lo, uf, us, fi, ki, ef, es, di, we, cf, cs, cm, tx, le, rr, wk, sh, fo, fl, el, ec, ke, kl, em, oe, be, pl, po)) : wpX_appendUpper post (cc, rl, nI acc.length, cl, dt, df, ds, ex, lo, uf, us, fi, ki, ef, es, di, we, cf, cs, cm, tx, le, rr, wk, sh, fo, fl, el, ec, ke, kl, em, oe, be, pl, po) (nI t) (nI k) := by
  have e : nI t * 16 + nI k = nI (16 * t + k) := by rw [sn_t16, nI_add]
  have c : (nI t * 16 + nI k).toNatClampNeg = 16 * t + k := by rw [e, nI_clamp (by omega)]
  unfold wpX_appendUpper
  refine ⟨pk_in (16 * t + k) 32 (by omega) e, nm_r (e' := tx (16 * t + k)) (by rw [c]) ⟨htx _, x_append (by omega) ⟨htx _, ?_⟩⟩⟩
  unfold sc_uL at h
  have hr1 := sc_Rp_snoc (uf (tx (16 * t + k)).toNatClampNeg) hr
  refine br_c (fun a => ?_) (fun a => ⟨htx _, x_append (by omega) ?_⟩)
  · rw [if_pos a] at h
    have h' := h _ hr1
    rw [List.length_append] at h'
    exact h'
  · rw [if_neg a] at h
    have hr2 := sc_Rp_snoc (us (tx (16 * t + k)).toNatClampNeg) hr1
    rw [List.length_append (as := acc), List.append_assoc] at hr2
    have h' := h _ hr2
    rw [List.length_append] at h'
    exact h'
end
section
variable {cc rl yn : Int32} {cl dt df pb lo uf us fi ki wt ef eb di ex cf cs cm lg tx le rr ro fm fL ee en ye lv se pg ou : Nat → Int32}
theorem y_b53 {post : Int32 → Prop} {t n : Nat} {x : Int32} (ht : t < 2) (hl : le t = nI n) (h1 : nI n ≤ x → post (-1)) (h0 : ¬ nI n ≤ x → post x) : wY_beside_53 post (nI t) x cc rl yn cl dt df pb lo uf us fi ki wt ef eb di ex cf cs cm lg tx le rr ro fm fL ee en ye lv se pg ou := by
  have hL : le (nI t).toNatClampNeg = nI n := by rw [nI_clamp (by omega), hl]
  refine ⟨vp_in_nI ht (by decide), ?_⟩
  rw [hL]
  exact br_c h1 h0
theorem y_bb_l {post : Int32 → Prop} {t n : Nat} (ht : t < 2) (htx : sc_Chr tx) (hn : n ≤ 16) (hl : le t = nI n) :
    ∀ k, k ≤ n → (∀ r, r = -1 ∧ ¬ sc_lb (sc_kd ki tx t) k ∨ (∃ s, s < k ∧ r = nI s ∧ (sc_kd ki tx t s = 4 ↔ sc_lb (sc_kd ki tx t) k)) → post r) → wY_beside_5 post (nI t) (-1) cc rl yn cl dt df pb lo uf us fi ki wt ef eb di ex cf cs cm lg tx le rr ro fm fL ee en ye lv se pg ou (k + 1) (sc_pr k) := by
  have hL : le (nI t).toNatClampNeg = nI n := by rw [nI_clamp (by omega), hl]
  intro k
  induction k with
  | zero =>
    intro hk h
    refine br_t (by decide) (y_b53 ht hl (fun z => absurd z ?_) (fun _ => h _ (Or.inl ⟨rfl, id⟩)))
    show ¬ nI n ≤ -1
    rw [Int32.le_iff_toInt_le, nI_toInt (by omega), show (-1 : Int32).toInt = -1 from by decide]
    omega
  | succ k ih =>
    intro hk h
    unfold sc_lb at h
    have next : (sc_kd ki tx t k = 6 ∨ sc_kd ki tx t k = 2) → wY_beside_5 post (nI t) (-1) cc rl yn cl dt df pb lo uf us fi ki wt ef eb di ex cf cs cm lg tx le rr ro fm fL ee en ye lv se pg ou (k + 1) (sc_pr k) := by
      intro z
      rw [if_pos z] at h
      exact ih (by omega) (fun r hr => h r (hr.elim Or.inl (fun ⟨s, hs, e, i⟩ => Or.inr ⟨s, by omega, e, i⟩)))
    refine br_f (nI_pos (by omega)) ⟨vp_in_nI ht (by decide), br_f (by rw [hL]; exact nI_ge (by omega) (by omega)) (y_kindAt ht (by omega) htx (br_c (fun a => nm_r (sc_prA k) (next (Or.inl a))) (fun a => y_kindAt ht (by omega) htx (br_c (fun b => nm_r (sc_prA k) (next (Or.inr b))) (fun b => ?_)))))⟩
    rw [if_neg (fun z => z.elim a b)] at h
    exact y_b53 ht hl (fun z => absurd z (nI_ge (by omega) (by omega))) (fun _ => h _ (Or.inr ⟨k, by omega, rfl, Iff.rfl⟩))
theorem y_bh_l {post : Int32 → Prop} {t n : Nat} (ht : t < 2) (htx : sc_Chr tx) (hn : n ≤ 16) (hl : le t = nI n) :
    ∀ d i, i + d = n → (∀ r, r = -1 ∧ ¬ sc_lh (sc_kd ki tx t) d i ∨ (∃ s, s < n ∧ r = nI s ∧ (sc_kd ki tx t s = 4 ↔ sc_lh (sc_kd ki tx t) d i)) → post r) → wY_beside_5 post (nI t) 1 cc rl yn cl dt df pb lo uf us fi ki wt ef eb di ex cf cs cm lg tx le rr ro fm fL ee en ye lv se pg ou (d + 1) (nI i) := by
  have hL : le (nI t).toNatClampNeg = nI n := by rw [nI_clamp (by omega), hl]
  intro d
  induction d with
  | zero =>
    intro i hi h
    exact br_f (nI_pos (by omega)) ⟨vp_in_nI ht (by decide), br_t (by rw [hL]; exact nI_le (by omega) (by omega)) (y_b53 ht hl (fun z => h _ (Or.inl ⟨rfl, id⟩)) (fun z => absurd (nI_le (by omega) (by omega)) z))⟩
  | succ d ih =>
    intro i hi h
    unfold sc_lh at h
    have next : (sc_kd ki tx t i = 6 ∨ sc_kd ki tx t i = 2) → wY_beside_5 post (nI t) 1 cc rl yn cl dt df pb lo uf us fi ki wt ef eb di ex cf cs cm lg tx le rr ro fm fL ee en ye lv se pg ou (d + 1) (nI (i + 1)) := by
      intro z
      rw [if_pos z] at h
      exact ih (i + 1) (by omega) h
    refine br_f (nI_pos (by omega)) ⟨vp_in_nI ht (by decide), br_f (by rw [hL]; exact nI_ge (by omega) (by omega)) (y_kindAt ht (by omega) htx (br_c (fun a => nm_r (nI_1 i) (next (Or.inl a))) (fun a => y_kindAt ht (by omega) htx (br_c (fun b => nm_r (nI_1 i) (next (Or.inr b))) (fun b => ?_)))))⟩
    rw [if_neg (fun z => z.elim a b)] at h
    exact y_b53 ht hl (fun z => absurd z (nI_ge (by omega) (by omega))) (fun _ => h _ (Or.inr ⟨i, by omega, rfl, Iff.rfl⟩))
theorem y_fin {post : Int32 → Prop} {t n k : Nat} (ht : t < 2) (htx : sc_Chr tx) (hn : n ≤ 16) (hl : le t = nI n) (hk : k < n) (h1 : sc_Fi (sc_kd ki tx t) n k → post 1) (h0 : ¬ sc_Fi (sc_kd ki tx t) n k → post 0) : wpY_isFinal post (cc, rl, yn, cl, dt, df, pb, lo, uf, us, fi, ki, wt, ef, eb, di, ex, cf, cs, cm, lg, tx, le, rr, ro, fm, fL, ee, en, ye, lv, se, pg, ou) (nI t) (nI k) := by
  unfold wpY_isFinal
  unfold wpY_beside
  refine nm_r (sc_prA k) ⟨k + 1, y_bb_l ht htx hn hl k (by omega) (fun r hr => nm_r (nI_1 k) ⟨n - (k + 1) + 1, y_bh_l ht htx hn hl _ (k + 1) (by omega) (fun q hq => ?_)⟩)⟩
  rcases hr with ⟨rfl, nb⟩ | ⟨s, hs, rfl, ib⟩
  · exact br_t (by decide) (h0 (fun z => nb z.1))
  · refine br_f (nI_pos (by omega)) (y_kindAt ht (by omega) htx (br_c (fun a => ?_) (fun a => h0 (fun z => a (ib.mpr z.1)))))
    rcases hq with ⟨rfl, nh⟩ | ⟨q, hq, rfl, ih⟩
    · exact br_t (by decide) (h1 ⟨ib.mp a, nh⟩)
    · exact br_f (nI_pos (by omega)) (y_kindAt ht (by omega) htx (br_c (fun b => h0 (fun z => z.2 (ih.mp b))) (fun b => h1 ⟨ib.mp a, fun z => b (ih.mpr z)⟩)))
theorem y_add {post : SY → Prop} {acc : List Int32} {c : Int32} (ha : acc.length < 64) (hr : sc_Rp ro acc) (h : ∀ ro, sc_Rp ro (acc ++ [c]) → post (cc, rl, nI (acc.length + 1), cl, dt, df, pb, lo, uf, us, fi, ki, wt, ef, eb, di, ex, cf, cs, cm, lg, tx, le, rr, ro, fm, fL, ee, en, ye, lv, se, pg, ou)) : wpY_add post (cc, rl, nI acc.length, cl, dt, df, pb, lo, uf, us, fi, ki, wt, ef, eb, di, ex, cf, cs, cm, lg, tx, le, rr, ro, fm, fL, ee, en, ye, lv, se, pg, ou) c := by
  unfold wpY_add
  exact ⟨vp_in_nI ha (by decide), nm_r (e' := upd ro acc.length c) (by rw [nI_clamp (by omega)]) (nm_r (nI_1 _) (h _ (sc_Rp_snoc c hr)))⟩
theorem y_addLower {post : SY → Prop} {t n k : Nat} {acc : List Int32} (ht : t < 2) (htx : sc_Chr tx) (hfi : sc_Opt fi) (hn : n ≤ 16) (hl : le t = nI n) (hk : k < n) (ha : acc.length < 64) (hr : sc_Rp ro acc)
    (h : ∀ ro, sc_Rp ro (acc ++ [sc_lw ki lo fi tx t n k]) → post (cc, rl, nI (acc.length + 1), cl, dt, df, pb, lo, uf, us, fi, ki, wt, ef, eb, di, ex, cf, cs, cm, lg, tx, le, rr, ro, fm, fL, ee, en, ye, lv, se, pg, ou)) : wpY_addLower post (cc, rl, nI acc.length, cl, dt, df, pb, lo, uf, us, fi, ki, wt, ef, eb, di, ex, cf, cs, cm, lg, tx, le, rr, ro, fm, fL, ee, en, ye, lv, se, pg, ou) (nI t) (nI k) := by
  have e : 16 * nI t + nI k = nI (16 * t + k) := sn_16 t k
  have c : (16 * nI t + nI k).toNatClampNeg = 16 * t + k := by rw [e, nI_clamp (by omega)]
  have ng : ∀ j, fi j < 0 ↔ fi j = -1 := fun j => ⟨fun z => (hfi j).elim id (fun w => absurd z (sn_pos w)), fun z => by rw [z]; decide⟩
  unfold wpY_addLower
  refine ⟨pk_in (16 * t + k) 32 (by omega) e, nm_r (e' := tx (16 * t + k)) (by rw [c]) ⟨htx _, ?_⟩⟩
  unfold sc_lw at h
  refine br_c (fun a => ?_) (fun a => y_fin ht htx hn hl hk (fun b => br_f (by decide) ⟨htx _, ?_⟩) (fun b => br_t rfl ?_))
  · rw [if_neg (fun z => z.1 ((ng _).mp a))] at h
    exact ⟨htx _, y_add ha hr h⟩
  · rw [if_pos ⟨fun z => a ((ng _).mpr z), b⟩] at h
    exact y_add ha hr h
  · rw [if_neg (fun z => b z.2)] at h
    exact ⟨htx _, y_add ha hr h⟩
theorem y_addUpper0 {post : SY → Prop} {acc : List Int32} {c : Int32} (hc : vp_in c 48) (hus : sc_Opt us) (ha : acc.length + 2 ≤ 64) (hr : sc_Rp ro acc)
    (h : ∀ ro, sc_Rp ro (acc ++ sc_uL uf us c) → post (cc, rl, nI (acc ++ sc_uL uf us c).length, cl, dt, df, pb, lo, uf, us, fi, ki, wt, ef, eb, di, ex, cf, cs, cm, lg, tx, le, rr, ro, fm, fL, ee, en, ye, lv, se, pg, ou)) : wpY_addUpper post (cc, rl, nI acc.length, cl, dt, df, pb, lo, uf, us, fi, ki, wt, ef, eb, di, ex, cf, cs, cm, lg, tx, le, rr, ro, fm, fL, ee, en, ye, lv, se, pg, ou) c 0 := by
  have ng : ∀ j, us j < 0 ↔ us j = -1 := fun j => ⟨fun z => (hus j).elim id (fun w => absurd z (sn_pos w)), fun z => by rw [z]; decide⟩
  unfold wpY_addUpper
  refine br_t rfl ⟨hc, ?_⟩
  unfold wY_addUpper_25
  refine y_add (by omega) hr (fun ro1 hr1 => ⟨hc, ?_⟩)
  unfold sc_uL at h
  refine br_c (fun a => ?_) (fun a => br_t rfl ⟨hc, ?_⟩)
  · rw [if_pos ((ng _).mp a)] at h
    have h' := h _ hr1
    rw [List.length_append] at h'
    exact h'
  · rw [if_neg (fun z => a ((ng _).mpr z))] at h
    have e1 : nI (acc.length + 1) = nI (acc ++ [uf c.toNatClampNeg]).length := by rw [List.length_append]; rfl
    rw [e1]
    refine y_add (by rw [List.length_append]; show acc.length + 1 < 64; omega) hr1 (fun ro2 hr2 => ?_)
    rw [List.append_assoc] at hr2
    have h' := h _ hr2
    rw [List.length_append] at h' ⊢
    exact h'
theorem y_addUpper1 {post : SY → Prop} {acc : List Int32} {c : Int32} (hc : vp_in c 48) (huf : sc_Chr uf) (hus : sc_Opt us) (ha : acc.length + 2 ≤ 64) (hr : sc_Rp ro acc)
    (h : ∀ ro, sc_Rp ro (acc ++ (sc_uL uf us c).map (fun x => lo x.toNatClampNeg)) → post (cc, rl, nI (acc ++ (sc_uL uf us c).map (fun x => lo x.toNatClampNeg)).length, cl, dt, df, pb, lo, uf, us, fi, ki, wt, ef, eb, di, ex, cf, cs, cm, lg, tx, le, rr, ro, fm, fL, ee, en, ye, lv, se, pg, ou)) : wpY_addUpper post (cc, rl, nI acc.length, cl, dt, df, pb, lo, uf, us, fi, ki, wt, ef, eb, di, ex, cf, cs, cm, lg, tx, le, rr, ro, fm, fL, ee, en, ye, lv, se, pg, ou) c 1 := by
  have ng : ∀ j, us j < 0 ↔ us j = -1 := fun j => ⟨fun z => (hus j).elim id (fun w => absurd z (sn_pos w)), fun z => by rw [z]; decide⟩
  unfold wpY_addUpper
  refine br_f (by decide) ⟨hc, huf _, ?_⟩
  unfold wY_addUpper_25
  refine y_add (by omega) hr (fun ro1 hr1 => ⟨hc, ?_⟩)
  unfold sc_uL at h
  refine br_c (fun a => ?_) (fun a => br_f (by decide) ⟨hc, (hus _).elim (fun z => absurd ((ng _).mpr z) a) id, ?_⟩)
  · rw [if_pos ((ng _).mp a)] at h
    have h' := h _ hr1
    rw [List.length_append] at h'
    exact h'
  · rw [if_neg (fun z => a ((ng _).mpr z))] at h
    have e1 : nI (acc.length + 1) = nI (acc ++ [lo (uf c.toNatClampNeg).toNatClampNeg]).length := by rw [List.length_append]; rfl
    rw [e1]
    refine y_add (by rw [List.length_append]; show acc.length + 1 < 64; omega) hr1 (fun ro2 hr2 => ?_)
    rw [List.append_assoc] at hr2
    have h' := h _ hr2
    rw [List.length_append] at h' ⊢
    exact h'
end
end
section
/-! case: the loops -/
noncomputable def sc_ML (ki lo fi tx : Nat → Int32) (t n : Nat) : Nat → Nat → List Int32
  | 0, _ => []
  | d + 1, i => sc_lw ki lo fi tx t n i :: sc_ML ki lo fi tx t n d (i + 1)
def sc_MU (uf us tx : Nat → Int32) (t : Nat) : Nat → Nat → List Int32
  | 0, _ => []
  | d + 1, i => sc_uL uf us (tx (16 * t + i)) ++ sc_MU uf us tx t d (i + 1)
noncomputable def sc_MT (ki lo fi uf us tx : Nat → Int32) (t n : Nat) : Nat → Nat → Int32 → List Int32
  | 0, _, _ => []
  | d + 1, i, w =>
    if (if sc_q (sc_kd ki tx t) n 1 i = 0 then w else 1) = 0 ∨ ¬ sc_kd ki tx t i = 4
    then sc_lw ki lo fi tx t n i :: sc_MT ki lo fi uf us tx t n d (i + 1) (if sc_q (sc_kd ki tx t) n 1 i = 0 then w else 1)
    else sc_uL uf us (tx (16 * t + i)) ++ sc_MT ki lo fi uf us tx t n d (i + 1) 0
theorem sc_MLp {ki lo fi tx : Nat → Int32} (h1 : sc_Chr lo) (h2 : sc_Opt fi) (t n : Nat) : ∀ d i, sc_All (sc_ML ki lo fi tx t n d i) ∧ (sc_ML ki lo fi tx t n d i).length ≤ 2 * d := by
  intro d
  induction d with
  | zero => exact fun i => ⟨sc_All_nil, Nat.le_refl _⟩
  | succ d ih =>
    intro i
    obtain ⟨a, b⟩ := ih (i + 1)
    refine ⟨sc_All_cons.mpr ⟨sc_lwC h1 h2 t n i, a⟩, ?_⟩
    show (sc_ML ki lo fi tx t n d (i + 1)).length + 1 ≤ 2 * (d + 1)
    omega
theorem sc_MUp {uf us : Nat → Int32} (h1 : sc_Chr uf) (h2 : sc_Opt us) (tx : Nat → Int32) (t : Nat) : ∀ d i, sc_All (sc_MU uf us tx t d i) ∧ (sc_MU uf us tx t d i).length ≤ 2 * d := by
  intro d
  induction d with
  | zero => exact fun i => ⟨sc_All_nil, Nat.le_refl _⟩
  | succ d ih =>
    intro i
    obtain ⟨a, b⟩ := ih (i + 1)
    have := sc_uLl uf us (tx (16 * t + i))
    refine ⟨sc_All_app.mpr ⟨sc_uLA h1 h2 _, a⟩, ?_⟩
    show (sc_uL uf us (tx (16 * t + i)) ++ sc_MU uf us tx t d (i + 1)).length ≤ 2 * (d + 1)
    rw [List.length_append]; omega
theorem sc_MTp {ki lo fi uf us tx : Nat → Int32} (h1 : sc_Chr lo) (h2 : sc_Opt fi) (h3 : sc_Chr uf) (h4 : sc_Opt us) (t n : Nat) : ∀ d i w, sc_All (sc_MT ki lo fi uf us tx t n d i w) ∧ (sc_MT ki lo fi uf us tx t n d i w).length ≤ 2 * d := by
  intro d
  induction d with
  | zero => exact fun i w => ⟨sc_All_nil, Nat.le_refl _⟩
  | succ d ih =>
    intro i w
    unfold sc_MT
    generalize (if sc_q (sc_kd ki tx t) n 1 i = 0 then w else 1) = w'
    split
    · obtain ⟨a, b⟩ := ih (i + 1) w'
      refine ⟨sc_All_cons.mpr ⟨sc_lwC h1 h2 t n i, a⟩, ?_⟩
      rw [List.length_cons]; omega
    · obtain ⟨a, b⟩ := ih (i + 1) 0
      have := sc_uLl uf us (tx (16 * t + i))
      refine ⟨sc_All_app.mpr ⟨sc_uLA h3 h4 _, a⟩, ?_⟩
      rw [List.length_append]; omega
theorem sc_MT01 (ki lo fi uf us tx : Nat → Int32) (t n : Nat) : sc_MT ki lo fi uf us tx t n n 0 1 = sc_MT ki lo fi uf us tx t n n 0 0 := by
  cases n with
  | zero => rfl
  | succ n =>
    have q : ¬ sc_q (sc_kd ki tx t) (n + 1) 1 0 = 0 := by
      unfold sc_q
      rw [if_pos (Or.inl rfl), if_neg (by omega)]
      decide
    unfold sc_MT
    rw [if_neg q, if_neg q]
theorem sc_mapA {lo : Nat → Int32} (h : sc_Chr lo) (l : List Int32) : sc_All (l.map (fun x => lo x.toNatClampNeg)) := by
  intro x hx
  obtain ⟨y, -, rfl⟩ := List.mem_map.mp hx
  exact h _
section
variable {cc rl wl : Int32} {cl dt df ds ex lo uf us fi ki ef es di we cf cs cm tx le rr wk sh fo fl el ec ke kl em oe be pl po : Nat → Int32}
theorem x_ML {post : SX → Prop} {t n : Nat} (ht : t < 2) (htx : sc_Chr tx) (hn : n ≤ 16) (hl : le t = nI n) :
    ∀ (d i : Nat) (acc : List Int32) (wk : Nat → Int32), i + d = n → acc.length + 2 * d ≤ 64 → sc_Rp wk acc →
    (∀ wk, sc_Rp wk (acc ++ sc_ML ki lo fi tx t n d i) → post (cc, rl, nI (acc ++ sc_ML ki lo fi tx t n d i).length, cl, dt, df, ds, ex, lo, uf, us, fi, ki, ef, es, di, we, cf, cs, cm, tx, le, rr, wk, sh, fo, fl, el, ec, ke, kl, em, oe, be, pl, po)) → wX_makeLower_2 post (nI t) (d + 1) (nI i) cc rl (nI acc.length) cl dt df ds ex lo uf us fi ki ef es di we cf cs cm tx le rr wk sh fo fl el ec ke kl em oe be pl po := by
  have hL : le (nI t).toNatClampNeg = nI n := by rw [nI_clamp (by omega), hl]
  intro d
  induction d with
  | zero =>
    intro i acc wk hi ha hr h
    unfold sc_ML at h
    rw [List.append_nil] at h
    exact ⟨vp_in_nI ht (by decide), br_t (by rw [hL]; exact nI_le (by omega) (by omega)) (h wk hr)⟩
  | succ d ih =>
    intro i acc wk hi ha hr h
    refine ⟨vp_in_nI ht (by decide), br_f (by rw [hL]; exact nI_ge (by omega) (by omega)) (x_appLower ht htx hn hl (by omega) (by omega) hr (fun wk1 hr1 => nm_r (nI_1 i) ?_))⟩
    have g := ih (i + 1) (acc ++ [sc_lw ki lo fi tx t n i]) wk1 (by omega) (by rw [List.length_append]; show acc.length + 1 + 2 * d ≤ 64; omega) hr1
    rw [List.append_assoc, List.length_append (as := acc) (bs := [sc_lw ki lo fi tx t n i])] at g
    exact g h
theorem x_MU {post : SX → Prop} {t n : Nat} (ht : t < 2) (htx : sc_Chr tx) (hn : n ≤ 16) (hl : le t = nI n) :
    ∀ (d i : Nat) (acc : List Int32) (wk : Nat → Int32), i + d = n → acc.length + 2 * d ≤ 64 → sc_Rp wk acc →
    (∀ wk, sc_Rp wk (acc ++ sc_MU uf us tx t d i) → post (cc, rl, nI (acc ++ sc_MU uf us tx t d i).length, cl, dt, df, ds, ex, lo, uf, us, fi, ki, ef, es, di, we, cf, cs, cm, tx, le, rr, wk, sh, fo, fl, el, ec, ke, kl, em, oe, be, pl, po)) → wX_makeUpper_2 post (nI t) (d + 1) (nI i) cc rl (nI acc.length) cl dt df ds ex lo uf us fi ki ef es di we cf cs cm tx le rr wk sh fo fl el ec ke kl em oe be pl po := by
  have hL : le (nI t).toNatClampNeg = nI n := by rw [nI_clamp (by omega), hl]
  intro d
  induction d with
  | zero =>
    intro i acc wk hi ha hr h
    unfold sc_MU at h
    rw [List.append_nil] at h
    exact ⟨vp_in_nI ht (by decide), br_t (by rw [hL]; exact nI_le (by omega) (by omega)) (h wk hr)⟩
  | succ d ih =>
    intro i acc wk hi ha hr h
    refine ⟨vp_in_nI ht (by decide), br_f (by rw [hL]; exact nI_ge (by omega) (by omega)) (x_appUpper ht htx (by omega) (by omega) hr (fun wk1 hr1 => nm_r (nI_1 i) ?_))⟩
    have := sc_uLl uf us (tx (16 * t + i))
    have g := ih (i + 1) (acc ++ sc_uL uf us (tx (16 * t + i))) wk1 (by omega) (by rw [List.length_append]; omega) hr1
    rw [List.append_assoc] at g
    exact g h
theorem x_MT {post : SX → Prop} {t n : Nat} (ht : t < 2) (htx : sc_Chr tx) (hn : n ≤ 16) (hl : le t = nI n) :
    ∀ (d i : Nat) (w : Int32) (acc : List Int32) (wk : Nat → Int32), i + d = n → acc.length + 2 * d ≤ 64 → sc_Rp wk acc →
    (∀ wk, sc_Rp wk (acc ++ sc_MT ki lo fi uf us tx t n d i w) → post (cc, rl, nI (acc ++ sc_MT ki lo fi uf us tx t n d i w).length, cl, dt, df, ds, ex, lo, uf, us, fi, ki, ef, es, di, we, cf, cs, cm, tx, le, rr, wk, sh, fo, fl, el, ec, ke, kl, em, oe, be, pl, po)) →
    wX_makeTitle_12 post (nI t) (nI (sc_bm (sc_q (sc_kd ki tx t) n 1) (n + 1))) (d + 1) w (nI i) cc rl (nI acc.length) cl dt df ds ex lo uf us fi ki ef es di we cf cs cm tx le rr wk sh fo fl el ec ke kl em oe be pl po := by
  have hL : le (nI t).toNatClampNeg = nI n := by rw [nI_clamp (by omega), hl]
  have hb : sc_bm (sc_q (sc_kd ki tx t) n 1) (n + 1) < 2 ^ 31 := Nat.lt_of_lt_of_le (sc_bm_lt _ _) (Nat.pow_le_pow_right (by decide) (by omega))
  intro d
  induction d with
  | zero =>
    intro i w acc wk hi ha hr h
    unfold sc_MT at h
    rw [List.append_nil] at h
    exact ⟨vp_in_nI ht (by decide), br_t (by rw [hL]; exact nI_le (by omega) (by omega)) (h wk hr)⟩
  | succ d ih =>
    intro i w acc wk hi ha hr h
    unfold sc_MT at h
    have step : ∀ w', w' = (if sc_q (sc_kd ki tx t) n 1 i = 0 then w else 1) → wX_makeTitle_35 post (wX_makeTitle_12 post (nI t) (nI (sc_bm (sc_q (sc_kd ki tx t) n 1) (n + 1))) (d + 1)) (nI t) (nI (sc_bm (sc_q (sc_kd ki tx t) n 1) (n + 1))) w' (nI i) cc rl (nI acc.length) cl dt df ds ex lo uf us fi ki ef es di we cf cs cm tx le rr wk sh fo fl el ec ke kl em oe be pl po := by
      intro w' ew
      rw [← ew] at h
      have low : (w' = 0 ∨ ¬ sc_kd ki tx t i = 4) → wX_makeTitle_62 post (wX_makeTitle_12 post (nI t) (nI (sc_bm (sc_q (sc_kd ki tx t) n 1) (n + 1))) (d + 1)) (nI t) (nI (sc_bm (sc_q (sc_kd ki tx t) n 1) (n + 1))) w' (nI i) cc rl (nI acc.length) cl dt df ds ex lo uf us fi ki ef es di we cf cs cm tx le rr wk sh fo fl el ec ke kl em oe be pl po := by
        intro z
        rw [if_pos z] at h
        unfold wX_makeTitle_62
        refine x_appLower ht htx hn hl (by omega) (by omega) hr (fun wk1 hr1 => nm_r (nI_1 i) ?_)
        have g := ih (i + 1) w' (acc ++ [sc_lw ki lo fi tx t n i]) wk1 (by omega) (by rw [List.length_append]; show acc.length + 1 + 2 * d ≤ 64; omega) hr1
        rw [List.append_assoc, List.length_append (as := acc) (bs := [sc_lw ki lo fi tx t n i])] at g
        exact g h
      refine br_c (fun a => low (Or.inl a)) (fun a => x_kindAt ht (by omega) htx (br_c (fun b => ?_) (fun b => low (Or.inr b))))
      rw [if_neg (fun z => z.elim a (fun y => y b))] at h
      refine x_appUpper ht htx (by omega) (by omega) hr (fun wk1 hr1 => nm_r (nI_1 i) ?_)
      have := sc_uLl uf us (tx (16 * t + i))
      have g := ih (i + 1) 0 (acc ++ sc_uL uf us (tx (16 * t + i))) wk1 (by omega) (by rw [List.length_append]; omega) hr1
      rw [List.append_assoc] at g
      exact g h
    refine ⟨vp_in_nI ht (by decide), br_f (by rw [hL]; exact nI_ge (by omega) (by omega)) (x_isIn (by omega) hb (fun z => br_f (by decide) (step 1 ?_)) (fun z => br_t rfl (step w ?_)))⟩
    · rw [sc_bm_bit, decide_eq_true_iff] at z
      rw [if_neg z.2]
    · rw [sc_bm_bit, decide_eq_false_iff_not] at z
      by_cases q : sc_q (sc_kd ki tx t) n 1 i = 0
      · rw [if_pos q]
      · exact absurd ⟨by omega, q⟩ z
theorem x_fold_l {post : SX → Prop} {N : Nat} (hN : N ≤ 64) :
    ∀ (rest pre : List Int32) (wk : Nat → Int32), pre.length + rest.length = N → sc_All rest → sc_Rp wk (pre ++ rest) →
    (∀ wk, sc_Rp wk (pre ++ rest.map (fun x => lo x.toNatClampNeg)) → post (cc, rl, nI N, cl, dt, df, ds, ex, lo, uf, us, fi, ki, ef, es, di, we, cf, cs, cm, tx, le, rr, wk, sh, fo, fl, el, ec, ke, kl, em, oe, be, pl, po)) → wX_makeFolded_7 post cc rl (nI N) (rest.length + 1) (nI pre.length) cl dt df ds ex lo uf us fi ki ef es di we cf cs cm tx le rr wk sh fo fl el ec ke kl em oe be pl po := by
  intro rest
  induction rest with
  | nil =>
    intro pre wk hl hA hr h
    have hl' : pre.length + 0 = N := hl
    exact br_t (nI_le (by omega) (by omega)) (h wk hr)
  | cons x rest ih =>
    intro pre wk hl hA hr h
    have hl' : pre.length + (rest.length + 1) = N := hl
    obtain ⟨hx, hB⟩ := sc_All_cons.mp hA
    have ew : wk (nI pre.length).toNatClampNeg = x := by rw [nI_clamp (by omega)]; exact sc_Rp_mid hr
    have v : vp_in (nI pre.length) 64 := vp_in_nI (by omega) (by decide)
    refine br_f (nI_ge (by omega) (by omega)) ⟨v, by rw [ew]; exact hx, v, nm_r (e' := upd wk pre.length (lo x.toNatClampNeg)) (by rw [ew, nI_clamp (by omega)]) (nm_r (nI_1 _) ?_)⟩
    have g := ih (pre ++ [lo x.toNatClampNeg]) (upd wk pre.length (lo x.toNatClampNeg)) (by rw [List.length_append]; show pre.length + 1 + rest.length = N; omega) hB (by rw [List.append_assoc]; exact sc_Rp_set _ hr)
    rw [List.append_assoc, List.length_append (as := pre) (bs := [lo x.toNatClampNeg])] at g
    exact g h
end
section
variable {cc rl yn : Int32} {cl dt df pb lo uf us fi ki wt ef eb di ex cf cs cm lg tx le rr ro fm fL ee en ye lv se pg ou : Nat → Int32}
theorem y_c65 {post : Int32 → SY → Prop} {J : _} {p1 p2 w p4 c : Int32} (hc : vp_in c 48)
    (h0 : w = 0 ∨ ¬ ki c.toNatClampNeg = 4 → wY_cased_94 post J p1 p2 w p4 c 0 cc rl yn cl dt df pb lo uf us fi ki wt ef eb di ex cf cs cm lg tx le rr ro fm fL ee en ye lv se pg ou) (h1 : ¬ w = 0 → ki c.toNatClampNeg = 4 → wY_cased_94 post J p1 p2 0 p4 c 1 cc rl yn cl dt df pb lo uf us fi ki wt ef eb di ex cf cs cm lg tx le rr ro fm fL ee en ye lv se pg ou) : wY_cased_65 post J p1 p2 w p4 c cc rl yn cl dt df pb lo uf us fi ki wt ef eb di ex cf cs cm lg tx le rr ro fm fL ee en ye lv se pg ou := by
  unfold wY_cased_65
  exact br_c (fun a => br_t rfl (h0 (Or.inl a))) (fun a => ⟨hc, br_c (fun b => br_f (by decide) (h1 a b)) (fun b => br_t rfl (h0 (Or.inr b)))⟩)
theorem y_c28 {post : Int32 → SY → Prop} {t n i m : Nat} {p2 w : Int32} (ht : t < 2) (htx : sc_Chr tx) (hn : n ≤ 16) (hl : le t = nI n) (hi : i < n)
    (h : ∀ w', w' = (if sc_q (sc_kd ki tx t) n 1 i = 0 then w else 1) → wY_cased_65 post (wY_cased_28 post (nI t) p2 m) (nI t) p2 w' (nI i) (tx (16 * t + i)) cc rl yn cl dt df pb lo uf us fi ki wt ef eb di ex cf cs cm lg tx le rr ro fm fL ee en ye lv se pg ou) : wY_cased_28 post (nI t) p2 (m + 1) w (nI i) cc rl yn cl dt df pb lo uf us fi ki wt ef eb di ex cf cs cm lg tx le rr ro fm fL ee en ye lv se pg ou := by
  have hL : le (nI t).toNatClampNeg = nI n := by rw [nI_clamp (by omega), hl]
  have e : 16 * nI t + nI i = nI (16 * t + i) := sn_16 t i
  have c : (16 * nI t + nI i).toNatClampNeg = 16 * t + i := by rw [e, nI_clamp (by omega)]
  refine ⟨vp_in_nI ht (by decide), br_f (by rw [hL]; exact nI_ge hi (by omega)) ⟨pk_in (16 * t + i) 32 (by omega) e, nm_r (e' := tx (16 * t + i)) (by rw [c]) (y_word (kd := 1) (by decide) ht htx hn hl (by omega) (br_c (fun a => h w ?_) (fun a => h 1 ?_)))⟩⟩
  · rw [if_pos a]
  · rw [if_neg a]
theorem y_c28e {post : Int32 → SY → Prop} {t n m : Nat} {p2 w : Int32} {l : List Int32} (ht : t < 2) (hn : n ≤ 16) (hl : le t = nI n) (hN : l.length ≤ 64) (hr : sc_Rp ro l)
    (h : post (nI l.length) (cc, nI l.length, nI l.length, cl, dt, df, pb, lo, uf, us, fi, ki, wt, ef, eb, di, ex, cf, cs, cm, lg, tx, le, sc_cp (sc_at l) 0 l.length 0 rr, ro, fm, fL, ee, en, ye, lv, se, pg, ou)) : wY_cased_28 post (nI t) p2 (m + 1) w (nI n) cc rl (nI l.length) cl dt df pb lo uf us fi ki wt ef eb di ex cf cs cm lg tx le rr ro fm fL ee en ye lv se pg ou := by
  have hL : le (nI t).toNatClampNeg = nI n := by rw [nI_clamp (by omega), hl]
  exact ⟨vp_in_nI ht (by decide), br_t (by rw [hL]; exact nI_le (by omega) (by omega)) (y_give hN hr h)⟩
theorem y_ML {post : Int32 → SY → Prop} {t n : Nat} (ht : t < 2) (htx : sc_Chr tx) (hfi : sc_Opt fi) (hn : n ≤ 16) (hl : le t = nI n) :
    ∀ (d i : Nat) (w : Int32) (acc : List Int32) (ro : Nat → Int32), i + d = n → acc.length + 2 * d ≤ 64 → (acc ++ sc_ML ki lo fi tx t n d i).length ≤ 64 → sc_Rp ro acc →
    post (nI (acc ++ sc_ML ki lo fi tx t n d i).length) (cc, nI (acc ++ sc_ML ki lo fi tx t n d i).length, nI (acc ++ sc_ML ki lo fi tx t n d i).length, cl, dt, df, pb, lo, uf, us, fi, ki, wt, ef, eb, di, ex, cf, cs, cm, lg, tx, le, sc_cp (sc_at (acc ++ sc_ML ki lo fi tx t n d i)) 0 (acc ++ sc_ML ki lo fi tx t n d i).length 0 rr, ro, fm, fL, ee, en, ye, lv, se, pg, ou) ∨ True →
    (∀ ro, post (nI (acc ++ sc_ML ki lo fi tx t n d i).length) (cc, nI (acc ++ sc_ML ki lo fi tx t n d i).length, nI (acc ++ sc_ML ki lo fi tx t n d i).length, cl, dt, df, pb, lo, uf, us, fi, ki, wt, ef, eb, di, ex, cf, cs, cm, lg, tx, le, sc_cp (sc_at (acc ++ sc_ML ki lo fi tx t n d i)) 0 (acc ++ sc_ML ki lo fi tx t n d i).length 0 rr, ro, fm, fL, ee, en, ye, lv, se, pg, ou)) →
    wY_cased_28 post (nI t) 0 (d + 1) w (nI i) cc rl (nI acc.length) cl dt df pb lo uf us fi ki wt ef eb di ex cf cs cm lg tx le rr ro fm fL ee en ye lv se pg ou := by
  intro d
  induction d with
  | zero =>
    intro i w acc ro hi ha hb hr _ h
    obtain rfl : i = n := by omega
    unfold sc_ML at h hb
    rw [List.append_nil] at h hb
    exact y_c28e ht hn hl hb hr (h ro)
  | succ d ih =>
    intro i w acc ro hi ha hb hr _ h
    have low : ∀ w', wY_cased_133 post (wY_cased_28 post (nI t) 0 (d + 1)) (nI t) 0 w' (nI i) cc rl (nI acc.length) cl dt df pb lo uf us fi ki wt ef eb di ex cf cs cm lg tx le rr ro fm fL ee en ye lv se pg ou := by
      intro w'
      unfold wY_cased_133
      refine y_addLower ht htx hfi hn hl (by omega) (by omega) hr (fun ro1 hr1 => nm_r (nI_1 i) ?_)
      have g := ih (i + 1) w' (acc ++ [sc_lw ki lo fi tx t n i]) ro1 (by omega) (by rw [List.length_append]; show acc.length + 1 + 2 * d ≤ 64; omega)
      rw [List.append_assoc, List.length_append (as := acc) (bs := [sc_lw ki lo fi tx t n i])] at g
      exact g hb hr1 (Or.inr trivial) h
    exact y_c28 ht htx hn hl (by omega) (fun w' _ => y_c65 (htx _) (fun _ => br_f (by decide) (br_f (by decide) (br_f (by decide) (low w')))) (fun _ _ => br_f (by decide) (br_f (by decide) (br_f (by decide) (low 0)))))
theorem y_MU {post : Int32 → SY → Prop} {t n : Nat} (ht : t < 2) (htx : sc_Chr tx) (hus : sc_Opt us) (hn : n ≤ 16) (hl : le t = nI n) :
    ∀ (d i : Nat) (w : Int32) (acc : List Int32) (ro : Nat → Int32), i + d = n → acc.length + 2 * d ≤ 64 → (acc ++ sc_MU uf us tx t d i).length ≤ 64 → sc_Rp ro acc →
    (∀ ro, post (nI (acc ++ sc_MU uf us tx t d i).length) (cc, nI (acc ++ sc_MU uf us tx t d i).length, nI (acc ++ sc_MU uf us tx t d i).length, cl, dt, df, pb, lo, uf, us, fi, ki, wt, ef, eb, di, ex, cf, cs, cm, lg, tx, le, sc_cp (sc_at (acc ++ sc_MU uf us tx t d i)) 0 (acc ++ sc_MU uf us tx t d i).length 0 rr, ro, fm, fL, ee, en, ye, lv, se, pg, ou)) →
    wY_cased_28 post (nI t) 1 (d + 1) w (nI i) cc rl (nI acc.length) cl dt df pb lo uf us fi ki wt ef eb di ex cf cs cm lg tx le rr ro fm fL ee en ye lv se pg ou := by
  intro d
  induction d with
  | zero =>
    intro i w acc ro hi ha hb hr h
    obtain rfl : i = n := by omega
    unfold sc_MU at h hb
    rw [List.append_nil] at h hb
    exact y_c28e ht hn hl hb hr (h ro)
  | succ d ih =>
    intro i w acc ro hi ha hb hr h
    have upp : ∀ w', wY_cased_114 post (wY_cased_28 post (nI t) 1 (d + 1)) (nI t) 1 w' (nI i) (tx (16 * t + i)) cc rl (nI acc.length) cl dt df pb lo uf us fi ki wt ef eb di ex cf cs cm lg tx le rr ro fm fL ee en ye lv se pg ou := by
      intro w'
      refine br_f (by decide) ?_
      unfold wY_cased_127
      refine y_addUpper0 (htx _) hus (by omega) hr (fun ro1 hr1 => nm_r (nI_1 i) ?_)
      have := sc_uLl uf us (tx (16 * t + i))
      have g := ih (i + 1) w' (acc ++ sc_uL uf us (tx (16 * t + i))) ro1 (by omega) (by rw [List.length_append]; omega)
      rw [List.append_assoc] at g
      exact g hb hr1 h
    exact y_c28 ht htx hn hl (by omega) (fun w' _ => y_c65 (htx _) (fun _ => br_t rfl (upp w')) (fun _ _ => br_t rfl (upp 0)))
theorem y_MF {post : Int32 → SY → Prop} {t n : Nat} (ht : t < 2) (htx : sc_Chr tx) (huf : sc_Chr uf) (hus : sc_Opt us) (hn : n ≤ 16) (hl : le t = nI n) :
    ∀ (d i : Nat) (w : Int32) (acc : List Int32) (ro : Nat → Int32), i + d = n → acc.length + 2 * d ≤ 64 → (acc ++ (sc_MU uf us tx t d i).map (fun x => lo x.toNatClampNeg)).length ≤ 64 → sc_Rp ro acc →
    (∀ ro, post (nI (acc ++ (sc_MU uf us tx t d i).map (fun x => lo x.toNatClampNeg)).length) (cc, nI (acc ++ (sc_MU uf us tx t d i).map (fun x => lo x.toNatClampNeg)).length, nI (acc ++ (sc_MU uf us tx t d i).map (fun x => lo x.toNatClampNeg)).length, cl, dt, df, pb, lo, uf, us, fi, ki, wt, ef, eb, di, ex, cf, cs, cm, lg, tx, le, sc_cp (sc_at (acc ++ (sc_MU uf us tx t d i).map (fun x => lo x.toNatClampNeg))) 0 (acc ++ (sc_MU uf us tx t d i).map (fun x => lo x.toNatClampNeg)).length 0 rr, ro, fm, fL, ee, en, ye, lv, se, pg, ou)) →
    wY_cased_28 post (nI t) 3 (d + 1) w (nI i) cc rl (nI acc.length) cl dt df pb lo uf us fi ki wt ef eb di ex cf cs cm lg tx le rr ro fm fL ee en ye lv se pg ou := by
  intro d
  induction d with
  | zero =>
    intro i w acc ro hi ha hb hr h
    obtain rfl : i = n := by omega
    unfold sc_MU at h hb
    rw [List.map_nil, List.append_nil] at h hb
    exact y_c28e ht hn hl hb hr (h ro)
  | succ d ih =>
    intro i w acc ro hi ha hb hr h
    have upp : ∀ w', wY_cased_114 post (wY_cased_28 post (nI t) 3 (d + 1)) (nI t) 3 w' (nI i) (tx (16 * t + i)) cc rl (nI acc.length) cl dt df pb lo uf us fi ki wt ef eb di ex cf cs cm lg tx le rr ro fm fL ee en ye lv se pg ou := by
      intro w'
      refine br_t rfl ?_
      unfold wY_cased_127
      refine y_addUpper1 (htx _) huf hus (by omega) hr (fun ro1 hr1 => nm_r (nI_1 i) ?_)
      have := sc_uLl uf us (tx (16 * t + i))
      have g := ih (i + 1) w' (acc ++ (sc_uL uf us (tx (16 * t + i))).map (fun x => lo x.toNatClampNeg)) ro1 (by omega) (by rw [List.length_append, List.length_map]; omega)
      rw [List.append_assoc, ← List.map_append] at g
      exact g hb hr1 h
    exact y_c28 ht htx hn hl (by omega) (fun w' _ => y_c65 (htx _) (fun _ => br_f (by decide) (br_t rfl (upp w'))) (fun _ _ => br_f (by decide) (br_t rfl (upp 0))))
theorem y_MT {post : Int32 → SY → Prop} {t n : Nat} (ht : t < 2) (htx : sc_Chr tx) (hfi : sc_Opt fi) (hus : sc_Opt us) (hn : n ≤ 16) (hl : le t = nI n) :
    ∀ (d i : Nat) (w : Int32) (acc : List Int32) (ro : Nat → Int32), i + d = n → acc.length + 2 * d ≤ 64 → (acc ++ sc_MT ki lo fi uf us tx t n d i w).length ≤ 64 → sc_Rp ro acc →
    (∀ ro, post (nI (acc ++ sc_MT ki lo fi uf us tx t n d i w).length) (cc, nI (acc ++ sc_MT ki lo fi uf us tx t n d i w).length, nI (acc ++ sc_MT ki lo fi uf us tx t n d i w).length, cl, dt, df, pb, lo, uf, us, fi, ki, wt, ef, eb, di, ex, cf, cs, cm, lg, tx, le, sc_cp (sc_at (acc ++ sc_MT ki lo fi uf us tx t n d i w)) 0 (acc ++ sc_MT ki lo fi uf us tx t n d i w).length 0 rr, ro, fm, fL, ee, en, ye, lv, se, pg, ou)) →
    wY_cased_28 post (nI t) 2 (d + 1) w (nI i) cc rl (nI acc.length) cl dt df pb lo uf us fi ki wt ef eb di ex cf cs cm lg tx le rr ro fm fL ee en ye lv se pg ou := by
  intro d
  induction d with
  | zero =>
    intro i w acc ro hi ha hb hr h
    obtain rfl : i = n := by omega
    unfold sc_MT at h hb
    rw [List.append_nil] at h hb
    exact y_c28e ht hn hl hb hr (h ro)
  | succ d ih =>
    intro i w acc ro hi ha hb hr h
    unfold sc_MT at h hb
    refine y_c28 ht htx hn hl (by omega) (fun w' ew => ?_)
    rw [← ew] at h hb
    refine y_c65 (htx _) (fun z => br_f (by decide) (br_f (by decide) (br_t rfl (br_t rfl ?_)))) (fun a b => br_f (by decide) (br_f (by decide) (br_t rfl (br_f (by decide) (br_f (by decide) ?_)))))
    · have z' : w' = 0 ∨ ¬ sc_kd ki tx t i = 4 := z
      rw [if_pos z'] at h hb
      unfold wY_cased_133
      refine y_addLower ht htx hfi hn hl (by omega) (by omega) hr (fun ro1 hr1 => nm_r (nI_1 i) ?_)
      have g := ih (i + 1) w' (acc ++ [sc_lw ki lo fi tx t n i]) ro1 (by omega) (by rw [List.length_append]; show acc.length + 1 + 2 * d ≤ 64; omega)
      rw [List.append_assoc, List.length_append (as := acc) (bs := [sc_lw ki lo fi tx t n i])] at g
      exact g hb hr1 h
    · have z' : ¬ (w' = 0 ∨ ¬ sc_kd ki tx t i = 4) := fun z => z.elim a (fun y => y b)
      rw [if_neg z'] at h hb
      unfold wY_cased_127
      refine y_addUpper0 (htx _) hus (by omega) hr (fun ro1 hr1 => nm_r (nI_1 i) ?_)
      have := sc_uLl uf us (tx (16 * t + i))
      have g := ih (i + 1) 0 (acc ++ sc_uL uf us (tx (16 * t + i))) ro1 (by omega) (by rw [List.length_append]; omega)
      rw [List.append_assoc] at g
      exact g hb hr1 h
end
theorem i_vc_cased {k : Nat} {u : SX} {v : SY} (I : i_Rel k u v) (hk : k + 5 ≤ 2560) (v1 : Int32) (v2 : Int32) : wpX_cased (fun r u' => wpY_cased (fun r' v' => r' = r ∧ i_Rel (k + 5) u' v') v v1 v2) u v1 v2 := by
  obtain ⟨cc, rl, wl, yn, cl, dt, df, ds, ex, lo, uf, us, fi, ki, ef, es, di, we, cf, cs, cm, tx, le, rr, wk, sh, fo, fl, el, ec, ke, kl, em, oe, be, pl, po, pb, wt, eb, lg, ro, fm, fL, ee, en, rfl, rfl, I⟩ := I
  have I0 := I
  obtain ⟨i1, i2, i3, i4, i5, i6, i7, i8, i9, i10, i11, i12, i13, i14, i15, i16, i17⟩ := I
  unfold wpX_cased
  rcases sn_text v1 with ⟨t, ht, rfl⟩ | ⟨h0, h1, h2⟩
  rotate_left
  · refine xs_text0 h2 (br_t rfl ?_)
    unfold wpY_cased
    exact ys_text0 h0 h1 (br_t rfl ⟨rfl, sc_mk I0⟩)
  obtain ⟨n, hn, hl⟩ := i3 t ht
  have bad : ¬ sc_W v2 0 3 → wpY_cased (fun r' v' => r' = -1 ∧ i_Rel (k + 5) (cc, rl, wl, cl, dt, df, ds, ex, lo, uf, us, fi, ki, ef, es, di, we, cf, cs, cm, tx, le, rr, wk, sh, fo, fl, el, ec, ke, kl, em, oe, be, pl, po) v') (cc, rl, yn, cl, dt, df, pb, lo, uf, us, fi, ki, wt, ef, eb, di, ex, cf, cs, cm, lg, tx, le, rr, ro, fm, fL, ee, en, em, pl, be, po, oe) (nI t) v2 := by
    intro z
    unfold wpY_cased
    exact ys_text1 ht (br_f (by decide) (ys_in (fun y => absurd y z) (fun _ => br_t rfl ⟨rfl, sc_mk I0⟩)))
  have fin : ∀ l : List Int32, sc_All l → l.length ≤ 64 → ∀ wk ro, i_Rel (k + 5) (cc, nI l.length, nI l.length, cl, dt, df, ds, ex, lo, uf, us, fi, ki, ef, es, di, we, cf, cs, cm, tx, le, sc_cp (sc_at l) 0 l.length 0 rr, wk, sh, fo, fl, el, ec, ke, kl, em, oe, be, pl, po) (cc, nI l.length, nI l.length, cl, dt, df, pb, lo, uf, us, fi, ki, wt, ef, eb, di, ex, cf, cs, cm, lg, tx, le, sc_cp (sc_at l) 0 l.length 0 rr, ro, fm, fL, ee, en, em, pl, be, po, oe) :=
    fun l n1 n2 wk ro => sc_mk ⟨i1, ⟨_, n2, rfl⟩, i3, i4, sc_cpC (sc_atC n1) _ _ _ _ i5, i6, i7, i8, i9, i10, i11, i12, i13, i14, i15, i16, i17⟩
  refine xs_text1 ht (br_f (by decide) (br_c (fun z => bad (fun y => y.1 z)) (fun z => br_c (fun y => ?_) (fun y => bad (fun w => w.2 (Int32.not_le.mp y))))))
  obtain ⟨f, hf, rfl⟩ := sc_Wn (n := 3) (by omega) (by decide) (⟨z, Int32.not_lt.mpr y⟩ : sc_W v2 0 3)
  have w3 : sc_W (nI f) 0 3 := ⟨z, Int32.not_lt.mpr y⟩
  match f, hf with
  | 0, _ =>
    obtain ⟨n1, n2⟩ := sc_MLp (ki := ki) (tx := tx) i6 i9 t n n 0
    refine br_t rfl ⟨n + 1, x_ML ht i4 hn hl n 0 [] wk (by omega) (by simp; omega) (sc_Rp0 _) (fun wk1 hr1 => x_wbr (by simp; omega) hr1 ?_)⟩
    unfold wpY_cased
    refine ys_text1 ht (br_f (by decide) (ys_in (fun _ => br_f (by decide) ⟨n + 1, ?_⟩) (fun y => absurd w3 y)))
    exact y_ML ht i4 i9 hn hl n 0 1 [] ro (by omega) (by simp; omega) (by simp; omega) (sc_Rp0 _) (Or.inr trivial) (fun ro1 => ⟨rfl, fin _ n1 (by omega) _ _⟩)
  | 1, _ =>
    obtain ⟨n1, n2⟩ := sc_MUp i7 i8 tx t n 0
    refine br_f (by decide) (br_t rfl ⟨n + 1, x_MU ht i4 hn hl n 0 [] wk (by omega) (by simp; omega) (sc_Rp0 _) (fun wk1 hr1 => x_wbr (by simp; omega) hr1 ?_)⟩)
    unfold wpY_cased
    refine ys_text1 ht (br_f (by decide) (ys_in (fun _ => br_f (by decide) ⟨n + 1, ?_⟩) (fun y => absurd w3 y)))
    exact y_MU ht i4 i8 hn hl n 0 1 [] ro (by omega) (by simp; omega) (by simp; omega) (sc_Rp0 _) (fun ro1 => ⟨rfl, fin _ n1 (by omega) _ _⟩)
  | 2, _ =>
    obtain ⟨n1, n2⟩ := sc_MTp (ki := ki) (tx := tx) i6 i9 i7 i8 t n n 0 0
    refine br_f (by decide) (br_f (by decide) (br_t rfl ?_))
    unfold wpX_makeTitle
    refine x_findBreaks ht i4 hn hl ⟨n + 1, x_MT ht i4 hn hl n 0 0 [] wk (by omega) (by simp; omega) (sc_Rp0 _) (fun wk1 hr1 => x_wbr (by simp; omega) hr1 ?_)⟩
    unfold wpY_cased
    refine ys_text1 ht (br_f (by decide) (ys_in (fun _ => br_f (by decide) ⟨n + 1, ?_⟩) (fun y => absurd w3 y)))
    refine y_MT ht i4 i9 i8 hn hl n 0 1 [] ro (by omega) (by simp; omega) (by rw [sc_MT01]; simp; omega) (sc_Rp0 _) (fun ro1 => ?_)
    rw [sc_MT01]
    exact ⟨rfl, fin _ n1 (by omega) _ _⟩
  | 3, _ =>
    obtain ⟨n1, n2⟩ := sc_MUp i7 i8 tx t n 0
    refine br_f (by decide) (br_f (by decide) (br_f (by decide) ?_))
    unfold wpX_makeFolded
    refine ⟨n + 1, x_MU ht i4 hn hl n 0 [] wk (by omega) (by simp; omega) (sc_Rp0 _) (fun wk1 hr1 => ?_)⟩
    have lm : ((sc_MU uf us tx t n 0).map (fun x => lo x.toNatClampNeg)).length = (sc_MU uf us tx t n 0).length := List.length_map ..
    refine ⟨_, x_fold_l (N := (sc_MU uf us tx t n 0).length) (by omega) (sc_MU uf us tx t n 0) [] wk1 (by simp) n1 hr1 (fun wk2 hr2 => ?_)⟩
    unfold wX_cased_67
    rw [← lm]
    refine x_wbr (by omega) hr2 ?_
    unfold wpY_cased
    refine ys_text1 ht (br_f (by decide) (ys_in (fun _ => br_f (by decide) ⟨n + 1, ?_⟩) (fun y => absurd w3 y)))
    exact y_MF ht i4 i7 i8 hn hl n 0 1 [] ro (by omega) (by simp; omega) (by simp; omega) (sc_Rp0 _) (fun ro1 => ⟨rfl, fin _ (sc_mapA i6 _) (by omega) _ _⟩)
end
section
/-! embeddings: the same stores on both sides -/
theorem sc_uu (f : Nat → Int32) (i : Nat) (x y : Int32) : upd (upd f i x) i y = upd f i y := by
  funext j
  unfold upd
  by_cases e : j = i
  · rw [if_pos e, if_pos e]
  · rw [if_neg e, if_neg e, if_neg e]
theorem sc_par {c : Nat} (hc : c < 2 ^ 31) : nI c - nI c / 2 * 2 = nI (c % 2) := pk_rem hc (by decide) (by decide)
theorem sc_par2 {x : Int32} {N : Nat} (hN : N < 2 ^ 31) (h : vp_in x N) : x - x / 2 * 2 = 0 ∨ x - x / 2 * 2 = 1 := by
  obtain ⟨c, hc, rfl⟩ := vp_in_of h hN
  rw [sc_par (by omega)]
  rcases Nat.mod_two_eq_zero_or_one c with e | e
  · rw [e]; exact Or.inl rfl
  · rw [e]; exact Or.inr rfl
def sc_inn (x d : Int32) : Int32 := if x - x / 2 * 2 = 1 then (if d = 4 then x + 2 else x + 1) else (if d = 4 then x + 1 else x + 2)
def sc_in (x d : Int32) : Int32 := if sc_inn x d ≤ 6 then sc_inn x d else x
theorem sc_in7 {x : Int32} (h : vp_in x 7) (d : Int32) : vp_in (sc_in x d) 7 := by
  unfold sc_in
  by_cases z : sc_inn x d ≤ 6
  · rw [if_pos z]
    obtain ⟨c, hc, rfl⟩ := vp_in_of h (by decide)
    have key : ∀ y, y = sc_inn (nI c) d → y ≤ 6 → vp_in y 7 := by
      intro y ey y6
      have : y = nI (c + 1) ∨ y = nI (c + 2) := by
        rw [ey]
        unfold sc_inn
        split <;> split
        · exact Or.inr (nI_add c 2)
        · exact Or.inl (nI_1 c)
        · exact Or.inl (nI_1 c)
        · exact Or.inr (nI_add c 2)
      rcases this with e | e
      · rw [e] at y6 ⊢
        exact vp_in_nI (by have := (nI_leI (b := 6) (by omega) (by decide)).mp y6; omega) (by decide)
      · rw [e] at y6 ⊢
        exact vp_in_nI (by have := (nI_leI (b := 6) (by omega) (by decide)).mp y6; omega) (by decide)
    exact key _ rfl z
  · rw [if_neg z]; exact h
def sc_b3 (d : Int32) : Int32 := if 3 ≤ d then 3 else d
def sc_dr (di tx : Nat → Int32) (t k : Nat) : Int32 := di (tx (16 * t + k)).toNatClampNeg
def sc_eb (dr : Nat → Int32) : Nat → Nat → Int32 → Nat → (Nat → Int32) → (Nat → Int32) → (Nat → Int32) → (Nat → Int32) × (Nat → Int32) × (Nat → Int32)
  | 0, _, _, _, em, be, oe => (em, be, oe)
  | d + 1, i, x, k, em, be, oe =>
    if dr i = 4 ∨ dr i = 5 then sc_eb dr d (i + 1) (sc_in x (dr i)) (k + 1) (upd em i x) (upd be i (sc_b3 (dr i))) (upd oe k x)
    else if dr i = 6 ∧ 0 < k then sc_eb dr d (i + 1) (oe (k - 1)) (k - 1) (upd em i (oe (k - 1))) (upd be i (sc_b3 (dr i))) oe
    else sc_eb dr d (i + 1) x k (upd em i x) (upd be i (sc_b3 (dr i))) oe
theorem sc_b34 {d : Int32} (h : vp_in d 7) : vp_in (sc_b3 d) 4 := by
  obtain ⟨c, hc, rfl⟩ := vp_in_of h (by decide)
  unfold sc_b3
  by_cases z : (3 : Int32) ≤ nI c
  · rw [if_pos z]; exact vp_in_nI (n := 3) (by decide) (by decide)
  · rw [if_neg z]
    have : ¬ 3 ≤ c := fun y => z (nI_le (a := 3) y (by omega))
    exact vp_in_nI (by omega) (by decide)
theorem sc_ebP {dr : Nat → Int32} (hd : ∀ i, vp_in (dr i) 7) {N : Nat} : ∀ d i x k em be oe, i + d = N → vp_in x 7 → (∀ j, j < k → vp_in (oe j) 7) → (∀ j, j < i → vp_in (em j) 7 ∧ vp_in (be j) 4) →
    ∀ j, j < N → vp_in ((sc_eb dr d i x k em be oe).1 j) 7 ∧ vp_in ((sc_eb dr d i x k em be oe).2.1 j) 4 := by
  intro d
  induction d with
  | zero => intro i x k em be oe hi hx ho hj j hjn; exact hj j (by omega)
  | succ d ih =>
    intro i x k em be oe hi hx ho hj
    have stp : ∀ y, vp_in y 7 → ∀ j, j < i + 1 → vp_in (upd em i y j) 7 ∧ vp_in (upd be i (sc_b3 (dr i)) j) 4 := by
      intro y hy j hj1
      by_cases e : j = i
      · rw [e, pk_us, pk_us]; exact ⟨hy, sc_b34 (hd i)⟩
      · rw [pk_un e, pk_un e]; exact hj j (by omega)
    unfold sc_eb
    split
    · refine ih (i + 1) _ (k + 1) _ _ _ (by omega) (sc_in7 hx _) ?_ (stp x hx)
      intro j hjk
      by_cases e : j = k
      · rw [e, pk_us]; exact hx
      · rw [pk_un e]; exact ho j (by omega)
    · split
      · rename_i z
        exact ih (i + 1) _ (k - 1) _ _ _ (by omega) (ho _ (by omega)) (fun j hjk => ho j (by omega)) (stp _ (ho _ (by omega)))
      · exact ih (i + 1) x k _ _ _ (by omega) hx ho (stp x hx)
section
variable {cc rl wl : Int32} {cl dt df ds ex lo uf us fi ki ef es di we cf cs cm tx le rr wk sh fo fl el ec ke kl em oe be pl po : Nat → Int32}
theorem x_inner {post : Int32 → Prop} {x d : Int32} (hx : vp_in x 7) (h : post (sc_in x d)) : wpX_innerEmbedding post (cc, rl, wl, cl, dt, df, ds, ex, lo, uf, us, fi, ki, ef, es, di, we, cf, cs, cm, tx, le, rr, wk, sh, fo, fl, el, ec, ke, kl, em, oe, be, pl, po) x d := by
  have fin : ∀ y, y = sc_inn x d → wX_innerEmbedding_40 post x y cc rl wl cl dt df ds ex lo uf us fi ki ef es di we cf cs cm tx le rr wk sh fo fl el ec ke kl em oe be pl po := by
    intro y ey
    unfold sc_in at h
    rw [← ey] at h
    refine br_c (fun a => ?_) (fun a => ?_)
    · rw [if_pos a] at h; exact h
    · rw [if_neg a] at h; exact h
  unfold wpX_innerEmbedding
  refine br_c (fun a => ⟨by decide, br_c (fun b => br_t rfl (fin _ ?_)) (fun b => br_f (by decide) (fin _ ?_))⟩) (fun a => ⟨by decide, br_c (fun b => br_f (by decide) (fin _ ?_)) (fun b => br_t rfl (fin _ ?_))⟩)
  · unfold sc_inn; rw [if_pos b, if_pos a]
  · unfold sc_inn; rw [if_neg b, if_pos a]
  · unfold sc_inn; rw [if_pos b, if_neg a]
  · unfold sc_inn; rw [if_neg b, if_neg a]
theorem x_emb_l {post : SX → Prop} {t n : Nat} (ht : t < 2) (htx : sc_Chr tx) (hn : n ≤ 16) (hl : le t = nI n) :
    ∀ (d i k : Nat) (x : Int32) (em be oe : Nat → Int32), i + d = n → k ≤ i → vp_in x 7 → (∀ j, j < k → vp_in (oe j) 7) →
    post (cc, rl, wl, cl, dt, df, ds, ex, lo, uf, us, fi, ki, ef, es, di, we, cf, cs, cm, tx, le, rr, wk, sh, fo, fl, el, ec, ke, kl, (sc_eb (sc_dr di tx t) d i x k em be oe).1, (sc_eb (sc_dr di tx t) d i x k em be oe).2.2, (sc_eb (sc_dr di tx t) d i x k em be oe).2.1, pl, po) →
    wX_findEmbeddings_8 post (nI t) cc rl wl (d + 1) x (nI k) (nI i) cl dt df ds ex lo uf us fi ki ef es di we cf cs cm tx le rr wk sh fo fl el ec ke kl em oe be pl po := by
  have hL : le (nI t).toNatClampNeg = nI n := by rw [nI_clamp (by omega), hl]
  intro d
  induction d with
  | zero => exact fun i k x em be oe hi hk hx ho h => ⟨vp_in_nI ht (by decide), br_t (by rw [hL]; exact nI_le (by omega) (by omega)) h⟩
  | succ d ih =>
    intro i k x em be oe hi hk hx ho h
    have e : nI t * 16 + nI i = nI (16 * t + i) := by rw [sn_t16, nI_add]
    have c : (nI t * 16 + nI i).toNatClampNeg = 16 * t + i := by rw [e, nI_clamp (by omega)]
    have ci : (nI i).toNatClampNeg = i := nI_clamp (by omega)
    have ck : (nI k).toNatClampNeg = k := nI_clamp (by omega)
    have vi : vp_in (nI i) 16 := vp_in_nI (by omega) (by decide)
    have step : ∀ z, z = sc_b3 (sc_dr di tx t i) → wX_findEmbeddings_64 post (wX_findEmbeddings_8 post (nI t) cc rl wl (d + 1)) (nI t) x (nI k) (nI i) (sc_dr di tx t i) z (nI i) cc rl wl cl dt df ds ex lo uf us fi ki ef es di we cf cs cm tx le rr wk sh fo fl el ec ke kl (upd em i x) oe be pl po := by
      intro z ez
      have beg : (sc_dr di tx t i = 4 ∨ sc_dr di tx t i = 5) → wX_findEmbeddings_77 post (wX_findEmbeddings_8 post (nI t) cc rl wl (d + 1)) (nI t) x (nI k) (nI i) (sc_dr di tx t i) cc rl wl cl dt df ds ex lo uf us fi ki ef es di we cf cs cm tx le rr wk sh fo fl el ec ke kl (upd em i x) oe (upd be i z) pl po := by
        intro q
        unfold sc_eb at h
        rw [if_pos q, ← ez] at h
        refine ⟨vp_in_nI (by omega) (by decide), nm_r (e' := upd oe k x) (by rw [ck]) (nm_r (nI_1 k) (x_inner hx (nm_r (nI_1 i) (ih (i + 1) (k + 1) _ _ _ _ (by omega) (by omega) (sc_in7 hx _) ?_ h))))⟩
        intro j hj
        by_cases e : j = k
        · rw [e, pk_us]; exact hx
        · rw [pk_un e]; exact ho j (by omega)
      refine ⟨vi, nm_r (e' := upd be i z) (by rw [ci]) (br_c (fun a => beg (Or.inl a)) (fun a => br_c (fun b => beg (Or.inr b)) (fun b => br_c (fun q => ?_) (fun q => ?_))))⟩
      · unfold sc_eb at h
        rw [if_neg (fun w => w.elim a b), ← ez] at h
        cases k with
        | zero =>
          rw [if_neg (fun w => absurd w.2 (by omega))] at h
          exact br_t (by decide) (nm_r (nI_1 i) (ih (i + 1) 0 _ _ _ _ (by omega) (by omega) hx (fun j hj => absurd hj (by omega)) h))
        | succ k =>
          rw [if_pos ⟨q, by omega⟩, Nat.add_sub_cancel] at h
          refine br_f (nI_nle (by omega) (by omega)) (nm_r (pk_m1 k) ⟨vp_in_nI (by omega) (by decide), nm_r (e' := oe k) (by rw [nI_clamp (by omega)]) ⟨vi, nm_r (e' := upd em i (oe k)) (by rw [ci, sc_uu]) (nm_r (nI_1 i) (ih (i + 1) k _ _ _ _ (by omega) (by omega) (ho k (by omega)) (fun j hj => ho j (by omega)) h))⟩⟩)
      · unfold sc_eb at h
        rw [if_neg (fun w => w.elim a b), if_neg (fun w => q w.1), ← ez] at h
        exact nm_r (nI_1 i) (ih (i + 1) k _ _ _ _ (by omega) (by omega) hx ho h)
    refine ⟨vp_in_nI ht (by decide), br_f (by rw [hL]; exact nI_ge (by omega) (by omega)) ⟨pk_in (16 * t + i) 32 (by omega) e, htx _, nm_r (e' := sc_dr di tx t i) (by rw [c]; rfl) ⟨vi, nm_r (e' := upd em i x) (by rw [ci]) (br_c (fun a => step _ ?_) (fun a => step _ ?_))⟩⟩⟩
    · unfold sc_b3; rw [if_pos a]
    · unfold sc_b3; rw [if_neg a]
end
section
variable {cc rl yn : Int32} {cl dt df pb lo uf us fi ki wt ef eb di ex cf cs cm lg tx le rr ro fm fL ee en ye lv se pg ou : Nat → Int32}
theorem sc_six (x : Int32) : (¬ 6 < x) ↔ x ≤ 6 := Int32.not_lt
theorem y_117 {post : SY → Prop} {J : _} {p1 x : Int32} {k i : Nat} {a : Int32} {d : Int32} (e : x + a = sc_inn x d) (h : J (sc_in x d) (nI k) (nI (i + 1)) cl dt df pb lo uf us fi ki wt ef eb di ex cf cs cm lg tx le rr ro fm fL ee en ye lv se pg ou) : wY_embed_117 post J p1 x (nI k) (nI i) a x cc rl yn cl dt df pb lo uf us fi ki wt ef eb di ex cf cs cm lg tx le rr ro fm fL ee en ye lv se pg ou := by
  unfold sc_in at h
  refine nm_r e (br_c (fun q => nm_r (nI_1 i) ?_) (fun q => nm_r (nI_1 i) ?_))
  · rw [if_neg (Int32.not_le.mpr q)] at h; exact h
  · rw [if_pos (Int32.not_lt.mp q)] at h; exact h
theorem y_emb_l {post : SY → Prop} {t n : Nat} (ht : t < 2) (htx : sc_Chr tx) (hdi : ∀ i, vp_in (di i) 7) (hn : n ≤ 16) (hl : le t = nI n) :
    ∀ (d i k : Nat) (x : Int32) (ye se ou : Nat → Int32), i + d = n → k ≤ i → vp_in x 7 → (∀ j, j < k → vp_in (ou j) 7) →
    post (cc, rl, yn, cl, dt, df, pb, lo, uf, us, fi, ki, wt, ef, eb, di, ex, cf, cs, cm, lg, tx, le, rr, ro, fm, fL, ee, en, (sc_eb (sc_dr di tx t) d i x k ye se ou).1, lv, (sc_eb (sc_dr di tx t) d i x k ye se ou).2.1, pg, (sc_eb (sc_dr di tx t) d i x k ye se ou).2.2) →
    wY_embed_8 post (nI t) cc rl yn (d + 1) x (nI k) (nI i) cl dt df pb lo uf us fi ki wt ef eb di ex cf cs cm lg tx le rr ro fm fL ee en ye lv se pg ou := by
  have hL : le (nI t).toNatClampNeg = nI n := by rw [nI_clamp (by omega), hl]
  intro d
  induction d with
  | zero => exact fun i k x ye se ou hi hk hx ho h => ⟨vp_in_nI ht (by decide), br_t (by rw [hL]; exact nI_le (by omega) (by omega)) h⟩
  | succ d ih =>
    intro i k x ye se ou hi hk hx ho h
    have e : 16 * nI t + nI i = nI (16 * t + i) := sn_16 t i
    have c : (16 * nI t + nI i).toNatClampNeg = 16 * t + i := by rw [e, nI_clamp (by omega)]
    have ci : (nI i).toNatClampNeg = i := nI_clamp (by omega)
    have ck : (nI k).toNatClampNeg = k := nI_clamp (by omega)
    have vi : vp_in (nI i) 16 := vp_in_nI (by omega) (by decide)
    -- the stores at one place, for the embedding x' that holds there
    have step : ∀ (x' : Int32) (k' : Nat), (∀ z, z = sc_b3 (sc_dr di tx t i) → wY_embed_77 post (wY_embed_8 post (nI t) cc rl yn (d + 1)) (nI t) x' (nI k') (nI i) (sc_dr di tx t i) z (nI i) cc rl yn cl dt df pb lo uf us fi ki wt ef eb di ex cf cs cm lg tx le rr ro fm fL ee en (upd ye i x') lv se pg ou) → wY_embed_51 post (wY_embed_8 post (nI t) cc rl yn (d + 1)) (nI t) x' (nI k') (nI i) (sc_dr di tx t i) cc rl yn cl dt df pb lo uf us fi ki wt ef eb di ex cf cs cm lg tx le rr ro fm fL ee en ye lv se pg ou := by
      intro x' k' hz
      refine ⟨vi, nm_r (e' := upd ye i x') (by rw [ci]) (br_c (fun a => hz _ ?_) (fun a => hz _ ?_))⟩
      · unfold sc_b3
        by_cases q : 3 ≤ sc_dr di tx t i
        · rw [if_pos q]; exact Int32.le_antisymm a q
        · rw [if_neg q]
      · unfold sc_b3; rw [if_pos (Int32.le_of_lt (Int32.not_le.mp a))]
    refine ⟨vp_in_nI ht (by decide), br_f (by rw [hL]; exact nI_ge (by omega) (by omega)) ⟨pk_in (16 * t + i) 32 (by omega) e, htx _, ?_⟩⟩
    rw [c]
    show (sc_dr di tx t i = 6 → _) ∧ (¬ sc_dr di tx t i = 6 → _)
    unfold sc_eb at h
    refine br_c (fun q => ?_) (fun q => step x k (fun z ez => ?_))
    · have n4 : ¬ sc_dr di tx t i = 4 := by rw [q]; decide
      have n5 : ¬ sc_dr di tx t i = 5 := by rw [q]; decide
      rw [if_neg (fun w => w.elim n4 n5)] at h
      cases k with
      | zero =>
        rw [if_neg (fun w => absurd w.2 (by omega))] at h
        refine br_t (by decide) (step x 0 (fun z ez => ⟨vi, nm_r (e' := upd se i z) (by rw [ci]) (br_f n4 (br_f n5 (nm_r (nI_1 i) (ih (i + 1) 0 _ _ _ _ (by omega) (by omega) hx (fun j hj => absurd hj (by omega)) ?_))))⟩))
        rw [ez]; exact h
      | succ k =>
        rw [if_pos ⟨q, by omega⟩, Nat.add_sub_cancel] at h
        refine br_f (nI_nle (by omega) (by omega)) (nm_r (pk_m1 k) ⟨vp_in_nI (by omega) (by decide), nm_r (e' := ou k) (by rw [nI_clamp (by omega)]) (step (ou k) k (fun z ez => ⟨vi, nm_r (e' := upd se i z) (by rw [ci]) (br_f n4 (br_f n5 (nm_r (nI_1 i) (ih (i + 1) k _ _ _ _ (by omega) (by omega) (ho k (by omega)) (fun j hj => ho j (by omega)) ?_))))⟩))⟩)
        rw [ez]; exact h
    · have beg : (sc_dr di tx t i = 4 ∨ sc_dr di tx t i = 5) → wY_embed_90 post (wY_embed_8 post (nI t) cc rl yn (d + 1)) (nI t) x (nI k) (nI i) (sc_dr di tx t i) cc rl yn cl dt df pb lo uf us fi ki wt ef eb di ex cf cs cm lg tx le rr ro fm fL ee en (upd ye i x) lv (upd se i z) pg ou := by
        intro w
        rw [if_pos w, ← ez] at h
        have ho' : ∀ j, j < k + 1 → vp_in (upd ou k x j) 7 := by
          intro j hj
          by_cases e : j = k
          · rw [e, pk_us]; exact hx
          · rw [pk_un e]; exact ho j (by omega)
        have g := ih (i + 1) (k + 1) (sc_in x (sc_dr di tx t i)) (upd ye i x) (upd se i z) (upd ou k x) (by omega) (by omega) (sc_in7 hx _) ho' h
        refine ⟨vp_in_nI (by omega) (by decide), nm_r (e' := upd ou k x) (by rw [ck]) (nm_r (nI_1 k) ⟨by decide, ?_⟩)⟩
        have pr := sc_par2 (by decide) hx
        rcases w with w | w
        · rw [show sc_dr di tx t i - 4 = 0 by rw [w]; decide]
          refine br_c (fun a => y_117 (d := sc_dr di tx t i) ?_ g) (fun a => y_117 (d := sc_dr di tx t i) ?_ g)
          · unfold sc_inn
            rw [if_neg (by rw [a]; decide), if_pos w]
          · unfold sc_inn
            rw [if_pos (pr.elim (fun z => absurd z a) id), if_pos w]
        · rw [show sc_dr di tx t i - 4 = 1 by rw [w]; decide]
          refine br_c (fun a => y_117 (d := sc_dr di tx t i) ?_ g) (fun a => y_117 (d := sc_dr di tx t i) ?_ g)
          · unfold sc_inn
            rw [if_pos a, if_neg (by rw [w]; decide)]
          · unfold sc_inn
            rw [if_neg a, if_neg (by rw [w]; decide)]
      refine ⟨vi, nm_r (e' := upd se i z) (by rw [ci]) (br_c (fun a => beg (Or.inl a)) (fun a => br_c (fun b => beg (Or.inr b)) (fun b => nm_r (nI_1 i) (ih (i + 1) k _ _ _ _ (by omega) (by omega) hx ho ?_))))⟩
      rw [if_neg (fun w => w.elim a b), if_neg (fun w => q w.1), ← ez] at h
      exact h
end
end
section
/-! one run: numbers, neutrals, levels -/
def sc_pa (x : Int32) : Int32 := if x - x / 2 * 2 = 1 then 1 else 0
def sc_mx (a b : Int32) : Int32 := if a ≤ b then b else a
theorem sc_mxC (a b : Int32) : sc_mx a b = sc_mx b a := by
  unfold sc_mx
  by_cases h : a ≤ b
  · rw [if_pos h]
    by_cases g : b ≤ a
    · rw [if_pos g]; exact Int32.le_antisymm g h
    · rw [if_neg g]
  · rw [if_neg h, if_pos (Int32.le_of_lt (Int32.not_le.mp h))]
theorem sc_pa01 (x : Int32) : sc_pa x = 0 ∨ sc_pa x = 1 := by
  unfold sc_pa
  split
  · exact Or.inr rfl
  · exact Or.inl rfl
def sc_s1 : Nat → Nat → (Nat → Int32) → Int32 → Nat → Int32
  | 0, _, a, _ => a
  | d + 1, i, a, l => if a i = 2 ∧ l = 0 then sc_s1 d (i + 1) (upd a i 0) l else if a i = 0 ∨ a i = 1 then sc_s1 d (i + 1) a (a i) else sc_s1 d (i + 1) a l
theorem sc_s1P {N : Nat} : ∀ d i a l, (∀ j, j < N → vp_in (a j) 4) → ∀ j, j < N → vp_in (sc_s1 d i a l j) 4 := by
  intro d
  induction d with
  | zero => exact fun i a l h => h
  | succ d ih =>
    intro i a l h
    unfold sc_s1
    split
    · refine ih _ _ _ (fun j hj => ?_)
      by_cases e : j = i
      · rw [e, pk_us]; exact sc_in0 4 (by decide)
      · rw [pk_un e]; exact h j hj
    · split
      · exact ih _ _ _ h
      · exact ih _ _ _ h
def sc_ne (a : Nat → Int32) : Nat → Nat → Nat
  | 0, i => i
  | d + 1, i => if a i = 3 then sc_ne a d (i + 1) else i
theorem sc_neR (a : Nat → Int32) : ∀ d i, i ≤ sc_ne a d i ∧ sc_ne a d i ≤ i + d ∧ (sc_ne a d i < i + d → ¬ a (sc_ne a d i) = 3) := by
  intro d
  induction d with
  | zero => exact fun i => ⟨Nat.le_refl _, Nat.le_refl _, fun h => absurd h (Nat.lt_irrefl i)⟩
  | succ d ih =>
    intro i
    unfold sc_ne
    by_cases h : a i = 3
    · rw [if_pos h]
      obtain ⟨p, q, r⟩ := ih (i + 1)
      exact ⟨by omega, by omega, fun z => r (by omega)⟩
    · rw [if_neg h]
      exact ⟨by omega, by omega, fun _ => h⟩
theorem sc_neS {a : Nat → Int32} {d i : Nat} (h : a i = 3) : i < sc_ne a (d + 1) i := by
  unfold sc_ne
  rw [if_pos h]
  have := (sc_neR a d (i + 1)).1
  omega
theorem sc_neN {a : Nat → Int32} {d i : Nat} (h : ¬ a i = 3) : sc_ne a (d + 1) i = i := by
  unfold sc_ne
  rw [if_neg h]
def sc_fi (v : Int32) : Nat → Nat → (Nat → Int32) → Nat → Int32
  | 0, _, a => a
  | d + 1, i, a => sc_fi v d (i + 1) (upd a i v)
theorem sc_fiV (v : Int32) : ∀ d i a j, sc_fi v d i a j = if i ≤ j ∧ j < i + d then v else a j := by
  intro d
  induction d with
  | zero => intro i a j; exact (if_neg (by omega)).symm
  | succ d ih =>
    intro i a j
    show sc_fi v d (i + 1) (upd a i v) j = _
    rw [ih]
    unfold upd
    by_cases h : i + 1 ≤ j ∧ j < i + 1 + d
    · rw [if_pos h, if_pos (by omega)]
    · rw [if_neg h]
      by_cases e : j = i
      · rw [if_pos e, if_pos (by omega)]
      · rw [if_neg e, if_neg (by omega)]
def sc_sd (x : Int32) : Int32 := if x = 2 then 1 else x
def sc_bg (fr : Nat) (bB : Int32) (a : Nat → Int32) (k : Nat) : Int32 := if k = fr then bB else sc_sd (a (k - 1))
def sc_bh (to : Nat) (bE : Int32) (a : Nat → Int32) (j : Nat) : Int32 := if j = to then bE else sc_sd (a j)
def sc_dv (x y own : Int32) : Int32 := if x = y then x else sc_pa own
def sc_nt (fr to : Nat) (own bB bE : Int32) : Nat → Nat → (Nat → Int32) → Nat → Int32
  | 0, _, a => a
  | f + 1, k, a => if to ≤ k then a else sc_nt fr to own bB bE f (sc_ne a (to - k) k + 1) (sc_fi (sc_dv (sc_bg fr bB a k) (sc_bh to bE a (sc_ne a (to - k) k)) own) (sc_ne a (to - k) k - k) k a)
theorem sc_34 {x : Int32} (h : vp_in x 4) (h3 : ¬ x = 3) : vp_in x 3 := by
  obtain ⟨c, hc, rfl⟩ := vp_in_of h (by decide)
  have : ¬ c = 3 := fun e => h3 (by rw [e]; rfl)
  exact vp_in_nI (by omega) (by decide)
theorem sc_43 {x : Int32} (h : vp_in x 3) : vp_in x 4 ∧ ¬ x = 3 := by
  obtain ⟨c, hc, rfl⟩ := vp_in_of h (by decide)
  exact ⟨vp_in_nI (by omega) (by decide), fun e => by have := (nI_eq (b := 3) (by omega) (by decide)).mp e; omega⟩
theorem sc_012 {x : Int32} (h : vp_in x 3) : x = 0 ∨ x = 1 ∨ x = 2 := by
  obtain ⟨c, hc, rfl⟩ := vp_in_of h (by decide)
  match c, hc with
  | 0, _ => exact Or.inl rfl
  | 1, _ => exact Or.inr (Or.inl rfl)
  | 2, _ => exact Or.inr (Or.inr rfl)
  | n + 3, h => exact absurd h (by omega)
theorem sc_sd01 {x : Int32} (h : vp_in x 3) : sc_sd x = 0 ∨ sc_sd x = 1 := by
  unfold sc_sd
  rcases sc_012 h with e | e | e
  · rw [e]; exact Or.inl rfl
  · rw [e]; exact Or.inr rfl
  · rw [e]; exact Or.inr rfl
theorem sc_01v {x : Int32} (h : x = 0 ∨ x = 1) : vp_in x 3 := by
  rcases h with e | e
  · rw [e]; exact sc_in0 3 (by decide)
  · rw [e]; exact vp_in_nI (n := 1) (by decide) (by decide)
theorem sc_bg01 {fr k : Nat} {bB : Int32} {a : Nat → Int32} (hB : bB = 0 ∨ bB = 1) (hk : ¬ k = fr → vp_in (a (k - 1)) 3) : sc_bg fr bB a k = 0 ∨ sc_bg fr bB a k = 1 := by
  unfold sc_bg
  by_cases e : k = fr
  · rw [if_pos e]; exact hB
  · rw [if_neg e]; exact sc_sd01 (hk e)
theorem sc_dv01 {x y own : Int32} (hx : x = 0 ∨ x = 1) : sc_dv x y own = 0 ∨ sc_dv x y own = 1 := by
  unfold sc_dv
  by_cases e : x = y
  · rw [if_pos e]; exact hx
  · rw [if_neg e]; exact sc_pa01 own
theorem sc_ntP {fr to N : Nat} {own bB bE : Int32} (hB : bB = 0 ∨ bB = 1) (hN : to ≤ N) : ∀ f k a, fr ≤ k → to + 1 ≤ f + k → (∀ j, j < N → vp_in (a j) 4) → (∀ j, fr ≤ j → j < k → j < to → vp_in (a j) 3) →
    (k ≤ to + 1) → (∀ j, j < N → vp_in (sc_nt fr to own bB bE f k a j) 4) ∧ (∀ j, fr ≤ j → j < to → vp_in (sc_nt fr to own bB bE f k a j) 3) := by
  intro f
  induction f with
  | zero => intro k a hk hf h4 h3 hk2; exact ⟨h4, fun j h1 h2 => h3 j h1 (by omega) h2⟩
  | succ f ih =>
    intro k a hk hf h4 h3 hk2
    unfold sc_nt
    by_cases e : to ≤ k
    · rw [if_pos e]; exact ⟨h4, fun j h1 h2 => h3 j h1 (by omega) h2⟩
    · rw [if_neg e]
      obtain ⟨n1, n2, n3⟩ := sc_neR a (to - k) k
      have d01 := sc_dv01 (y := sc_bh to bE a (sc_ne a (to - k) k)) (own := own) (sc_bg01 (fr := fr) (a := a) hB (fun z => h3 (k - 1) (by omega) (by omega) (by omega)))
      refine ih _ _ (by omega) (by omega) (fun j hj => ?_) (fun j h1 h2 h5 => ?_) (by omega)
      · rw [sc_fiV]
        split
        · exact (sc_43 (sc_01v d01)).1
        · exact h4 j hj
      · rw [sc_fiV]
        split
        · exact sc_01v d01
        · rename_i z
          by_cases e1 : j < k
          · exact h3 j h1 e1 h5
          · have : j = sc_ne a (to - k) k := by omega
            rw [this]
            exact sc_34 (h4 _ (by omega)) (n3 (by omega))
def sc_lf (own b : Int32) : Int32 := if own - own / 2 * 2 = 1 then (if b = 1 then own else own + 1) else (if b = 2 then own + 2 else if b = 1 then own + 1 else own)
def sc_lv (own : Int32) (be : Nat → Int32) : Nat → Nat → (Nat → Int32) → Nat → Int32
  | 0, _, pl => pl
  | d + 1, i, pl => sc_lv own be d (i + 1) (upd pl i (sc_lf own (be i)))
theorem sc_lf9 {own b : Int32} (h : vp_in own 7) : vp_in (sc_lf own b) 9 := by
  obtain ⟨c, hc, rfl⟩ := vp_in_of h (by decide)
  have e1 : nI c + 1 = nI (c + 1) := nI_1 c
  have e2 : nI c + 2 = nI (c + 2) := nI_add c 2
  unfold sc_lf
  rw [e1, e2]
  split <;> split
  · exact vp_in_nI (by omega) (by decide)
  · exact vp_in_nI (by omega) (by decide)
  · exact vp_in_nI (by omega) (by decide)
  · split
    · exact vp_in_nI (by omega) (by decide)
    · exact vp_in_nI (by omega) (by decide)
theorem sc_lvP {own : Int32} (ho : vp_in own 7) (be : Nat → Int32) : ∀ d i pl, (∀ j, j < i → vp_in (pl j) 9) → ∀ j, j < i + d → vp_in (sc_lv own be d i pl j) 9 := by
  intro d
  induction d with
  | zero => intro i pl h j hj; exact h j (by omega)
  | succ d ih =>
    intro i pl h j hj
    refine ih (i + 1) _ (fun q hq => ?_) j (by omega)
    by_cases e : q = i
    · rw [e, pk_us]; exact sc_lf9 ho
    · rw [pk_un e]; exact h q (by omega)
section
variable {cc rl wl : Int32} {cl dt df ds ex lo uf us fi ki ef es di we cf cs cm tx le rr wk sh fo fl el ec ke kl em oe be pl po : Nat → Int32}
theorem x_bearing {post : Int32 → Prop} {x : Int32} (h : post (sc_pa x)) : wpX_bearingOf post (cc, rl, wl, cl, dt, df, ds, ex, lo, uf, us, fi, ki, ef, es, di, we, cf, cs, cm, tx, le, rr, wk, sh, fo, fl, el, ec, ke, kl, em, oe, be, pl, po) x := by
  unfold sc_pa at h
  refine ⟨by decide, br_c (fun a => ?_) (fun a => ?_)⟩
  · rw [if_pos a] at h; exact h
  · rw [if_neg a] at h; exact h
theorem x_side {post : Int32 → Prop} {x : Int32} (h : post (sc_sd x)) : wpX_asSide post (cc, rl, wl, cl, dt, df, ds, ex, lo, uf, us, fi, ki, ef, es, di, we, cf, cs, cm, tx, le, rr, wk, sh, fo, fl, el, ec, ke, kl, em, oe, be, pl, po) x := by
  unfold sc_sd at h
  refine br_c (fun a => ?_) (fun a => ?_)
  · rw [if_pos a] at h; exact h
  · rw [if_neg a] at h; exact h
theorem x_s1_l {post : SX → Prop} {e : Nat} (he : e ≤ 16) : ∀ (d i : Nat) (l : Int32) (be : Nat → Int32), i + d = e → post (cc, rl, wl, cl, dt, df, ds, ex, lo, uf, us, fi, ki, ef, es, di, we, cf, cs, cm, tx, le, rr, wk, sh, fo, fl, el, ec, ke, kl, em, oe, sc_s1 d i be l, pl, po) → wX_settleNumbers_6 post (nI e) cc rl wl (d + 1) l (nI i) cl dt df ds ex lo uf us fi ki ef es di we cf cs cm tx le rr wk sh fo fl el ec ke kl em oe be pl po := by
  intro d
  induction d with
  | zero => exact fun i l be hi h => br_t (nI_le (by omega) (by omega)) h
  | succ d ih =>
    intro i l be hi h
    have v : vp_in (nI i) 16 := vp_in_nI (by omega) (by decide)
    have c : (nI i).toNatClampNeg = i := nI_clamp (by omega)
    unfold sc_s1 at h
    have rest : ¬ (be i = 2 ∧ l = 0) → wX_settleNumbers_39 post (wX_settleNumbers_6 post (nI e) cc rl wl (d + 1)) (nI e) l (nI i) cc rl wl cl dt df ds ex lo uf us fi ki ef es di we cf cs cm tx le rr wk sh fo fl el ec ke kl em oe be pl po := by
      intro z
      rw [if_neg z] at h
      unfold wX_settleNumbers_39
      rw [c]
      refine ⟨v, br_c (fun a => ⟨v, nm_e (nm_r (nI_1 i) (ih (i + 1) _ be (by omega) ?_))⟩) (fun a => ⟨v, br_c (fun b => ⟨v, nm_e (nm_r (nI_1 i) (ih (i + 1) _ be (by omega) ?_))⟩) (fun b => nm_r (nI_1 i) (ih (i + 1) l be (by omega) ?_))⟩)⟩
      · rw [if_pos (Or.inl a)] at h; exact h
      · rw [if_pos (Or.inr b)] at h; exact h
      · rw [if_neg (fun w => w.elim a b)] at h; exact h
    refine br_f (nI_ge (by omega) (by omega)) ⟨v, br_c (fun a => br_c (fun b => ⟨v, nm_r (e' := upd be i 0) (by rw [c]) (nm_r (nI_1 i) (ih (i + 1) l _ (by omega) ?_))⟩) (fun b => rest (fun z => b z.2))) (fun a => rest (fun z => a (by rw [c]; exact z.1)))⟩
    rw [c] at a
    rw [if_pos ⟨a, b⟩] at h; exact h
theorem x_ne_l {post : Int32 → Prop} {e : Nat} (he : e ≤ 16) : ∀ d i, i + d = e → post (nI (sc_ne be d i)) → wX_neutralRowEnd_2 post (nI e) cc rl wl cl dt df ds ex lo uf us fi ki ef es di we cf cs cm tx le rr wk sh fo fl el ec ke kl em oe be pl po (d + 1) (nI i) := by
  intro d
  induction d with
  | zero =>
    intro i hi h
    obtain rfl : i = e := by omega
    exact br_t (nI_le (by omega) (by omega)) h
  | succ d ih =>
    intro i hi h
    have c : (nI i).toNatClampNeg = i := nI_clamp (by omega)
    unfold sc_ne at h
    refine br_f (nI_ge (by omega) (by omega)) ⟨vp_in_nI (by omega) (by decide), ?_⟩
    rw [c]
    refine br_c (fun a => nm_r (nI_1 i) (ih (i + 1) (by omega) ?_)) (fun a => ?_)
    · rw [if_pos a] at h; exact h
    · rw [if_neg a] at h; exact h
theorem x_fill_l {post : SX → Prop} {J : _} {p2 p4 v : Int32} {k j : Nat} (hj : j ≤ 16) : ∀ (d i : Nat) (be : Nat → Int32), i + d = j →
    wX_settleNeutrals_107 post J p2 p4 (nI k) cc rl wl cl dt df ds ex lo uf us fi ki ef es di we cf cs cm tx le rr wk sh fo fl el ec ke kl em oe (sc_fi v d i be) pl po → wX_settleNeutrals_85 post J p2 p4 (nI k) (nI j) v cc rl wl (d + 1) (nI i) cl dt df ds ex lo uf us fi ki ef es di we cf cs cm tx le rr wk sh fo fl el ec ke kl em oe be pl po := by
  intro d
  induction d with
  | zero => exact fun i be hi h => br_t (nI_le (by omega) (by omega)) h
  | succ d ih => exact fun i be hi h => br_f (nI_ge (by omega) (by omega)) ⟨vp_in_nI (by omega) (by decide), nm_r (e' := upd be i v) (by rw [nI_clamp (by omega)]) (nm_r (nI_1 i) (ih (i + 1) _ (by omega) h))⟩
theorem x_107 {post : SX → Prop} {J : _} {p2 p4 : Int32} {k : Nat} (hk : k < 16) (h : J (sc_sd (be k)) (nI (k + 1)) cl dt df ds ex lo uf us fi ki ef es di we cf cs cm tx le rr wk sh fo fl el ec ke kl em oe be pl po) : wX_settleNeutrals_107 post J p2 p4 (nI k) cc rl wl cl dt df ds ex lo uf us fi ki ef es di we cf cs cm tx le rr wk sh fo fl el ec ke kl em oe be pl po := by
  refine ⟨vp_in_nI hk (by decide), ?_⟩
  rw [nI_clamp (by omega)]
  exact x_side (nm_r (nI_1 k) h)
theorem x_skip {post : SX → Prop} {e m : Nat} {bE : Int32} (he : e ≤ 16) (hm : m ≤ e) (h : ∀ n, e < n + m → wX_settleNeutrals_6 post (nI e) bE cc rl wl n (sc_sd (be (m - 1))) (nI m) cl dt df ds ex lo uf us fi ki ef es di we cf cs cm tx le rr wk sh fo fl el ec ke kl em oe be pl po) :
    ∀ d i n, i + 1 + d = m → (∀ j, i < j → j < m → ¬ be j = 3) → e < n + (i + 1) → wX_settleNeutrals_6 post (nI e) bE cc rl wl n (sc_sd (be i)) (nI (i + 1)) cl dt df ds ex lo uf us fi ki ef es di we cf cs cm tx le rr wk sh fo fl el ec ke kl em oe be pl po := by
  intro d
  induction d with
  | zero =>
    intro i n hi hne hn
    obtain rfl : m = i + 1 := by omega
    exact h n hn
  | succ d ih =>
    intro i n hi hne hn
    obtain ⟨n, rfl⟩ : ∃ q, n = q + 1 := ⟨n - 1, by omega⟩
    have c : (nI (i + 1)).toNatClampNeg = i + 1 := nI_clamp (by omega)
    refine br_f (nI_ge (by omega) (by omega)) ⟨vp_in_nI (by omega) (by decide), br_f ?_ (x_107 (by omega) (ih (i + 1) n (by omega) (fun j a b => hne j (by omega) b) (by omega)))⟩
    rw [c]; exact hne (i + 1) (by omega) (by omega)
theorem x_nt_l {post : SX → Prop} {fr e : Nat} {own bB bE : Int32} (he : e ≤ 16) (hB : bB = 0 ∨ bB = 1) (hem : ∀ j, fr ≤ j → j < e → em j = own) :
    ∀ (f k : Nat) (be : Nat → Int32), fr ≤ k → k ≤ e → e + 1 ≤ f + k → (∀ j, j < e → vp_in (be j) 4) → (¬ k = fr → vp_in (be (k - 1)) 3) →
    post (cc, rl, wl, cl, dt, df, ds, ex, lo, uf, us, fi, ki, ef, es, di, we, cf, cs, cm, tx, le, rr, wk, sh, fo, fl, el, ec, ke, kl, em, oe, sc_nt fr e own bB bE f k be, pl, po) → ∀ n, e < n + k → wX_settleNeutrals_6 post (nI e) bE cc rl wl n (sc_bg fr bB be k) (nI k) cl dt df ds ex lo uf us fi ki ef es di we cf cs cm tx le rr wk sh fo fl el ec ke kl em oe be pl po := by
  intro f
  induction f with
  | zero => intro k be hk hk2 hf; omega
  | succ f ih =>
    intro k be hk hk2 hf h4 h3 h n hn
    obtain ⟨n, rfl⟩ : ∃ q, n = q + 1 := ⟨n - 1, by omega⟩
    unfold sc_nt at h
    by_cases ek : e ≤ k
    · rw [if_pos ek] at h
      exact br_t (nI_le ek (by omega)) h
    · rw [if_neg ek] at h
      have c : (nI k).toNatClampNeg = k := nI_clamp (by omega)
      refine br_f (nI_ge (by omega) (by omega)) ⟨vp_in_nI (by omega) (by decide), ?_⟩
      rw [c]
      obtain ⟨d, hd⟩ : ∃ d, e - k = d + 1 := ⟨e - k - 1, by omega⟩
      refine br_c (fun a => ?_) (fun a => ?_)
      · have n0 := sc_neS (d := d) a
        obtain ⟨n1, n2, n3⟩ := sc_neR be (e - k) k
        rw [← hd] at n0
        generalize hj : sc_ne be (e - k) k = j at h n0 n1 n2 n3
        have d01 := sc_dv01 (y := sc_bh e bE be j) (own := own) (sc_bg01 (fr := fr) (a := be) hB h3)
        have main : wX_settleNeutrals_54 post (wX_settleNeutrals_6 post (nI e) bE cc rl wl n) (nI e) bE (sc_bg fr bB be k) (nI k) (nI j) (sc_bh e bE be j) cc rl wl cl dt df ds ex lo uf us fi ki ef es di we cf cs cm tx le rr wk sh fo fl el ec ke kl em oe be pl po := by
          have go : ∀ v, v = sc_dv (sc_bg fr bB be k) (sc_bh e bE be j) own → ∃ n85, wX_settleNeutrals_85 post (wX_settleNeutrals_6 post (nI e) bE cc rl wl n) (nI e) bE (nI k) (nI j) v cc rl wl n85 (nI k) cl dt df ds ex lo uf us fi ki ef es di we cf cs cm tx le rr wk sh fo fl el ec ke kl em oe be pl po := by
            intro v ev
            rw [← ev] at h d01
            have fv : ∀ i, sc_fi v (j - k) k be i = if k ≤ i ∧ i < j then v else be i := by
              intro i; rw [sc_fiV, show k + (j - k) = j by omega]
            have v3 : ¬ v = 3 := (sc_43 (sc_01v d01)).2
            refine ⟨j - k + 1, x_fill_l (by omega) (j - k) k be (by omega) (x_107 (by omega) ?_)⟩
            by_cases ej : j < e
            · refine x_skip (m := j + 1) he (by omega) (fun n' hn' => ?_) (j - k) k n (by omega) (fun i h1 h2 => ?_) (by omega)
              · have g := ih (j + 1) (sc_fi v (j - k) k be) (by omega) (by omega) (by omega) (fun i hi => ?_) (fun _ => ?_) h n' hn'
                · have eb : sc_bg fr bB (sc_fi v (j - k) k be) (j + 1) = sc_sd (sc_fi v (j - k) k be (j + 1 - 1)) := if_neg (by omega)
                  rw [eb] at g; exact g
                · rw [fv]
                  split
                  · exact (sc_43 (sc_01v d01)).1
                  · exact h4 i hi
                · rw [Nat.add_sub_cancel, fv, if_neg (by omega)]
                  exact sc_34 (h4 j ej) (n3 (by omega))
              · rw [fv]
                split
                · exact v3
                · have : i = j := by omega
                  rw [this]; exact n3 (by omega)
            · refine x_skip (m := e) he (by omega) (fun n' hn' => ?_) (e - (k + 1)) k n (by omega) (fun i h1 h2 => ?_) (by omega)
              · obtain ⟨n', rfl⟩ : ∃ q, n' = q + 1 := ⟨n' - 1, by omega⟩
                refine br_t (nI_le (by omega) (by omega)) ?_
                have en : sc_nt fr e own bB bE f (j + 1) (sc_fi v (j - k) k be) = sc_fi v (j - k) k be := by
                  cases f with
                  | zero => rfl
                  | succ f => unfold sc_nt; exact if_pos (by omega)
                rw [en] at h; exact h
              · rw [fv, if_pos (by omega)]; exact v3
          refine br_c (fun q => go _ ?_) (fun q => ⟨vp_in_nI (by omega) (by decide), ?_⟩)
          · unfold sc_dv; rw [if_pos q]
          · rw [c, hem k (by omega) (by omega)]
            refine x_bearing (go _ ?_)
            unfold sc_dv; rw [if_neg q]
        refine ⟨e - k + 1, x_ne_l he (e - k) k (by omega) ?_⟩
        rw [hj]
        unfold sc_bh at main
        by_cases ej : j = e
        · rw [if_pos ej] at main
          exact br_t (nI_le (by omega) (by omega)) main
        · rw [if_neg ej] at main
          refine br_f (nI_ge (by omega) (by omega)) ⟨vp_in_nI (by omega) (by decide), ?_⟩
          rw [nI_clamp (by omega)]
          exact x_side main
      · have e1 : sc_ne be (e - k) k = k := by rw [hd]; exact sc_neN a
        rw [e1, Nat.sub_self] at h
        refine x_107 (by omega) ?_
        have g := ih (k + 1) be (by omega) (by omega) (by omega) h4 (fun _ => by rw [Nat.add_sub_cancel]; exact sc_34 (h4 k (by omega)) a) h n (by omega)
        have eb : sc_bg fr bB be (k + 1) = sc_sd (be (k + 1 - 1)) := if_neg (by omega)
        rw [eb, Nat.add_sub_cancel] at g
        exact g
theorem x_lf {post : Int32 → Prop} {own b : Int32} (h : post (sc_lf own b)) : wpX_levelFor post (cc, rl, wl, cl, dt, df, ds, ex, lo, uf, us, fi, ki, ef, es, di, we, cf, cs, cm, tx, le, rr, wk, sh, fo, fl, el, ec, ke, kl, em, oe, be, pl, po) own b := by
  unfold sc_lf at h
  refine ⟨by decide, br_c (fun a => br_c (fun q => ?_) (fun q => ?_)) (fun a => br_c (fun q => ?_) (fun q => br_c (fun r => ?_) (fun r => ?_)))⟩
  · rw [if_pos a, if_pos q] at h; exact h
  · rw [if_pos a, if_neg q] at h; exact h
  · rw [if_neg a, if_pos q] at h; exact h
  · rw [if_neg a, if_neg q, if_pos r] at h; exact h
  · rw [if_neg a, if_neg q, if_neg r] at h; exact h
theorem x_lv_l {post : SX → Prop} {e : Nat} {own : Int32} (he : e ≤ 16) : ∀ (d i : Nat) (pl : Nat → Int32), i + d = e → post (cc, rl, wl, cl, dt, df, ds, ex, lo, uf, us, fi, ki, ef, es, di, we, cf, cs, cm, tx, le, rr, wk, sh, fo, fl, el, ec, ke, kl, em, oe, be, sc_lv own be d i pl, po) → wX_findRunLevels_106 post (nI e) own cc rl wl (d + 1) (nI i) cl dt df ds ex lo uf us fi ki ef es di we cf cs cm tx le rr wk sh fo fl el ec ke kl em oe be pl po := by
  intro d
  induction d with
  | zero => exact fun i pl hi h => br_t (nI_le (by omega) (by omega)) h
  | succ d ih =>
    intro i pl hi h
    have v : vp_in (nI i) 16 := vp_in_nI (by omega) (by decide)
    refine br_f (nI_ge (by omega) (by omega)) ⟨v, x_lf ⟨v, nm_r (e' := upd pl i (sc_lf own (be i))) ?_ (nm_r (nI_1 i) (ih (i + 1) _ (by omega) h))⟩⟩
    rw [nI_clamp (by omega)]
end
section
variable {cc rl yn : Int32} {cl dt df pb lo uf us fi ki wt ef eb di ex cf cs cm lg tx le rr ro fm fL ee en ye lv se pg ou : Nat → Int32}
theorem y_strong {post : Int32 → Prop} {x : Int32} (h : post (sc_sd x)) : wpY_strong post (cc, rl, yn, cl, dt, df, pb, lo, uf, us, fi, ki, wt, ef, eb, di, ex, cf, cs, cm, lg, tx, le, rr, ro, fm, fL, ee, en, ye, lv, se, pg, ou) x := by
  unfold sc_sd at h
  refine br_c (fun a => ?_) (fun a => ?_)
  · rw [if_pos a] at h; exact h
  · rw [if_neg a] at h; exact h
theorem y_edge27 {post : Int32 → Prop} {x y : Int32} (h : post (sc_pa (sc_mx x y))) : wY_edge_27 post x y cc rl yn cl dt df pb lo uf us fi ki wt ef eb di ex cf cs cm lg tx le rr ro fm fL ee en ye lv se pg ou := by
  unfold sc_mx at h
  refine br_c (fun a => ⟨by decide, ?_⟩) (fun a => ⟨by decide, ?_⟩)
  · rw [if_pos a] at h
    unfold sc_pa at h
    refine br_c (fun a => ?_) (fun a => ?_)
    · rw [if_pos a] at h; exact h
    · rw [if_neg a] at h; exact h
  · rw [if_neg a] at h
    unfold sc_pa at h
    refine br_c (fun a => ?_) (fun a => ?_)
    · rw [if_pos a] at h; exact h
    · rw [if_neg a] at h; exact h
theorem y_s1_l {post : SY → Prop} {s e : Nat} {own bB bE : Int32} (he : e ≤ 16) : ∀ (d i : Nat) (l : Int32) (se : Nat → Int32), i + d = e →
    (∃ n110, wY_resolve_110 post (nI s) (nI e) own bB bE cc rl yn n110 (nI s) cl dt df pb lo uf us fi ki wt ef eb di ex cf cs cm lg tx le rr ro fm fL ee en ye lv (sc_s1 d i se l) pg ou) → wY_resolve_40 post (nI s) (nI e) own bB bE cc rl yn (d + 1) l (nI i) cl dt df pb lo uf us fi ki wt ef eb di ex cf cs cm lg tx le rr ro fm fL ee en ye lv se pg ou := by
  intro d
  induction d with
  | zero => exact fun i l se hi h => br_t (nI_le (by omega) (by omega)) h
  | succ d ih =>
    intro i l se hi h
    have v : vp_in (nI i) 16 := vp_in_nI (by omega) (by decide)
    have c : (nI i).toNatClampNeg = i := nI_clamp (by omega)
    unfold sc_s1 at h
    refine br_f (nI_ge (by omega) (by omega)) ⟨v, ?_⟩
    rw [c]
    have lr : (se i = 0 ∨ se i = 1) → wY_resolve_68 post (wY_resolve_40 post (nI s) (nI e) own bB bE cc rl yn (d + 1)) (nI s) (nI e) own bB bE (nI i) cc rl yn cl dt df pb lo uf us fi ki wt ef eb di ex cf cs cm lg tx le rr ro fm fL ee en ye lv se pg ou := by
      intro z
      have n2 : ¬ se i = 2 := z.elim (fun w => by rw [w]; decide) (fun w => by rw [w]; decide)
      rw [if_neg (fun w => n2 w.1), if_pos z] at h
      unfold wY_resolve_68 wY_resolve_77
      rw [c]
      exact ⟨v, nm_e ⟨v, br_f n2 (nm_r (nI_1 i) (ih (i + 1) _ se (by omega) h))⟩⟩
    refine br_c (fun a => lr (Or.inl a)) (fun a => ⟨v, br_c (fun b => lr (Or.inr b)) (fun b => ?_)⟩)
    unfold wY_resolve_77
    rw [c]
    refine ⟨v, br_c (fun q => br_c (fun r => ⟨v, nm_e (nm_r (nI_1 i) (ih (i + 1) l _ (by omega) ?_))⟩) (fun r => nm_r (nI_1 i) (ih (i + 1) l se (by omega) ?_))) (fun q => nm_r (nI_1 i) (ih (i + 1) l se (by omega) ?_))⟩
    · rw [if_pos ⟨q, r⟩] at h; exact h
    · rw [if_neg (fun w => r w.2), if_neg (fun w => w.elim a b)] at h; exact h
    · rw [if_neg (fun w => q w.1), if_neg (fun w => w.elim a b)] at h; exact h
theorem y_fill_l {post : SY → Prop} {J : _} {p3 p4 p5 p6 p7 v : Int32} {j : Nat} (hj : j ≤ 16) : ∀ (d i : Nat) (se : Nat → Int32), i + d = j →
    J (nI (j + 1)) cl dt df pb lo uf us fi ki wt ef eb di ex cf cs cm lg tx le rr ro fm fL ee en ye lv (sc_fi v d i se) pg ou → wY_resolve_223 post J p3 p4 p5 p6 p7 (nI j) v cc rl yn (d + 1) (nI i) cl dt df pb lo uf us fi ki wt ef eb di ex cf cs cm lg tx le rr ro fm fL ee en ye lv se pg ou := by
  intro d
  induction d with
  | zero =>
    intro i se hi h
    obtain rfl : i = j := by omega
    exact br_t (nI_le (by omega) (by omega)) (nm_r (nI_1 i) h)
  | succ d ih => exact fun i se hi h => br_f (nI_ge (by omega) (by omega)) ⟨vp_in_nI (by omega) (by decide), nm_r (e' := upd se i v) (by rw [nI_clamp (by omega)]) (nm_r (nI_1 i) (ih (i + 1) _ (by omega) h))⟩
theorem y_ne_l {post : SY → Prop} {J : _} {p3 p5 p6 p7 p9 : Int32} {e : Nat} (he : e ≤ 16) : ∀ d i, i + d = e →
    wY_resolve_145 post J p3 (nI e) p5 p6 p7 p9 (nI (sc_ne se d i)) cc rl yn cl dt df pb lo uf us fi ki wt ef eb di ex cf cs cm lg tx le rr ro fm fL ee en ye lv se pg ou → wY_resolve_121 post J p3 (nI e) p5 p6 p7 p9 cc rl yn cl dt df pb lo uf us fi ki wt ef eb di ex cf cs cm lg tx le rr ro fm fL ee en ye lv se pg ou (d + 1) (nI i) := by
  intro d
  induction d with
  | zero => exact fun i hi h => br_t (nI_le (by omega) (by omega)) h
  | succ d ih =>
    intro i hi h
    have c : (nI i).toNatClampNeg = i := nI_clamp (by omega)
    unfold sc_ne at h
    refine br_f (nI_ge (by omega) (by omega)) ⟨vp_in_nI (by omega) (by decide), ?_⟩
    rw [c]
    refine br_c (fun a => nm_r (nI_1 i) (ih (i + 1) (by omega) ?_)) (fun a => ?_)
    · rw [if_pos a] at h; exact h
    · rw [if_neg a] at h; exact h
theorem y_nt_l {post : SY → Prop} {fr e : Nat} {own bB bE : Int32} (he : e ≤ 16) :
    ∀ (f k : Nat) (se : Nat → Int32), fr ≤ k → k ≤ e + 1 → e + 2 ≤ f + k →
    (∃ n254, wY_resolve_254 post (nI e) own cc rl yn n254 (nI fr) cl dt df pb lo uf us fi ki wt ef eb di ex cf cs cm lg tx le rr ro fm fL ee en ye lv (sc_nt fr e own bB bE f k se) pg ou) → wY_resolve_110 post (nI fr) (nI e) own bB bE cc rl yn f (nI k) cl dt df pb lo uf us fi ki wt ef eb di ex cf cs cm lg tx le rr ro fm fL ee en ye lv se pg ou := by
  intro f
  induction f with
  | zero => intro k se hk hk2 hf; omega
  | succ f ih =>
    intro k se hk hk2 hf h
    unfold sc_nt at h
    by_cases ek : e ≤ k
    · rw [if_pos ek] at h
      exact br_t (nI_le ek (by omega)) h
    · rw [if_neg ek] at h
      obtain ⟨n1, n2, n3⟩ := sc_neR se (e - k) k
      refine br_f (nI_ge (by omega) (by omega)) ⟨e - k + 1, y_ne_l he (e - k) k (by omega) ?_⟩
      generalize hj : sc_ne se (e - k) k = j at h n1 n2 n3
      have main : wY_resolve_194 post (wY_resolve_110 post (nI fr) (nI e) own bB bE cc rl yn f) (nI fr) (nI e) own bB bE (nI k) (nI j) (sc_bg fr bB se k) (sc_bh e bE se j) cc rl yn cl dt df pb lo uf us fi ki wt ef eb di ex cf cs cm lg tx le rr ro fm fL ee en ye lv se pg ou := by
        have go : ∀ v, v = sc_dv (sc_bg fr bB se k) (sc_bh e bE se j) own → ∃ n223, wY_resolve_223 post (wY_resolve_110 post (nI fr) (nI e) own bB bE cc rl yn f) (nI fr) (nI e) own bB bE (nI j) v cc rl yn n223 (nI k) cl dt df pb lo uf us fi ki wt ef eb di ex cf cs cm lg tx le rr ro fm fL ee en ye lv se pg ou := by
          intro v ev
          rw [← ev] at h
          exact ⟨j - k + 1, y_fill_l (by omega) (j - k) k se (by omega) (ih (j + 1) _ (by omega) (by omega) (by omega) h)⟩
        refine br_c (fun q => go _ ?_) (fun q => ⟨by decide, br_c (fun r => go _ ?_) (fun r => go _ ?_)⟩)
        · unfold sc_dv; rw [if_pos q]
        · unfold sc_dv sc_pa; rw [if_neg q, if_pos r]
        · unfold sc_dv sc_pa; rw [if_neg q, if_neg r]
      have m169 : wY_resolve_169 post (wY_resolve_110 post (nI fr) (nI e) own bB bE cc rl yn f) (nI fr) (nI e) own bB bE (nI k) (nI j) (sc_bg fr bB se k) cc rl yn cl dt df pb lo uf us fi ki wt ef eb di ex cf cs cm lg tx le rr ro fm fL ee en ye lv se pg ou := by
        unfold sc_bh at main
        by_cases ej : j = e
        · rw [if_pos ej] at main
          exact br_t (by rw [ej]) main
        · rw [if_neg ej] at main
          refine br_f (fun z => ej ((nI_eq (by omega) (by omega)).mp z)) ⟨vp_in_nI (by omega) (by decide), ?_⟩
          rw [nI_clamp (by omega)]
          exact y_strong main
      unfold sc_bg at m169
      by_cases ef' : k = fr
      · rw [if_pos ef'] at m169
        exact br_t (by rw [ef']) m169
      · rw [if_neg ef'] at m169
        obtain ⟨q, rfl⟩ : ∃ q, k = q + 1 := ⟨k - 1, by omega⟩
        refine br_f (fun z => ef' ((nI_eq (by omega) (by omega)).mp z)) ?_
        rw [nI_pred, nI_clamp (by omega)]
        exact ⟨vp_in_nI (by omega) (by decide), y_strong m169⟩
theorem y_lv_l {post : SY → Prop} {e : Nat} {own : Int32} (he : e ≤ 16) (ho : vp_in own 7) : ∀ (d i : Nat) (lv : Nat → Int32), i + d = e → (∀ j, i ≤ j → j < e → vp_in (se j) 3) → post (cc, rl, yn, cl, dt, df, pb, lo, uf, us, fi, ki, wt, ef, eb, di, ex, cf, cs, cm, lg, tx, le, rr, ro, fm, fL, ee, en, ye, sc_lv own se d i lv, se, pg, ou) → wY_resolve_254 post (nI e) own cc rl yn (d + 1) (nI i) cl dt df pb lo uf us fi ki wt ef eb di ex cf cs cm lg tx le rr ro fm fL ee en ye lv se pg ou := by
  have pr := sc_par2 (by decide) ho
  intro d
  induction d with
  | zero => exact fun i lv hi hs h => br_t (nI_le (by omega) (by omega)) h
  | succ d ih =>
    intro i lv hi hs h
    have v : vp_in (nI i) 16 := vp_in_nI (by omega) (by decide)
    have c : (nI i).toNatClampNeg = i := nI_clamp (by omega)
    have go : ∀ x, x = sc_lf own (se i) → vp_in (nI i) 16 ∧ ∀ y, y = upd lv i x → ∀ z, z = nI i + 1 → wY_resolve_254 post (nI e) own cc rl yn (d + 1) z cl dt df pb lo uf us fi ki wt ef eb di ex cf cs cm lg tx le rr ro fm fL ee en ye y se pg ou := by
      intro x ex'
      refine ⟨v, nm_e (nm_r (nI_1 i) (ih (i + 1) _ (by omega) (fun j a b => hs j (by omega) b) ?_))⟩
      rw [ex']; exact h
    refine br_f (nI_ge (by omega) (by omega)) ⟨by decide, ?_⟩
    rw [c]
    have s3 := sc_012 (hs i (by omega) (by omega))
    refine br_c (fun a => ⟨v, br_c (fun q => go _ ?_) (fun q => ⟨v, br_c (fun r => go _ ?_) (fun r => go _ ?_)⟩)⟩) (fun a => ⟨v, br_c (fun q => go _ ?_) (fun q => go _ ?_)⟩)
    · unfold sc_lf; rw [if_neg (by rw [a]; decide), if_neg (by rw [q]; decide), if_neg (by rw [q]; decide), Int32.add_zero]
    · unfold sc_lf; rw [if_neg (by rw [a]; decide), if_neg (by rw [r]; decide), if_pos r]
    · unfold sc_lf; rw [if_neg (by rw [a]; decide), if_pos (s3.elim (fun z => absurd z q) (fun z => z.elim (fun w => absurd w r) id))]
    · unfold sc_lf; rw [if_pos (pr.elim (fun z => absurd z a) id), if_pos q, Int32.add_zero]
    · unfold sc_lf; rw [if_pos (pr.elim (fun z => absurd z a) id), if_neg q]
end
end
section
/-! runs one after another; level -/
def sc_rb (em : Nat → Int32) (b : Int32) (s : Nat) : Int32 := if s = 0 then b else em (s - 1)
def sc_ra (em : Nat → Int32) (n : Nat) (b : Int32) (e : Nat) : Int32 := if e < n then em e else b
def sc_B1 (em : Nat → Int32) (b : Int32) (s : Nat) : Int32 := sc_pa (sc_mx (sc_rb em b s) (em s))
def sc_B2 (em : Nat → Int32) (n : Nat) (b : Int32) (s e : Nat) : Int32 := sc_pa (sc_mx (sc_ra em n b e) (em s))
def sc_rn1 (em : Nat → Int32) (n : Nat) (b : Int32) (s e : Nat) (be : Nat → Int32) : Nat → Int32 :=
  sc_nt s e (em s) (sc_B1 em b s) (sc_B2 em n b s e) (e - s + 2) s (sc_s1 (e - s) s be (sc_B1 em b s))
def sc_rn2 (em : Nat → Int32) (n : Nat) (b : Int32) (s e : Nat) (be pl : Nat → Int32) : Nat → Int32 := sc_lv (em s) (sc_rn1 em n b s e be) (e - s) s pl
theorem sc_rn1P {em : Nat → Int32} {n : Nat} {b : Int32} {s e : Nat} {be : Nat → Int32} (hs : s < e) (he : e ≤ n) (h4 : ∀ j, j < n → vp_in (be j) 4) :
    (∀ j, j < n → vp_in (sc_rn1 em n b s e be j) 4) ∧ (∀ j, s ≤ j → j < e → vp_in (sc_rn1 em n b s e be j) 3) :=
  sc_ntP (sc_pa01 _) he (e - s + 2) s _ (Nat.le_refl _) (by omega) (sc_s1P _ _ _ _ h4) (fun j h1 h2 => absurd h2 (by omega)) (by omega)
section
variable {cc rl wl : Int32} {cl dt df ds ex lo uf us fi ki ef es di we cf cs cm tx le rr wk sh fo fl el ec ke kl em oe be pl po : Nat → Int32}
theorem x_nt0 {post : SX → Prop} {fr e : Nat} {own bB bE : Int32} (he : e ≤ 16) (hB : bB = 0 ∨ bB = 1) (hem : ∀ j, fr ≤ j → j < e → em j = own)
    (f : Nat) (be : Nat → Int32) (hk2 : fr ≤ e) (hf : e + 1 ≤ f + fr) (h4 : ∀ j, j < e → vp_in (be j) 4)
    (h : post (cc, rl, wl, cl, dt, df, ds, ex, lo, uf, us, fi, ki, ef, es, di, we, cf, cs, cm, tx, le, rr, wk, sh, fo, fl, el, ec, ke, kl, em, oe, sc_nt fr e own bB bE f fr be, pl, po)) (n : Nat) (hn : e < n + fr) : wX_settleNeutrals_6 post (nI e) bE cc rl wl n bB (nI fr) cl dt df ds ex lo uf us fi ki ef es di we cf cs cm tx le rr wk sh fo fl el ec ke kl em oe be pl po := by
  have g := x_nt_l he hB hem f fr be (Nat.le_refl _) hk2 hf h4 (fun z => absurd rfl z) h n hn
  have eb : sc_bg fr bB be fr = bB := if_pos rfl
  rw [eb] at g
  exact g
theorem x_run {post : SX → Prop} {n s e : Nat} {b : Int32} (hs : s < e) (he : e ≤ n) (hn : n ≤ 16) (hem : ∀ j, s ≤ j → j < e → em j = em s) (h4 : ∀ j, j < n → vp_in (be j) 4)
    (h : post (cc, rl, wl, cl, dt, df, ds, ex, lo, uf, us, fi, ki, ef, es, di, we, cf, cs, cm, tx, le, rr, wk, sh, fo, fl, el, ec, ke, kl, em, oe, sc_rn1 em n b s e be, sc_rn2 em n b s e be pl, po)) : wpX_findRunLevels post (cc, rl, wl, cl, dt, df, ds, ex, lo, uf, us, fi, ki, ef, es, di, we, cf, cs, cm, tx, le, rr, wk, sh, fo, fl, el, ec, ke, kl, em, oe, be, pl, po) (nI s) (nI e) (nI n) b := by
  have c : (nI s).toNatClampNeg = s := nI_clamp (by omega)
  have m80 : wX_findRunLevels_80 post (nI s) (nI e) (em s) (sc_B1 em b s) (sc_mx (sc_ra em n b e) (em s)) cc rl wl cl dt df ds ex lo uf us fi ki ef es di we cf cs cm tx le rr wk sh fo fl el ec ke kl em oe be pl po := by
    unfold wX_findRunLevels_80
    refine x_bearing ?_
    unfold wpX_settleNumbers
    refine ⟨e - s + 1, x_s1_l (by omega) (e - s) s _ be (by omega) ?_⟩
    unfold wpX_settleNeutrals
    exact ⟨e - s + 1, x_nt0 (by omega) (sc_pa01 _) hem (e - s + 2) _ (by omega) (by omega) (sc_s1P _ _ _ _ (fun j hj => h4 j (by omega))) ⟨e - s + 1, x_lv_l (by omega) (e - s) s pl (by omega) h⟩ (e - s + 1) (by omega)⟩
  have m60 : wX_findRunLevels_60 post (nI s) (nI e) (em s) (sc_ra em n b e) (sc_mx (sc_rb em b s) (em s)) cc rl wl cl dt df ds ex lo uf us fi ki ef es di we cf cs cm tx le rr wk sh fo fl el ec ke kl em oe be pl po := by
    unfold wX_findRunLevels_60
    refine x_bearing ?_
    unfold sc_mx at m80
    refine br_c (fun a => ?_) (fun a => ?_)
    · rw [if_pos a] at m80; exact m80
    · rw [if_neg a] at m80; exact m80
  have m43 : wX_findRunLevels_43 post (nI s) (nI e) (em s) (sc_rb em b s) (sc_ra em n b e) cc rl wl cl dt df ds ex lo uf us fi ki ef es di we cf cs cm tx le rr wk sh fo fl el ec ke kl em oe be pl po := by
    unfold sc_mx at m60
    refine br_c (fun a => ?_) (fun a => ?_)
    · rw [if_pos a] at m60; exact m60
    · rw [if_neg a] at m60; exact m60
  have m25 : wX_findRunLevels_25 post (nI s) (nI e) (nI n) b (em s) (sc_rb em b s) cc rl wl cl dt df ds ex lo uf us fi ki ef es di we cf cs cm tx le rr wk sh fo fl el ec ke kl em oe be pl po := by
    unfold sc_ra at m43
    by_cases z : e < n
    · rw [if_pos z] at m43
      refine br_f (nI_ge z (by omega)) ⟨vp_in_nI (by omega) (by decide), ?_⟩
      rw [nI_clamp (by omega)]
      exact m43
    · rw [if_neg z] at m43
      exact br_t (nI_le (by omega) (by omega)) m43
  unfold wpX_findRunLevels
  refine ⟨vp_in_nI (by omega) (by decide), nm_r (e' := em s) (by rw [c]) ?_⟩
  unfold sc_rb at m25
  cases s with
  | zero => exact br_t (by decide) m25
  | succ s =>
    rw [if_neg (by omega), Nat.add_sub_cancel] at m25
    refine br_f (nI_nle (by omega) (by omega)) ?_
    rw [nI_pred, nI_clamp (by omega)]
    exact ⟨vp_in_nI (by omega) (by decide), m25⟩
end
section
variable {cc rl yn : Int32} {cl dt df pb lo uf us fi ki wt ef eb di ex cf cs cm lg tx le rr ro fm fL ee en ye lv se pg ou : Nat → Int32}
theorem y_edge {post : Int32 → Prop} {t n : Nat} {b own : Int32} (ht : t < 2) (hn : n ≤ 16) (hl : le t = nI n) (e : Nat) (he : e ≤ n) (h : post (sc_pa (sc_mx own (sc_ra ye n b e)))) : wpY_edge post (cc, rl, yn, cl, dt, df, pb, lo, uf, us, fi, ki, wt, ef, eb, di, ex, cf, cs, cm, lg, tx, le, rr, ro, fm, fL, ee, en, ye, lv, se, pg, ou) (nI t) b own (nI e) := by
  have hL : le (nI t).toNatClampNeg = nI n := by rw [nI_clamp (by omega), hl]
  unfold wpY_edge
  unfold sc_ra at h
  refine br_f (nI_pos (by omega)) ⟨vp_in_nI ht (by decide), ?_⟩
  rw [hL]
  by_cases z : e < n
  · rw [if_pos z] at h
    refine br_t (nI_lt z (by omega)) ⟨vp_in_nI (by omega) (by decide), ?_⟩
    rw [nI_clamp (by omega)]
    exact y_edge27 h
  · rw [if_neg z] at h
    exact br_f (nI_nlt (by omega) (by omega)) (y_edge27 h)
theorem y_run {post : SY → Prop} {t n s e : Nat} {b : Int32} (ht : t < 2) (hl : le t = nI n) (hs : s < e) (he : e ≤ n) (hn : n ≤ 16) (ho : vp_in (ye s) 7) (h4 : ∀ j, j < n → vp_in (se j) 4)
    (h : post (cc, rl, yn, cl, dt, df, pb, lo, uf, us, fi, ki, wt, ef, eb, di, ex, cf, cs, cm, lg, tx, le, rr, ro, fm, fL, ee, en, ye, sc_rn2 ye n b s e se lv, sc_rn1 ye n b s e se, pg, ou)) : wpY_resolve post (cc, rl, yn, cl, dt, df, pb, lo, uf, us, fi, ki, wt, ef, eb, di, ex, cf, cs, cm, lg, tx, le, rr, ro, fm, fL, ee, en, ye, lv, se, pg, ou) (nI t) b (nI s) (nI e) := by
  have c : (nI s).toNatClampNeg = s := nI_clamp (by omega)
  have main : wpY_edge (fun r_38 => ∃ n40 : Nat, wY_resolve_40 post (nI s) (nI e) (ye s) (sc_B1 ye b s) r_38 cc rl yn n40 (sc_B1 ye b s) (nI s) cl dt df pb lo uf us fi ki wt ef eb di ex cf cs cm lg tx le rr ro fm fL ee en ye lv se pg ou) (cc, rl, yn, cl, dt, df, pb, lo, uf, us, fi, ki, wt, ef, eb, di, ex, cf, cs, cm, lg, tx, le, rr, ro, fm, fL, ee, en, ye, lv, se, pg, ou) (nI t) b (ye s) (nI e) := by
    refine y_edge ht hn hl e he ?_
    rw [sc_mxC]
    exact ⟨e - s + 1, y_s1_l (by omega) (e - s) s _ se (by omega) ⟨e - s + 2, y_nt_l (bE := sc_B2 ye n b s e) (by omega) (e - s + 2) s _ (Nat.le_refl _) (by omega) (by omega) ⟨e - s + 1, y_lv_l (by omega) ho (e - s) s lv (by omega) (fun j h1 h2 => (sc_rn1P hs he h4).2 j h1 h2) h⟩⟩⟩
  unfold wpY_resolve
  refine ⟨vp_in_nI (by omega) (by decide), nm_r (e' := ye s) (by rw [c]) ?_⟩
  unfold sc_B1 sc_rb at main
  rw [sc_mxC] at main
  rw [sc_prS]
  cases s with
  | zero => exact br_t (by decide) (y_edge27 main)
  | succ s =>
    have hL : le (nI t).toNatClampNeg = nI n := by rw [nI_clamp (by omega), hl]
    rw [if_neg (by omega), Nat.add_sub_cancel] at main
    have c' : (sc_pr (s + 1)).toNatClampNeg = s := nI_clamp (by omega)
    refine br_f (nI_pos (by omega)) ⟨vp_in_nI ht (by decide), br_t (by rw [hL]; exact nI_lt (by omega) (by omega)) ⟨vp_in_nI (by omega) (by decide), ?_⟩⟩
    rw [c']
    exact y_edge27 main
end
def sc_fl (em : Nat → Int32) (n : Nat) (b : Int32) : Nat → Nat → Nat → (Nat → Int32) → (Nat → Int32) → (Nat → Int32) × (Nat → Int32)
  | 0, i, s, be, pl => (sc_rn1 em n b s i be, sc_rn2 em n b s i be pl)
  | d + 1, i, s, be, pl => if em i = em s then sc_fl em n b d (i + 1) s be pl else sc_fl em n b d (i + 1) i (sc_rn1 em n b s i be) (sc_rn2 em n b s i be pl)
theorem sc_flP {em : Nat → Int32} {n : Nat} {b : Int32} (h7 : ∀ j, j < n → vp_in (em j) 7) : ∀ d i s be pl, i + d = n → s < i → (∀ j, j < s → vp_in (pl j) 9) → ∀ j, j < n → vp_in ((sc_fl em n b d i s be pl).2 j) 9 := by
  intro d
  induction d with
  | zero =>
    intro i s be pl hi hs hp j hj
    exact sc_lvP (h7 s (by omega)) _ (i - s) s pl hp j (by omega)
  | succ d ih =>
    intro i s be pl hi hs hp
    unfold sc_fl
    split
    · exact ih (i + 1) s be pl (by omega) (by omega) hp
    · exact ih (i + 1) i _ _ (by omega) (by omega) (fun j hj => sc_lvP (h7 s (by omega)) _ (i - s) s pl hp j (by omega))
section
variable {cc rl wl : Int32} {cl dt df ds ex lo uf us fi ki ef es di we cf cs cm tx le rr wk sh fo fl el ec ke kl em oe be pl po : Nat → Int32}
theorem x_fl_l {post : SX → Prop} {n : Nat} {b : Int32} (hn : n ≤ 16) :
    ∀ (d i s : Nat) (be pl : Nat → Int32), i + d = n → s < i → (∀ j, s ≤ j → j < i → em j = em s) → (∀ j, j < n → vp_in (be j) 4) →
    post (cc, rl, wl, cl, dt, df, ds, ex, lo, uf, us, fi, ki, ef, es, di, we, cf, cs, cm, tx, le, rr, wk, sh, fo, fl, el, ec, ke, kl, em, oe, (sc_fl em n b d i s be pl).1, (sc_fl em n b d i s be pl).2, po) → wX_findLevels_19 post b (nI n) (d + 2) (nI s) (nI i) cc rl wl cl dt df ds ex lo uf us fi ki ef es di we cf cs cm tx le rr wk sh fo fl el ec ke kl em oe be pl po := by
  intro d
  induction d with
  | zero =>
    intro i s be pl hi hs hem h4 h
    obtain rfl : i = n := by omega
    refine br_f (nI_nlt (by omega) (by omega)) (br_t rfl ?_)
    unfold wX_findLevels_48
    exact x_run hs (Nat.le_refl _) hn hem h4 (nm_r (nI_1 i) (br_t (nI_lt (by omega) (by omega)) h))
  | succ d ih =>
    intro i s be pl hi hs hem h4 h
    have c : (nI i).toNatClampNeg = i := nI_clamp (by omega)
    have c2 : (nI s).toNatClampNeg = s := nI_clamp (by omega)
    unfold sc_fl at h
    refine br_f (nI_nlt (by omega) (by omega)) (br_f (fun z => by have := (nI_eq (by omega) (by omega)).mp z; omega) ⟨vp_in_nI (by omega) (by decide), vp_in_nI (by omega) (by decide), ?_⟩)
    rw [c, c2]
    refine br_c (fun a => nm_r (nI_1 i) (ih (i + 1) s be pl (by omega) (by omega) (fun j h1 h2 => ?_) h4 ?_)) (fun a => ?_)
    · by_cases e : j = i
      · rw [e]; exact a
      · exact hem j h1 (by omega)
    · rw [if_pos a] at h; exact h
    · rw [if_neg a] at h
      unfold wX_findLevels_48
      exact x_run hs (by omega) hn hem h4 (nm_r (nI_1 i) (ih (i + 1) i _ _ (by omega) (by omega) (fun j h1 h2 => by rw [show j = i by omega]) (sc_rn1P hs (by omega) h4).1 h))
theorem x_findLevels {post : SX → Prop} {t n b : Nat} (ht : t < 2) (hb : b < 2) (htx : sc_Chr tx) (hdi : ∀ i, vp_in (di i) 7) (hn : n ≤ 16) (h0 : 0 < n) (hl : le t = nI n)
    (h : post (cc, rl, wl, cl, dt, df, ds, ex, lo, uf, us, fi, ki, ef, es, di, we, cf, cs, cm, tx, le, rr, wk, sh, fo, fl, el, ec, ke, kl, (sc_eb (sc_dr di tx t) n 0 (nI b) 0 em be oe).1, (sc_eb (sc_dr di tx t) n 0 (nI b) 0 em be oe).2.2, (sc_fl (sc_eb (sc_dr di tx t) n 0 (nI b) 0 em be oe).1 n (nI b) (n - 1) 1 0 (sc_eb (sc_dr di tx t) n 0 (nI b) 0 em be oe).2.1 pl).1, (sc_fl (sc_eb (sc_dr di tx t) n 0 (nI b) 0 em be oe).1 n (nI b) (n - 1) 1 0 (sc_eb (sc_dr di tx t) n 0 (nI b) 0 em be oe).2.1 pl).2, po)) : wpX_findLevels post (cc, rl, wl, cl, dt, df, ds, ex, lo, uf, us, fi, ki, ef, es, di, we, cf, cs, cm, tx, le, rr, wk, sh, fo, fl, el, ec, ke, kl, em, oe, be, pl, po) (nI t) (nI b) := by
  have hL : le (nI t).toNatClampNeg = nI n := by rw [nI_clamp (by omega), hl]
  have hb7 : vp_in (nI b) 7 := vp_in_nI (by omega) (by decide)
  have P := sc_ebP (dr := sc_dr di tx t) (N := n) (fun i => hdi _) n 0 (nI b) 0 em be oe (by omega) hb7 (fun j hj => absurd hj (by omega)) (fun j hj => absurd hj (by omega))
  unfold wpX_findLevels
  unfold wpX_findEmbeddings
  refine ⟨n + 1, x_emb_l ht htx hn hl n 0 0 (nI b) em be oe (by omega) (by omega) hb7 (fun j hj => absurd hj (by omega)) ⟨vp_in_nI ht (by decide), nm_r hL ⟨n - 1 + 2, ?_⟩⟩⟩
  exact x_fl_l hn (n - 1) 1 0 _ pl (by omega) (by omega) (fun j h1 h2 => by rw [show j = 0 by omega]) (fun j hj => (P j hj).2) h
end
section
variable {cc rl yn : Int32} {cl dt df pb lo uf us fi ki wt ef eb di ex cf cs cm lg tx le rr ro fm fL ee en ye lv se pg ou : Nat → Int32}
theorem y_fl_l {post : SY → Prop} {t n : Nat} {b : Int32} (ht : t < 2) (hl : le t = nI n) (hn : n ≤ 16) (h7 : ∀ j, j < n → vp_in (ye j) 7) :
    ∀ (d i s m : Nat) (se lv : Nat → Int32), i + d = n → s < i → d + 1 ≤ m → (∀ j, j < n → vp_in (se j) 4) →
    post (cc, rl, yn, cl, dt, df, pb, lo, uf, us, fi, ki, wt, ef, eb, di, ex, cf, cs, cm, lg, tx, le, rr, ro, fm, fL, ee, en, ye, (sc_fl ye n b d i s se lv).2, (sc_fl ye n b d i s se lv).1, pg, ou) → wY_findLevels_21 post (wY_findLevels_8 post (nI t) b m) (nI t) b (nI s) cc rl yn cl dt df pb lo uf us fi ki wt ef eb di ex cf cs cm lg tx le rr ro fm fL ee en ye lv se pg ou (d + 1) (nI i) := by
  have hL : le (nI t).toNatClampNeg = nI n := by rw [nI_clamp (by omega), hl]
  intro d
  induction d with
  | zero =>
    intro i s m se lv hi hs hm h4 h
    obtain rfl : i = n := by omega
    obtain ⟨m, rfl⟩ : ∃ q, m = q + 1 := ⟨m - 1, by omega⟩
    refine ⟨vp_in_nI ht (by decide), br_t (by rw [hL]; exact nI_le (by omega) (by omega)) ?_⟩
    unfold wY_findLevels_54
    exact y_run ht hl hs (Nat.le_refl _) hn (h7 s (by omega)) h4 ⟨vp_in_nI ht (by decide), br_t (by rw [hL]; exact nI_le (by omega) (by omega)) h⟩
  | succ d ih =>
    intro i s m se lv hi hs hm h4 h
    obtain ⟨m, rfl⟩ : ∃ q, m = q + 1 := ⟨m - 1, by omega⟩
    have c : (nI i).toNatClampNeg = i := nI_clamp (by omega)
    have c2 : (nI s).toNatClampNeg = s := nI_clamp (by omega)
    unfold sc_fl at h
    refine ⟨vp_in_nI ht (by decide), br_f (by rw [hL]; exact nI_ge (by omega) (by omega)) ⟨vp_in_nI (by omega) (by decide), vp_in_nI (by omega) (by decide), ?_⟩⟩
    rw [c, c2]
    refine br_c (fun a => nm_r (nI_1 i) (ih (i + 1) s (m + 1) se lv (by omega) (by omega) (by omega) h4 ?_)) (fun a => ?_)
    · rw [if_pos a] at h; exact h
    · rw [if_neg a] at h
      unfold wY_findLevels_54
      refine y_run ht hl hs (by omega) hn (h7 s (by omega)) h4 ⟨vp_in_nI ht (by decide), br_f (by rw [hL]; exact nI_ge (by omega) (by omega)) ⟨d + 1 + 1, ?_⟩⟩
      exact ⟨vp_in_nI ht (by decide), br_f (by rw [hL]; exact nI_ge (by omega) (by omega)) ⟨vp_in_nI (by omega) (by decide), vp_in_nI (by omega) (by decide), br_t rfl (nm_r (nI_1 i) (ih (i + 1) i m _ _ (by omega) (by omega) (by omega) (sc_rn1P hs (by omega) h4).1 h))⟩⟩
theorem y_findLevels {post : SY → Prop} {t n b : Nat} (ht : t < 2) (hb : b < 2) (htx : sc_Chr tx) (hdi : ∀ i, vp_in (di i) 7) (hn : n ≤ 16) (h0 : 0 < n) (hl : le t = nI n)
    (h : post (cc, rl, yn, cl, dt, df, pb, lo, uf, us, fi, ki, wt, ef, eb, di, ex, cf, cs, cm, lg, tx, le, rr, ro, fm, fL, ee, en, (sc_eb (sc_dr di tx t) n 0 (nI b) 0 ye se ou).1, (sc_fl (sc_eb (sc_dr di tx t) n 0 (nI b) 0 ye se ou).1 n (nI b) (n - 1) 1 0 (sc_eb (sc_dr di tx t) n 0 (nI b) 0 ye se ou).2.1 lv).2, (sc_fl (sc_eb (sc_dr di tx t) n 0 (nI b) 0 ye se ou).1 n (nI b) (n - 1) 1 0 (sc_eb (sc_dr di tx t) n 0 (nI b) 0 ye se ou).2.1 lv).1, pg, (sc_eb (sc_dr di tx t) n 0 (nI b) 0 ye se ou).2.2)) : wpY_findLevels post (cc, rl, yn, cl, dt, df, pb, lo, uf, us, fi, ki, wt, ef, eb, di, ex, cf, cs, cm, lg, tx, le, rr, ro, fm, fL, ee, en, ye, lv, se, pg, ou) (nI t) (nI b) := by
  have hL : le (nI t).toNatClampNeg = nI n := by rw [nI_clamp (by omega), hl]
  have hb7 : vp_in (nI b) 7 := vp_in_nI (by omega) (by decide)
  have P := sc_ebP (dr := sc_dr di tx t) (N := n) (fun i => hdi _) n 0 (nI b) 0 ye se ou (by omega) hb7 (fun j hj => absurd hj (by omega)) (fun j hj => absurd hj (by omega))
  unfold wpY_findLevels
  unfold wpY_embed
  refine ⟨n + 1, y_emb_l ht htx hdi hn hl n 0 0 (nI b) ye se ou (by omega) (by omega) hb7 (fun j hj => absurd hj (by omega)) ⟨n + 1, ⟨vp_in_nI ht (by decide), br_f (by rw [hL]; exact nI_ge (a := 0) (by omega) (by omega)) ⟨n - 1 + 1 + 1, ?_⟩⟩⟩⟩
  refine ⟨vp_in_nI ht (by decide), br_f (by rw [hL]; exact nI_ge (a := 0) (by omega) (by omega)) ⟨vp_in_nI (n := 0) (by omega) (by decide), vp_in_nI (n := 0) (by omega) (by decide), br_t rfl (nm_r (nI_1 0) ?_)⟩⟩
  exact y_fl_l ht hl hn (fun j hj => (P j hj).1) (n - 1) 1 0 n _ lv (by omega) (by omega) (by omega) (fun j hj => (P j hj).2) h
end
section
variable {cc rl wl : Int32} {cl dt df ds ex lo uf us fi ki ef es di we cf cs cm tx le rr wk sh fo fl el ec ke kl em oe be pl po : Nat → Int32}
theorem xs_base1 {post : Int32 → Prop} {b : Nat} (hb : b < 2) (h : post 1) : wpX_isBase post (cc, rl, wl, cl, dt, df, ds, ex, lo, uf, us, fi, ki, ef, es, di, we, cf, cs, cm, tx, le, rr, wk, sh, fo, fl, el, ec, ke, kl, em, oe, be, pl, po) (nI b) := by
  rcases Nat.lt_or_ge b 1 with z | z
  · obtain rfl : b = 0 := by omega
    exact br_t rfl h
  · obtain rfl : b = 1 := by omega
    exact br_f (by decide) (br_t rfl h)
theorem xs_base0 {post : Int32 → Prop} {b : Int32} (h0 : ¬ b = 0) (h1 : ¬ b = 1) (h : post 0) : wpX_isBase post (cc, rl, wl, cl, dt, df, ds, ex, lo, uf, us, fi, ki, ef, es, di, we, cf, cs, cm, tx, le, rr, wk, sh, fo, fl, el, ec, ke, kl, em, oe, be, pl, po) b := br_f h0 (br_f h1 h)
end
section
variable {cc rl yn : Int32} {cl dt df pb lo uf us fi ki wt ef eb di ex cf cs cm lg tx le rr ro fm fL ee en ye lv se pg ou : Nat → Int32}
/-- the reference's way to its levels, or its refusal -/
theorem y_lev_bad {post : Int32 → SY → Prop} {p1 p2 p3 : Int32} (hb : (¬ p1 = 0 ∧ ¬ p1 = 1) ∨ (∃ t n, t < 2 ∧ n ≤ 16 ∧ le t = nI n ∧ p1 = nI t ∧ ((¬ p2 = 0 ∧ ¬ p2 = 1) ∨ (∃ b, b < 2 ∧ p2 = nI b ∧ (p3 < 0 ∨ ¬ p3 < 0 ∧ nI n ≤ p3))))) (h : post (-1) (cc, rl, yn, cl, dt, df, pb, lo, uf, us, fi, ki, wt, ef, eb, di, ex, cf, cs, cm, lg, tx, le, rr, ro, fm, fL, ee, en, ye, lv, se, pg, ou)) : wpY_level post (cc, rl, yn, cl, dt, df, pb, lo, uf, us, fi, ki, wt, ef, eb, di, ex, cf, cs, cm, lg, tx, le, rr, ro, fm, fL, ee, en, ye, lv, se, pg, ou) p1 p2 p3 := by
  unfold wpY_level
  rcases hb with ⟨a, b⟩ | ⟨t, n, ht, hn, hl, rfl, hb⟩
  · exact ys_text0 a b (br_t rfl h)
  · have hL : le (nI t).toNatClampNeg = nI n := by rw [nI_clamp (by omega), hl]
    rcases hb with ⟨a, b⟩ | ⟨b, hb, rfl, hp⟩
    · exact ys_text1 ht (br_f (by decide) (ys_text0 a b (br_t rfl h)))
    · refine ys_text1 ht (br_f (by decide) (ys_text1 hb (br_f (by decide) ?_)))
      exact hp.elim (fun z => br_t z h) (fun z => br_f z.1 ⟨vp_in_nI ht (by decide), br_f (by rw [hL]; exact Int32.not_lt.mpr z.2) h⟩)
theorem y_pag_bad {post : Int32 → SY → Prop} {p1 p2 p3 : Int32} (hb : (¬ p1 = 0 ∧ ¬ p1 = 1) ∨ (∃ t n, t < 2 ∧ n ≤ 16 ∧ le t = nI n ∧ p1 = nI t ∧ ((¬ p2 = 0 ∧ ¬ p2 = 1) ∨ (∃ b, b < 2 ∧ p2 = nI b ∧ (p3 < 0 ∨ ¬ p3 < 0 ∧ nI n ≤ p3))))) (h : post (-1) (cc, rl, yn, cl, dt, df, pb, lo, uf, us, fi, ki, wt, ef, eb, di, ex, cf, cs, cm, lg, tx, le, rr, ro, fm, fL, ee, en, ye, lv, se, pg, ou)) : wpY_onPage post (cc, rl, yn, cl, dt, df, pb, lo, uf, us, fi, ki, wt, ef, eb, di, ex, cf, cs, cm, lg, tx, le, rr, ro, fm, fL, ee, en, ye, lv, se, pg, ou) p1 p2 p3 := by
  unfold wpY_onPage
  rcases hb with ⟨a, b⟩ | ⟨t, n, ht, hn, hl, rfl, hb⟩
  · exact ys_text0 a b (br_t rfl h)
  · have hL : le (nI t).toNatClampNeg = nI n := by rw [nI_clamp (by omega), hl]
    rcases hb with ⟨a, b⟩ | ⟨b, hb, rfl, hp⟩
    · exact ys_text1 ht (br_f (by decide) (ys_text0 a b (br_t rfl h)))
    · refine ys_text1 ht (br_f (by decide) (ys_text1 hb (br_f (by decide) ?_)))
      exact hp.elim (fun z => br_t z h) (fun z => br_f z.1 ⟨vp_in_nI ht (by decide), br_f (by rw [hL]; exact Int32.not_lt.mpr z.2) h⟩)
end
theorem i_vc_level {k : Nat} {u : SX} {v : SY} (I : i_Rel k u v) (hk : k + 5 ≤ 2560) (v1 : Int32) (v2 : Int32) (v3 : Int32) : wpX_level (fun r u' => wpY_level (fun r' v' => r' = r ∧ i_Rel (k + 5) u' v') v v1 v2 v3) u v1 v2 v3 := by
  obtain ⟨cc, rl, wl, yn, cl, dt, df, ds, ex, lo, uf, us, fi, ki, ef, es, di, we, cf, cs, cm, tx, le, rr, wk, sh, fo, fl, el, ec, ke, kl, em, oe, be, pl, po, pb, wt, eb, lg, ro, fm, fL, ee, en, rfl, rfl, I⟩ := I
  have I0 := I
  obtain ⟨i1, i2, i3, i4, i5, i6, i7, i8, i9, i10, i11, i12, i13, i14, i15, i16, i17⟩ := I
  unfold wpX_level
  rcases sn_text v1 with ⟨t, ht, rfl⟩ | ⟨h0, h1, h2⟩
  rotate_left
  · exact x_has2 h2 (br_t rfl (y_lev_bad (Or.inl ⟨h0, h1⟩) ⟨rfl, sc_mk I0⟩))
  obtain ⟨n, hn, hl⟩ := i3 t ht
  have hL : le (nI t).toNatClampNeg = nI n := by rw [nI_clamp (by omega), hl]
  have bad : (v3 < 0 ∨ ¬ v3 < 0 ∧ nI n ≤ v3) → wpY_level (fun r' v' => r' = -1 ∧ i_Rel (k + 5) (cc, rl, wl, cl, dt, df, ds, ex, lo, uf, us, fi, ki, ef, es, di, we, cf, cs, cm, tx, le, rr, wk, sh, fo, fl, el, ec, ke, kl, em, oe, be, pl, po) v') (cc, rl, yn, cl, dt, df, pb, lo, uf, us, fi, ki, wt, ef, eb, di, ex, cf, cs, cm, lg, tx, le, rr, ro, fm, fL, ee, en, em, pl, be, po, oe) (nI t) v2 v3 := by
    intro z
    rcases sn_text v2 with ⟨b, hb, rfl⟩ | ⟨h0, h1, h2⟩
    · exact y_lev_bad (Or.inr ⟨t, n, ht, hn, hl, rfl, Or.inr ⟨b, hb, rfl, z⟩⟩) ⟨rfl, sc_mk I0⟩
    · exact y_lev_bad (Or.inr ⟨t, n, ht, hn, hl, rfl, Or.inl ⟨h0, h1⟩⟩) ⟨rfl, sc_mk I0⟩
  by_cases hp0 : v3 < 0
  · exact x_has0 ht hl (Or.inl hp0) (br_t rfl (bad (Or.inl hp0)))
  obtain ⟨p, hp, rfl⟩ := nI_of hp0
  by_cases hpn : p < n
  · refine x_has1 ht hn hpn hl (br_f (by decide) ?_)
    rcases sn_text v2 with ⟨b, hb, rfl⟩ | ⟨h0, h1, h2⟩
    · have cp : (nI p).toNatClampNeg = p := nI_clamp (by omega)
      refine xs_base1 hb (br_f (by decide) (x_findLevels ht hb i4 i11 hn (by omega) hl ⟨vp_in_nI (by omega) (by decide), ?_⟩))
      unfold wpY_level
      refine ys_text1 ht (br_f (by decide) (ys_text1 hb (br_f (by decide) (br_f hp0 ⟨vp_in_nI ht (by decide), br_t (by rw [hL]; exact nI_lt hpn (by omega)) ?_⟩))))
      exact y_findLevels ht hb i4 i11 hn (by omega) hl ⟨vp_in_nI (by omega) (by decide), rfl, sc_mk I0⟩
    · exact xs_base0 h0 h1 (br_t rfl (y_lev_bad (Or.inr ⟨t, n, ht, hn, hl, rfl, Or.inl ⟨h0, h1⟩⟩) ⟨rfl, sc_mk I0⟩))
  · have z : nI n ≤ nI p := nI_le (by omega) hp
    exact x_has0 ht hl (Or.inr ⟨hp0, z⟩) (br_t rfl (bad (Or.inr ⟨hp0, z⟩)))
end
section
/-! order on the page -/
def sc_rv (s e : Nat) : Nat → Nat → (Nat → Int32) → Nat → Int32
  | 0, _, po => po
  | m + 1, i, po => sc_rv s e m (i + 1) (upd (upd po (s + i) (po (e - 1 - i))) (e - 1 - i) (po (s + i)))
def sc_Pm (n : Nat) (po : Nat → Int32) : Prop := ∀ i, i < n → ∃ j, j < n ∧ po i = nI j
theorem sc_rvP {n s e : Nat} (he : e ≤ n) : ∀ m i po, i + m = (e - s) / 2 → sc_Pm n po → sc_Pm n (sc_rv s e m i po) := by
  intro m
  induction m with
  | zero => exact fun i po _ h => h
  | succ m ih =>
    intro i po hi h
    refine ih (i + 1) _ (by omega) (fun j hj => ?_)
    by_cases e1 : j = e - 1 - i
    · rw [e1, pk_us]; exact h _ (by omega)
    · rw [pk_un e1]
      by_cases e2 : j = s + i
      · rw [e2, pk_us]; exact h _ (by omega)
      · rw [pk_un e2]; exact h j hj
def sc_rr (pl : Nat → Int32) (l : Int32) : Nat → Nat → Nat → (Nat → Int32) → Nat → Int32
  | 0, i, s, po => sc_rv s i ((i - s) / 2) 0 po
  | d + 1, i, s, po => if l ≤ pl (po i).toNatClampNeg then sc_rr pl l d (i + 1) s po else sc_rr pl l d (i + 1) (i + 1) (sc_rv s i ((i - s) / 2) 0 po)
theorem sc_rrP {pl : Nat → Int32} {l : Int32} {n : Nat} : ∀ d i s po, i + d = n → sc_Pm n po → sc_Pm n (sc_rr pl l d i s po) := by
  intro d
  induction d with
  | zero => exact fun i s po hi h => sc_rvP (by omega) _ _ _ (by omega) h
  | succ d ih =>
    intro i s po hi h
    unfold sc_rr
    split
    · exact ih (i + 1) s po (by omega) h
    · exact ih (i + 1) (i + 1) _ (by omega) (sc_rvP (by omega) _ _ _ (by omega) h)
theorem sc_rr9 {pl : Nat → Int32} {l : Int32} {n : Nat} {po : Nat → Int32} (h : ∀ i, i < n → ¬ l ≤ pl (po i).toNatClampNeg) : ∀ d i, i + d = n → sc_rr pl l d i i po = po := by
  have e0 : ∀ i, sc_rv i i ((i - i) / 2) 0 po = po := by
    intro i
    rw [Nat.sub_self]; rfl
  intro d
  induction d with
  | zero => exact fun i hi => e0 i
  | succ d ih =>
    intro i hi
    unfold sc_rr
    rw [if_neg (h i (by omega)), e0 i]
    exact ih (i + 1) (by omega)
def sc_pg (pl : Nat → Int32) (n : Nat) : Nat → (Nat → Int32) → Nat → Int32
  | 0, po => po
  | l + 1, po => sc_pg pl n l (sc_rr pl (nI (l + 1)) n 0 0 po)
def sc_id : Nat → Nat → (Nat → Int32) → Nat → Int32
  | 0, _, po => po
  | d + 1, i, po => sc_id d (i + 1) (upd po i (nI i))
theorem sc_idP : ∀ d i po, (∀ j, j < i → ∃ q, q < i + d ∧ po j = nI q) → sc_Pm (i + d) (sc_id d i po) := by
  intro d
  induction d with
  | zero => exact fun i po h => h
  | succ d ih =>
    intro i po h
    have g := ih (i + 1) (upd po i (nI i)) (fun j hj => ?_)
    · rw [show i + 1 + d = i + (d + 1) by omega] at g; exact g
    · by_cases e : j = i
      · rw [e, pk_us]; exact ⟨i, by omega, rfl⟩
      · rw [pk_un e]
        obtain ⟨q, h1, h2⟩ := h j (by omega)
        exact ⟨q, by omega, h2⟩
section
variable {cc rl wl : Int32} {cl dt df ds ex lo uf us fi ki ef es di we cf cs cm tx le rr wk sh fo fl el ec ke kl em oe be pl po : Nat → Int32}
theorem x_rv_l {post : SX → Prop} {s e : Nat} (he : e ≤ 16) : ∀ (m i : Nat) (po : Nat → Int32), i + m = (e - s) / 2 → post (cc, rl, wl, cl, dt, df, ds, ex, lo, uf, us, fi, ki, ef, es, di, we, cf, cs, cm, tx, le, rr, wk, sh, fo, fl, el, ec, ke, kl, em, oe, be, pl, sc_rv s e m i po) → wX_reverseRow_9 post (nI s) (nI e) (nI ((e - s) / 2)) cc rl wl (m + 1) (nI i) cl dt df ds ex lo uf us fi ki ef es di we cf cs cm tx le rr wk sh fo fl el ec ke kl em oe be pl po := by
  intro m
  induction m with
  | zero => exact fun i po hi h => br_t (nI_le (by omega) (by omega)) h
  | succ m ih =>
    intro i po hi h
    have e1 : nI s + nI i = nI (s + i) := nI_add _ _
    have e2 : nI e - 1 - nI i = nI (e - 1 - i) := by
      obtain ⟨q, rfl⟩ : ∃ q, e = q + 1 := ⟨e - 1, by omega⟩
      rw [nI_pred, pk_sub (by omega)]; rfl
    have c1 : (nI s + nI i).toNatClampNeg = s + i := by rw [e1, nI_clamp (by omega)]
    have c2 : (nI e - 1 - nI i).toNatClampNeg = e - 1 - i := by rw [e2, nI_clamp (by omega)]
    have v1 : vp_in (nI s + nI i) 16 := by rw [e1]; exact vp_in_nI (by omega) (by decide)
    have v2 : vp_in (nI e - 1 - nI i) 16 := by rw [e2]; exact vp_in_nI (by omega) (by decide)
    exact br_f (nI_ge (by omega) (by omega)) ⟨v1, nm_r (e' := po (s + i)) (by rw [c1]) ⟨v2, v1, nm_r (e' := upd po (s + i) (po (e - 1 - i))) (by rw [c1, c2]) ⟨v2, nm_r (e' := upd (upd po (s + i) (po (e - 1 - i))) (e - 1 - i) (po (s + i))) (by rw [c2]) (nm_r (nI_1 i) (ih (i + 1) _ (by omega) h))⟩⟩⟩
theorem x_rv {post : SX → Prop} {s e : Nat} (hs : s ≤ e) (he : e ≤ 16) (h : post (cc, rl, wl, cl, dt, df, ds, ex, lo, uf, us, fi, ki, ef, es, di, we, cf, cs, cm, tx, le, rr, wk, sh, fo, fl, el, ec, ke, kl, em, oe, be, pl, sc_rv s e ((e - s) / 2) 0 po)) : wpX_reverseRow post (cc, rl, wl, cl, dt, df, ds, ex, lo, uf, us, fi, ki, ef, es, di, we, cf, cs, cm, tx, le, rr, wk, sh, fo, fl, el, ec, ke, kl, em, oe, be, pl, po) (nI s) (nI e) := by
  unfold wpX_reverseRow
  exact ⟨by decide, nm_r (e' := nI ((e - s) / 2)) (by rw [pk_sub hs]; exact pk_div (d := 2) (by omega) (by decide) (by decide)) ⟨_, x_rv_l he ((e - s) / 2) 0 po (by omega) h⟩⟩
theorem x_rr_l {post : SX → Prop} {n : Nat} {l : Int32} (hn : n ≤ 16) : ∀ (d i s : Nat) (po : Nat → Int32), i + d = n → s ≤ i → sc_Pm n po → post (cc, rl, wl, cl, dt, df, ds, ex, lo, uf, us, fi, ki, ef, es, di, we, cf, cs, cm, tx, le, rr, wk, sh, fo, fl, el, ec, ke, kl, em, oe, be, pl, sc_rr pl l d i s po) → wX_reverseRows_5 post (nI n) l (d + 2) (nI s) (nI i) cc rl wl cl dt df ds ex lo uf us fi ki ef es di we cf cs cm tx le rr wk sh fo fl el ec ke kl em oe be pl po := by
  intro d
  induction d with
  | zero =>
    intro i s po hi hs hP h
    obtain rfl : i = n := by omega
    refine br_f (nI_nlt (by omega) (by omega)) (br_t rfl ?_)
    unfold wX_reverseRows_33
    exact x_rv hs hn (nm_r (nI_1 i) (nm_r (nI_1 i) (br_t (nI_lt (by omega) (by omega)) h)))
  | succ d ih =>
    intro i s po hi hs hP h
    have c : (nI i).toNatClampNeg = i := nI_clamp (by omega)
    obtain ⟨q, hq, eq⟩ := hP i (by omega)
    unfold sc_rr at h
    refine br_f (nI_nlt (by omega) (by omega)) (br_f (fun z => by have := (nI_eq (by omega) (by omega)).mp z; omega) ⟨vp_in_nI (by omega) (by decide), by rw [c, eq]; exact vp_in_nI (by omega) (by decide), ?_⟩)
    rw [c]
    refine br_c (fun a => nm_r (nI_1 i) (ih (i + 1) s po (by omega) (by omega) hP ?_)) (fun a => ?_)
    · rw [if_pos a] at h; exact h
    · rw [if_neg a] at h
      unfold wX_reverseRows_33
      exact x_rv hs (by omega) (nm_r (nI_1 i) (nm_r (nI_1 i) (ih (i + 1) (i + 1) _ (by omega) (by omega) (sc_rvP (by omega) _ _ _ (by omega) hP) h)))
theorem x_pg_l {post : Int32 → SX → Prop} {n p : Nat} (hn : n ≤ 16) (hp : p < n) : ∀ (l : Nat) (po : Nat → Int32), l ≤ 8 → sc_Pm n po → post (sc_pg pl n l po p) (cc, rl, wl, cl, dt, df, ds, ex, lo, uf, us, fi, ki, ef, es, di, we, cf, cs, cm, tx, le, rr, wk, sh, fo, fl, el, ec, ke, kl, em, oe, be, pl, sc_pg pl n l po) → wX_onPage_62 post (nI p) (nI n) (l + 1) (nI l) cc rl wl cl dt df ds ex lo uf us fi ki ef es di we cf cs cm tx le rr wk sh fo fl el ec ke kl em oe be pl po := by
  have c : (nI p).toNatClampNeg = p := nI_clamp (by omega)
  intro l
  induction l with
  | zero =>
    intro po hl hP h
    refine br_t (by decide) ⟨vp_in_nI (by omega) (by decide), ?_⟩
    rw [c]; exact h
  | succ l ih =>
    intro po hl hP h
    refine br_f (nI_nlt (b := 1) (by omega) (by omega)) ?_
    unfold wpX_reverseRows
    exact ⟨n + 2, x_rr_l hn n 0 0 po (by omega) (by omega) hP (nm_r (pk_m1 l) (ih _ (by omega) (sc_rrP _ _ _ _ (by omega) hP) h))⟩
theorem x_id_l {post : Int32 → SX → Prop} {n p : Nat} (hn : n ≤ 16) : ∀ (d i : Nat) (po : Nat → Int32), i + d = n → (∃ n62, wX_onPage_62 post (nI p) (nI n) n62 8 cc rl wl cl dt df ds ex lo uf us fi ki ef es di we cf cs cm tx le rr wk sh fo fl el ec ke kl em oe be pl (sc_id d i po)) → wX_onPage_36 post (nI p) (nI n) cc rl wl (d + 1) (nI i) cl dt df ds ex lo uf us fi ki ef es di we cf cs cm tx le rr wk sh fo fl el ec ke kl em oe be pl po := by
  intro d
  induction d with
  | zero => exact fun i po hi h => br_t (nI_le (by omega) (by omega)) h
  | succ d ih => exact fun i po hi h => br_f (nI_ge (by omega) (by omega)) ⟨vp_in_nI (by omega) (by decide), nm_r (e' := upd po i (nI i)) (by rw [nI_clamp (by omega)]) (nm_r (nI_1 i) (ih (i + 1) _ (by omega) h))⟩
end
section
variable {cc rl yn : Int32} {cl dt df pb lo uf us fi ki wt ef eb di ex cf cs cm lg tx le rr ro fm fL ee en ye lv se pg ou : Nat → Int32}
theorem y_rv_l {post : SY → Prop} {s e : Nat} (hs : s ≤ e) (he : e ≤ 16) : ∀ (m i : Nat) (pg : Nat → Int32), i + m = (e - s) / 2 → post (cc, rl, yn, cl, dt, df, pb, lo, uf, us, fi, ki, wt, ef, eb, di, ex, cf, cs, cm, lg, tx, le, rr, ro, fm, fL, ee, en, ye, lv, se, sc_rv s e m i pg, ou) → wY_reverse_7 post cc rl yn (m + 1) (nI (s + i)) (sc_pr (e - i)) cl dt df pb lo uf us fi ki wt ef eb di ex cf cs cm lg tx le rr ro fm fL ee en ye lv se pg ou := by
  intro m
  induction m with
  | zero =>
    intro i pg hi h
    refine br_t ?_ h
    cases hq : e - i with
    | zero =>
      show -1 ≤ nI (s + i)
      exact Int32.le_trans (show (-1 : Int32) ≤ 0 by decide) (nI_pos' (by omega))
    | succ q => exact nI_le (by omega) (by omega)
  | succ m ih =>
    intro i pg hi h
    obtain ⟨q, hq⟩ : ∃ q, e - i = q + 1 := ⟨e - i - 1, by omega⟩
    have e2 : sc_pr (e - i) = nI (e - 1 - i) := by rw [hq, show e - 1 - i = q by omega]; rfl
    have c1 : (nI (s + i)).toNatClampNeg = s + i := nI_clamp (by omega)
    have c2 : (nI (e - 1 - i)).toNatClampNeg = e - 1 - i := nI_clamp (by omega)
    have v1 : vp_in (nI (s + i)) 16 := vp_in_nI (by omega) (by decide)
    have v2 : vp_in (nI (e - 1 - i)) 16 := vp_in_nI (by omega) (by decide)
    rw [e2]
    have e3 : nI (e - 1 - i) + (-1) = sc_pr (e - (i + 1)) := by rw [sc_prA, show e - 1 - i = e - (i + 1) by omega]
    exact br_f (nI_ge (by omega) (by omega)) ⟨v1, nm_r (e' := pg (s + i)) (by rw [c1]) ⟨v2, v1, nm_r (e' := upd pg (s + i) (pg (e - 1 - i))) (by rw [c1, c2]) ⟨v2, nm_r (e' := upd (upd pg (s + i) (pg (e - 1 - i))) (e - 1 - i) (pg (s + i))) (by rw [c2]) (nm_r e3 (nm_r (nI_1 _) (ih (i + 1) _ (by omega) h)))⟩⟩⟩
theorem y_rv {post : SY → Prop} {s e : Nat} (hs : s ≤ e) (he : e ≤ 16) (h : post (cc, rl, yn, cl, dt, df, pb, lo, uf, us, fi, ki, wt, ef, eb, di, ex, cf, cs, cm, lg, tx, le, rr, ro, fm, fL, ee, en, ye, lv, se, sc_rv s e ((e - s) / 2) 0 pg, ou)) : wpY_reverse post (cc, rl, yn, cl, dt, df, pb, lo, uf, us, fi, ki, wt, ef, eb, di, ex, cf, cs, cm, lg, tx, le, rr, ro, fm, fL, ee, en, ye, lv, se, pg, ou) (nI s) (nI e) := by
  unfold wpY_reverse
  exact nm_r (sc_prS e) ⟨_, y_rv_l hs he ((e - s) / 2) 0 pg (by omega) h⟩
theorem y_rr_l {post : SY → Prop} {t n : Nat} {l : Int32} (ht : t < 2) (hl : le t = nI n) (hn : n ≤ 16) : ∀ (d i s m : Nat) (pg : Nat → Int32), i + d = n → s ≤ i → d + 1 ≤ m → sc_Pm n pg → post (cc, rl, yn, cl, dt, df, pb, lo, uf, us, fi, ki, wt, ef, eb, di, ex, cf, cs, cm, lg, tx, le, rr, ro, fm, fL, ee, en, ye, lv, se, sc_rr lv l d i s pg, ou) → wY_turn_15 post (wY_turn_2 post (nI t) l m) (nI t) l (nI s) cc rl yn cl dt df pb lo uf us fi ki wt ef eb di ex cf cs cm lg tx le rr ro fm fL ee en ye lv se pg ou (d + 1) (nI i) := by
  have hL : le (nI t).toNatClampNeg = nI n := by rw [nI_clamp (by omega), hl]
  intro d
  induction d with
  | zero =>
    intro i s m pg hi hs hm hP h
    obtain rfl : i = n := by omega
    obtain ⟨m, rfl⟩ : ∃ q, m = q + 1 := ⟨m - 1, by omega⟩
    refine ⟨vp_in_nI ht (by decide), br_t (by rw [hL]; exact nI_le (by omega) (by omega)) ?_⟩
    unfold wY_turn_48
    exact y_rv hs hn (nm_r (nI_1 i) ⟨vp_in_nI ht (by decide), br_t (by rw [hL]; exact nI_le (by omega) (by omega)) h⟩)
  | succ d ih =>
    intro i s m pg hi hs hm hP h
    obtain ⟨m, rfl⟩ : ∃ q, m = q + 1 := ⟨m - 1, by omega⟩
    have c : (nI i).toNatClampNeg = i := nI_clamp (by omega)
    obtain ⟨q, hq, eq⟩ := hP i (by omega)
    unfold sc_rr at h
    refine ⟨vp_in_nI ht (by decide), br_f (by rw [hL]; exact nI_ge (by omega) (by omega)) ⟨vp_in_nI (by omega) (by decide), by rw [c, eq]; exact vp_in_nI (by omega) (by decide), ?_⟩⟩
    rw [c]
    refine br_c (fun a => ?_) (fun a => nm_r (nI_1 i) (ih (i + 1) s (m + 1) pg (by omega) (by omega) (by omega) hP ?_))
    · rw [if_neg (Int32.not_le.mpr a)] at h
      unfold wY_turn_48
      refine y_rv hs (by omega) (nm_r (nI_1 i) ⟨vp_in_nI ht (by decide), ?_⟩)
      rw [hL]
      have hP' : sc_Pm n (sc_rv s i ((i - s) / 2) 0 pg) := sc_rvP (by omega) _ _ _ (by omega) hP
      by_cases z : i + 1 < n
      · exact br_f (nI_ge z (by omega)) ⟨d + 1, ih (i + 1) (i + 1) m _ (by omega) (by omega) (by omega) hP' h⟩
      · refine br_t (nI_le (by omega) (by omega)) ?_
        obtain rfl : d = 0 := by omega
        have e0 : ∀ pg, sc_rr lv l 0 (i + 1) (i + 1) pg = pg := fun pg => by
          show sc_rv (i + 1) (i + 1) ((i + 1 - (i + 1)) / 2) 0 pg = pg
          rw [Nat.sub_self]; rfl
        rw [e0] at h
        exact h
    · rw [if_pos (Int32.not_lt.mp a)] at h; exact h
theorem y_pg_l {post : Int32 → SY → Prop} {t n p : Nat} (ht : t < 2) (hl : le t = nI n) (hn : n ≤ 16) (hp : p < n) : ∀ (l : Nat) (pg : Nat → Int32), l ≤ 9 → sc_Pm n pg → post (sc_pg lv n l pg p) (cc, rl, yn, cl, dt, df, pb, lo, uf, us, fi, ki, wt, ef, eb, di, ex, cf, cs, cm, lg, tx, le, rr, ro, fm, fL, ee, en, ye, lv, se, sc_pg lv n l pg, ou) → wY_onPage_69 post (nI t) (nI p) (l + 1) (nI l) cc rl yn cl dt df pb lo uf us fi ki wt ef eb di ex cf cs cm lg tx le rr ro fm fL ee en ye lv se pg ou := by
  have hL : le (nI t).toNatClampNeg = nI n := by rw [nI_clamp (by omega), hl]
  have c : (nI p).toNatClampNeg = p := nI_clamp (by omega)
  intro l
  induction l with
  | zero =>
    intro pg hl' hP h
    refine br_t (by decide) ⟨vp_in_nI (by omega) (by decide), ?_⟩
    rw [c]; exact h
  | succ l ih =>
    intro pg hl' hP h
    refine br_f (nI_nle (by omega) (by omega)) ?_
    unfold wpY_turn
    refine ⟨n + 2, ⟨vp_in_nI ht (by decide), br_f (by rw [hL]; exact nI_ge (a := 0) (by omega) (by omega)) ⟨n + 1, ?_⟩⟩⟩
    exact y_rr_l ht hl hn n 0 0 (n + 1) pg (by omega) (by omega) (by omega) hP (nm_r (pk_m1 l) (ih _ (by omega) (sc_rrP _ _ _ _ (by omega) hP) h))
theorem y_id_l {post : Int32 → SY → Prop} {t n p : Nat} (ht : t < 2) (hl : le t = nI n) (hn : n ≤ 16) : ∀ (d i : Nat) (pg : Nat → Int32), i + d = n → (∃ n69, wY_onPage_69 post (nI t) (nI p) n69 9 cc rl yn cl dt df pb lo uf us fi ki wt ef eb di ex cf cs cm lg tx le rr ro fm fL ee en ye lv se (sc_id d i pg) ou) → wY_onPage_39 post (nI t) (nI p) cc rl yn (d + 1) (nI i) cl dt df pb lo uf us fi ki wt ef eb di ex cf cs cm lg tx le rr ro fm fL ee en ye lv se pg ou := by
  have hL : le (nI t).toNatClampNeg = nI n := by rw [nI_clamp (by omega), hl]
  intro d
  induction d with
  | zero => exact fun i pg hi h => ⟨vp_in_nI ht (by decide), br_t (by rw [hL]; exact nI_le (by omega) (by omega)) h⟩
  | succ d ih => exact fun i pg hi h => ⟨vp_in_nI ht (by decide), br_f (by rw [hL]; exact nI_ge (by omega) (by omega)) ⟨vp_in_nI (by omega) (by decide), nm_r (e' := upd pg i (nI i)) (by rw [nI_clamp (by omega)]) (nm_r (nI_1 i) (ih (i + 1) _ (by omega) h))⟩⟩
end
theorem sc_pg9 {pl : Nat → Int32} {n : Nat} {po : Nat → Int32} (hn : n ≤ 16) (hP : sc_Pm n po) (h9 : ∀ j, j < n → vp_in (pl j) 9) : sc_pg pl n 9 po = sc_pg pl n 8 po := by
  show sc_pg pl n 8 (sc_rr pl (nI 9) n 0 0 po) = _
  rw [sc_rr9 (n := n) (fun i hi => ?_) n 0 (by omega)]
  obtain ⟨j, hj, e⟩ := hP i hi
  rw [e, nI_clamp (by omega)]
  obtain ⟨q, hq, eq⟩ := vp_in_of (h9 j hj) (by decide)
  rw [eq]
  exact nI_ge (by omega) (by decide)
theorem i_vc_onPage {k : Nat} {u : SX} {v : SY} (I : i_Rel k u v) (hk : k + 5 ≤ 2560) (v1 : Int32) (v2 : Int32) (v3 : Int32) : wpX_onPage (fun r u' => wpY_onPage (fun r' v' => r' = r ∧ i_Rel (k + 5) u' v') v v1 v2 v3) u v1 v2 v3 := by
  obtain ⟨cc, rl, wl, yn, cl, dt, df, ds, ex, lo, uf, us, fi, ki, ef, es, di, we, cf, cs, cm, tx, le, rr, wk, sh, fo, fl, el, ec, ke, kl, em, oe, be, pl, po, pb, wt, eb, lg, ro, fm, fL, ee, en, rfl, rfl, I⟩ := I
  have I0 := I
  obtain ⟨i1, i2, i3, i4, i5, i6, i7, i8, i9, i10, i11, i12, i13, i14, i15, i16, i17⟩ := I
  unfold wpX_onPage
  rcases sn_text v1 with ⟨t, ht, rfl⟩ | ⟨h0, h1, h2⟩
  rotate_left
  · exact x_has2 h2 (br_t rfl (y_pag_bad (Or.inl ⟨h0, h1⟩) ⟨rfl, sc_mk I0⟩))
  obtain ⟨n, hn, hl⟩ := i3 t ht
  have hL : le (nI t).toNatClampNeg = nI n := by rw [nI_clamp (by omega), hl]
  have bad : (v3 < 0 ∨ ¬ v3 < 0 ∧ nI n ≤ v3) → wpY_onPage (fun r' v' => r' = -1 ∧ i_Rel (k + 5) (cc, rl, wl, cl, dt, df, ds, ex, lo, uf, us, fi, ki, ef, es, di, we, cf, cs, cm, tx, le, rr, wk, sh, fo, fl, el, ec, ke, kl, em, oe, be, pl, po) v') (cc, rl, yn, cl, dt, df, pb, lo, uf, us, fi, ki, wt, ef, eb, di, ex, cf, cs, cm, lg, tx, le, rr, ro, fm, fL, ee, en, em, pl, be, po, oe) (nI t) v2 v3 := by
    intro z
    rcases sn_text v2 with ⟨b, hb, rfl⟩ | ⟨h0, h1, h2⟩
    · exact y_pag_bad (Or.inr ⟨t, n, ht, hn, hl, rfl, Or.inr ⟨b, hb, rfl, z⟩⟩) ⟨rfl, sc_mk I0⟩
    · exact y_pag_bad (Or.inr ⟨t, n, ht, hn, hl, rfl, Or.inl ⟨h0, h1⟩⟩) ⟨rfl, sc_mk I0⟩
  by_cases hp0 : v3 < 0
  · exact x_has0 ht hl (Or.inl hp0) (br_t rfl (bad (Or.inl hp0)))
  obtain ⟨p, hp, rfl⟩ := nI_of hp0
  by_cases hpn : p < n
  · refine x_has1 ht hn hpn hl (br_f (by decide) ?_)
    rcases sn_text v2 with ⟨b, hb, rfl⟩ | ⟨h0, h1, h2⟩
    · have hb7 : vp_in (nI b) 7 := vp_in_nI (by omega) (by decide)
      have P := sc_ebP (dr := sc_dr di tx t) (N := n) (fun i => i11 _) n 0 (nI b) 0 em be oe (by omega) hb7 (fun j hj => absurd hj (by omega)) (fun j hj => absurd hj (by omega))
      have P9 := sc_flP (b := nI b) (fun j hj => (P j hj).1) (n - 1) 1 0 (sc_eb (sc_dr di tx t) n 0 (nI b) 0 em be oe).2.1 pl (by omega) (by omega) (fun j hj => absurd hj (by omega))
      have Q : sc_Pm n (sc_id n 0 po) := by
        have := sc_idP n 0 po (fun j hj => absurd hj (by omega))
        rw [Nat.zero_add] at this
        exact this
      refine xs_base1 hb (br_f (by decide) (x_findLevels ht hb i4 i11 hn (by omega) hl ⟨vp_in_nI ht (by decide), nm_r hL ⟨n + 1, x_id_l hn n 0 po (by omega) ⟨9, x_pg_l hn hpn 8 _ (by omega) Q ?_⟩⟩⟩))
      unfold wpY_onPage
      refine ys_text1 ht (br_f (by decide) (ys_text1 hb (br_f (by decide) (br_f hp0 ⟨vp_in_nI ht (by decide), br_t (by rw [hL]; exact nI_lt hpn (by omega)) ?_⟩))))
      refine y_findLevels ht hb i4 i11 hn (by omega) hl ⟨n + 1, y_id_l ht hl hn n 0 po (by omega) ⟨10, y_pg_l ht hl hn hpn 9 _ (by omega) Q ?_⟩⟩
      rw [sc_pg9 hn Q P9]
      exact ⟨rfl, sc_mk I0⟩
    · exact xs_base0 h0 h1 (br_t rfl (y_pag_bad (Or.inr ⟨t, n, ht, hn, hl, rfl, Or.inl ⟨h0, h1⟩⟩) ⟨rfl, sc_mk I0⟩))
  · have z : nI n ≤ nI p := nI_le (by omega) hp
    exact x_has0 ht hl (Or.inr ⟨hp0, z⟩) (br_t rfl (bad (Or.inr ⟨hp0, z⟩)))
end
section
/-! sorting: the two sides -/
def sc_Sg (a : Nat → Int32) (o : Nat) (l : List Int32) : Prop := ∀ i, i < l.length → a (o + i) = sc_at l i
def sc_xp (ef es : Nat → Int32) (c : Int32) : List Int32 := if ef c.toNatClampNeg = -1 then [c] else [ef c.toNatClampNeg, es c.toNatClampNeg]
def sc_el (cf cs cm : Nat → Int32) (m : Nat) (ef es : Nat → Int32) : List Int32 → List Int32
  | [] => []
  | [c] => sc_xp ef es c
  | c :: c2 :: r => if sc_fc cf cs c c2 m 0 = -1 then sc_xp ef es c ++ sc_el cf cs cm m ef es (c2 :: r) else cm (sc_fc cf cs c c2 m 0).toNatClampNeg :: sc_el cf cs cm m ef es r
theorem sc_xpP {ef es eb : Nat → Int32} (h1 : sc_Opt ef) (h2 : ∀ i, i < 48 → ¬ ef i = -1 → vp_in (es i) 48 ∧ eb i = es i) {c : Int32} (hc : vp_in c 48) : sc_All (sc_xp ef es c) ∧ (sc_xp ef es c).length ≤ 2 := by
  unfold sc_xp
  split
  · exact ⟨sc_All_cons.mpr ⟨hc, sc_All_nil⟩, by simp⟩
  · rename_i z
    exact ⟨sc_All_cons.mpr ⟨(h1 _).elim (fun e => absurd e z) id, sc_All_cons.mpr ⟨(h2 _ (sn_cl hc) z).1, sc_All_nil⟩⟩, by simp⟩
theorem sc_elP {cf cs cm : Nat → Int32} {m : Nat} {ef es eb : Nat → Int32} (hcm : sc_Chr cm) (h1 : sc_Opt ef) (h2 : ∀ i, i < 48 → ¬ ef i = -1 → vp_in (es i) 48 ∧ eb i = es i) : ∀ L l, l.length ≤ L → sc_All l → sc_All (sc_el cf cs cm m ef es l) ∧ (sc_el cf cs cm m ef es l).length ≤ 2 * l.length := by
  intro L
  induction L with
  | zero =>
    intro l hl hA
    cases l with
    | nil => exact ⟨sc_All_nil, Nat.le_refl _⟩
    | cons c l => exact absurd hl (by simp)
  | succ L ih =>
    intro l hl hA
    match l, hl, hA with
    | [], _, _ => exact ⟨sc_All_nil, Nat.le_refl _⟩
    | [c], _, hA => exact sc_xpP h1 h2 (sc_All_cons.mp hA).1
    | c :: c2 :: r, hl, hA =>
      have hl' : r.length + 1 + 1 ≤ L + 1 := hl
      obtain ⟨hc, hA'⟩ := sc_All_cons.mp hA
      have a1 := sc_xpP h1 h2 hc
      have a2 := ih (c2 :: r) (by show r.length + 1 ≤ L; omega) hA'
      have a3 := ih r (by omega) (sc_All_cons.mp hA').2
      have l2 : (c2 :: r).length = r.length + 1 := rfl
      rw [sc_el]
      show _ ∧ _ ≤ 2 * (r.length + 1 + 1)
      split
      · exact ⟨sc_All_app.mpr ⟨a1.1, a2.1⟩, by rw [List.length_append]; omega⟩
      · exact ⟨sc_All_cons.mpr ⟨hcm _, a3.1⟩, by rw [List.length_cons]; omega⟩
def sc_PX (sd : Nat) (el0 ec0 : Nat → Int32) (acc : List Int32) (el ec : Nat → Int32) : Prop :=
  sc_Sg el (128 * sd) acc ∧ ec sd = nI acc.length ∧ (∀ j, j < 128 * sd ∨ 128 * sd + 128 ≤ j → el j = el0 j) ∧ (∀ j, ¬ j = sd → ec j = ec0 j)
def sc_PY (wt : Nat → Int32) (sd : Nat) (ee0 en0 : Nat → Int32) (acc : List Int32) (ee en : Nat → Int32) : Prop :=
  (∀ l, l < 3 → ∀ i, i < acc.length → ee (384 * sd + 128 * l + i) = wt (3 * (sc_at acc i).toNatClampNeg + l)) ∧ en sd = nI acc.length ∧ (∀ j, j < 384 * sd ∨ 384 * sd + 384 ≤ j → ee j = ee0 j) ∧ (∀ j, ¬ j = sd → en j = en0 j)
section
variable {cc rl wl : Int32} {cl dt df ds ex lo uf us fi ki ef es di we cf cs cm tx le rr wk sh fo fl el ec ke kl em oe be pl po : Nat → Int32}
theorem x_app {post : SX → Prop} {sd : Nat} {el0 ec0 : Nat → Int32} {acc : List Int32} {c : Int32} (hs : sd < 2) (ha : acc.length < 128) (hP : sc_PX sd el0 ec0 acc el ec)
    (h : ∀ el ec, sc_PX sd el0 ec0 (acc ++ [c]) el ec → post (cc, rl, wl, cl, dt, df, ds, ex, lo, uf, us, fi, ki, ef, es, di, we, cf, cs, cm, tx, le, rr, wk, sh, fo, fl, el, ec, ke, kl, em, oe, be, pl, po)) : wpX_appendElement post (cc, rl, wl, cl, dt, df, ds, ex, lo, uf, us, fi, ki, ef, es, di, we, cf, cs, cm, tx, le, rr, wk, sh, fo, fl, el, ec, ke, kl, em, oe, be, pl, po) (nI sd) c := by
  obtain ⟨p1, p2, p3, p4⟩ := hP
  have cs' : (nI sd).toNatClampNeg = sd := nI_clamp (by omega)
  have hv : vp_in (nI sd) 2 := vp_in_nI hs (by decide)
  have ex' : nI sd * 128 + nI acc.length = nI (128 * sd + acc.length) := by
    rw [show (128 : Int32) = nI 128 from rfl, pk_mul, nI_add, Nat.mul_comm]
  unfold wpX_appendElement
  dsimp only
  rw [cs', p2]
  refine ⟨hv, br_f (nI_ge (b := 128) ha (by decide)) ⟨hv, by rw [ex']; exact vp_in_nI (by omega) (by decide), nm_r (e' := upd el (128 * sd + acc.length) c) (by rw [ex', nI_clamp (by omega)]) ⟨hv, hv, nm_r (e' := upd ec sd (nI (acc.length + 1))) (by rw [nI_1]) (h _ _ ?_)⟩⟩⟩
  refine ⟨fun i hi => ?_, ?_, fun j hj => ?_, fun j hj => ?_⟩
  · have hi' : i < acc.length + 1 := by simpa using hi
    by_cases e : i = acc.length
    · rw [e, pk_us, sc_at_mid]
    · rw [pk_un (by omega), p1 i (by omega), sc_at_lt _ _ _ (by omega)]
  · rw [pk_us, List.length_append]; rfl
  · rw [pk_un (by omega)]; exact p3 j hj
  · rw [pk_un hj]; exact p4 j hj
theorem x_el_l {post : SX → Prop} {sd m : Nat} {el0 ec0 eb : Nat → Int32} {F : List Int32} (hs : sd < 2) (hm : m ≤ 6) (hN : F.length ≤ 64) (hA : sc_All F) (hr : sc_Rp wk F) (hef : sc_Opt ef) (hes : ∀ i, i < 48 → ¬ ef i = -1 → vp_in (es i) 48 ∧ eb i = es i) :
    ∀ (L : Nat) (rest pre acc : List Int32) (el ec : Nat → Int32), rest.length ≤ L → F = pre ++ rest → acc.length + 2 * rest.length ≤ 128 → sc_PX sd el0 ec0 acc el ec →
    (∀ el ec, sc_PX sd el0 ec0 (acc ++ sc_el cf cs cm m ef es rest) el ec → post (nI m, rl, nI F.length, cl, dt, df, ds, ex, lo, uf, us, fi, ki, ef, es, di, we, cf, cs, cm, tx, le, rr, wk, sh, fo, fl, el, ec, ke, kl, em, oe, be, pl, po)) → ∀ n, rest.length + 1 ≤ n → wX_loadElements_11 post (nI sd) n 0 (nI pre.length) (nI m) rl (nI F.length) cl dt df ds ex lo uf us fi ki ef es di we cf cs cm tx le rr wk sh fo fl el ec ke kl em oe be pl po := by
  intro L
  induction L with
  | zero =>
    intro rest pre acc el ec hL hF ha hP h n hn
    obtain ⟨n, rfl⟩ : ∃ q, n = q + 1 := ⟨n - 1, by omega⟩
    cases rest with
    | cons c r => exact absurd hL (by simp)
    | nil =>
      have hlen : F.length = pre.length := by rw [hF, List.append_nil]
      rw [sc_el, List.append_nil] at h
      exact br_t (nI_le (by omega) (by omega)) (h el ec hP)
  | succ L ih =>
    intro rest pre acc el ec hL hF ha hP h n hn
    obtain ⟨n, rfl⟩ : ∃ q, n = q + 1 := ⟨n - 1, by omega⟩
    cases rest with
    | nil =>
      have hlen : F.length = pre.length := by rw [hF, List.append_nil]
      rw [sc_el, List.append_nil] at h
      exact br_t (nI_le (by omega) (by omega)) (h el ec hP)
    | cons c r =>
      have hL' : r.length + 1 ≤ L + 1 := hL
      have ha' : acc.length + 2 * (r.length + 1) ≤ 128 := ha
      have hn' : r.length + 1 + 1 ≤ n + 1 := hn
      have hlen : F.length = pre.length + r.length + 1 := by rw [hF]; exact sc_len_mid pre r c
      have hA2 : sc_All (c :: r) := by rw [hF] at hA; exact (sc_All_app.mp hA).2
      have hc := (sc_All_cons.mp hA2).1
      have wc : wk (nI pre.length).toNatClampNeg = c := by
        rw [nI_clamp (by omega)]; rw [hF] at hr; exact sc_Rp_mid hr
      have xl := (sc_xpP hef hes hc).2
      -- one character by itself
      have one : (sc_el cf cs cm m ef es (c :: r) = sc_xp ef es c ++ sc_el cf cs cm m ef es r) → wX_loadElements_64 post (wX_loadElements_11 post (nI sd) n) (nI sd) 0 (nI pre.length) c (-1) (nI m) rl (nI F.length) cl dt df ds ex lo uf us fi ki ef es di we cf cs cm tx le rr wk sh fo fl el ec ke kl em oe be pl po := by
        intro eq
        rw [eq] at h
        have go : ∀ el ec, sc_PX sd el0 ec0 (acc ++ sc_xp ef es c) el ec → wX_loadElements_11 post (nI sd) n 0 (nI (pre.length + 1)) (nI m) rl (nI F.length) cl dt df ds ex lo uf us fi ki ef es di we cf cs cm tx le rr wk sh fo fl el ec ke kl em oe be pl po := by
          intro el ec hP'
          have g := ih r (pre ++ [c]) (acc ++ sc_xp ef es c) el ec (by omega) (by rw [List.append_assoc]; exact hF) (by rw [List.length_append]; omega) hP' (by rw [List.append_assoc]; exact h) n (by omega)
          rw [List.length_append] at g
          exact g
        unfold sc_xp at go
        refine br_t rfl ⟨hc, br_c (fun a => ?_) (fun a => ⟨hc, ?_⟩)⟩
        · rw [if_pos a] at go
          exact x_app hs (by omega) hP (fun el ec hP' => nm_r (nI_1 _) (go el ec hP'))
        · rw [if_neg a] at go
          refine x_app hs (by omega) hP (fun el ec hP1 => ⟨hc, x_app hs (by rw [List.length_append]; show acc.length + 1 < 128; omega) hP1 (fun el ec hP2 => nm_r (nI_1 _) (go el ec ?_))⟩)
          rw [List.append_assoc] at hP2; exact hP2
      refine br_f (nI_ge (by omega) (by omega)) (br_t rfl ⟨vp_in_nI (by omega) (by decide), nm_r wc ?_⟩)
      rw [nI_1]
      cases r with
      | nil =>
        have l0 : ([] : List Int32).length = 0 := rfl
        refine br_t (nI_le (by omega) (by omega)) (one ?_)
        rw [sc_el, sc_el, List.append_nil]
      | cons c2 r =>
        have l1 : (c2 :: r).length = r.length + 1 := rfl
        have wc2 : wk (nI (pre.length + 1)).toNatClampNeg = c2 := by
          rw [nI_clamp (by omega)]
          rw [hF] at hr
          have hr2 : sc_Rp wk ((pre ++ [c]) ++ c2 :: r) := by rw [List.append_assoc]; exact hr
          have := sc_Rp_mid hr2
          rw [List.length_append] at this
          exact this
        refine br_f (nI_ge (by omega) (by omega)) ⟨vp_in_nI (by omega) (by decide), x_fc hm ?_⟩
        rw [wc2]
        rcases sc_fcR cf cs c c2 m 0 with e | ⟨z, hz, e⟩
        · rw [e]
          refine one ?_
          rw [sc_el, if_pos e]
        · rw [e]
          rw [sc_el, if_neg (by rw [e]; exact sc_m1 z (by omega)), e, nI_clamp (by omega)] at h
          obtain ⟨n, rfl⟩ : ∃ q, n = q + 1 := ⟨n - 1, by omega⟩
          refine br_f (sc_m1 z (by omega)) ⟨vp_in_nI (by omega) (by decide), ?_⟩
          rw [nI_clamp (by omega)]
          refine x_app hs (by omega) hP (fun el ec hP1 => nm_r (nI_1 _) (br_f (nI_ge (by omega) (by omega)) (br_f (by decide) (nm_r (nI_1 _) ?_))))
          have g := ih r (pre ++ [c, c2]) (acc ++ [cm z]) el ec (by omega) (by rw [List.append_assoc]; exact hF) (by rw [List.length_append]; show acc.length + 1 + 2 * r.length ≤ 128; omega) hP1 (by rw [List.append_assoc]; exact h) n (by omega)
          rw [List.length_append] at g
          exact g
end
section
variable {cc rl yn : Int32} {cl dt df pb lo uf us fi ki wt ef eb di ex cf cs cm lg tx le rr ro fm fL ee en ye lv se pg ou : Nat → Int32}
theorem y_elem {post : SY → Prop} {sd : Nat} {ee0 en0 : Nat → Int32} {acc : List Int32} {c : Int32} (hs : sd < 2) (hc : vp_in c 48) (ha : acc.length < 128) (hP : sc_PY wt sd ee0 en0 acc ee en)
    (h : ∀ ee en, sc_PY wt sd ee0 en0 (acc ++ [c]) ee en → post (cc, rl, yn, cl, dt, df, pb, lo, uf, us, fi, ki, wt, ef, eb, di, ex, cf, cs, cm, lg, tx, le, rr, ro, fm, fL, ee, en, ye, lv, se, pg, ou)) : wpY_element post (cc, rl, yn, cl, dt, df, pb, lo, uf, us, fi, ki, wt, ef, eb, di, ex, cf, cs, cm, lg, tx, le, rr, ro, fm, fL, ee, en, ye, lv, se, pg, ou) (nI sd) c := by
  obtain ⟨p1, p2, p3, p4⟩ := hP
  obtain ⟨q, hq, rfl⟩ := vp_in_of hc (by decide)
  have cs' : (nI sd).toNatClampNeg = sd := nI_clamp (by omega)
  have hv : vp_in (nI sd) 2 := vp_in_nI hs (by decide)
  have ew : ∀ l, 3 * nI q + nI l = nI (3 * q + l) := fun l => by rw [show (3 : Int32) = nI 3 from rfl, pk_mul, nI_add]
  have ei : ∀ l, 384 * nI sd + 128 * nI l + nI acc.length = nI (384 * sd + 128 * l + acc.length) := fun l => by rw [show (384 : Int32) = nI 384 from rfl, show (128 : Int32) = nI 128 from rfl, pk_mul, pk_mul, nI_add, nI_add]
  have step : ∀ (l : Nat) (ee : Nat → Int32) (n : Nat), l < 3 → wY_element_2 post (nI sd) (nI q) cc rl yn n (nI (l + 1)) cl dt df pb lo uf us fi ki wt ef eb di ex cf cs cm lg tx le rr ro fm fL (upd ee (384 * sd + 128 * l + acc.length) (wt (3 * q + l))) en ye lv se pg ou → wY_element_2 post (nI sd) (nI q) cc rl yn (n + 1) (nI l) cl dt df pb lo uf us fi ki wt ef eb di ex cf cs cm lg tx le rr ro fm fL ee en ye lv se pg ou := by
    intro l ee n hl g
    refine br_f (nI_ge (b := 3) hl (by decide)) ⟨hv, ?_⟩
    rw [cs', p2, ew, ei]
    exact ⟨vp_in_nI (by omega) (by decide), vp_in_nI (by omega) (by decide), nm_r (by rw [nI_clamp (by omega), nI_clamp (by omega)]) (nm_r (nI_1 l) g)⟩
  refine ⟨4, step 0 _ _ (by omega) (step 1 _ _ (by omega) (step 2 _ _ (by omega) (br_t (by decide) ⟨hv, hv, nm_r (e' := upd en sd (nI (acc.length + 1))) (by rw [cs', p2, nI_1]) (h _ _ ?_)⟩)))⟩
  refine ⟨fun l hl i hi => ?_, ?_, fun j hj => ?_, fun j hj => ?_⟩
  · have hi' : i < acc.length + 1 := by simpa using hi
    by_cases e : i = acc.length
    · subst e
      rw [sc_at_mid, nI_clamp (by omega)]
      unfold upd
      rcases Nat.lt_or_ge l 1 with z | z
      · obtain rfl : l = 0 := by omega
        rw [if_neg (by omega), if_neg (by omega), if_pos rfl]
      · rcases Nat.lt_or_ge l 2 with z2 | z2
        · obtain rfl : l = 1 := by omega
          rw [if_neg (by omega), if_pos rfl]
        · obtain rfl : l = 2 := by omega
          rw [if_pos rfl]
    · rw [pk_un (by omega), pk_un (by omega), pk_un (by omega), sc_at_lt _ _ _ (by omega)]
      exact p1 l hl i (by omega)
  · rw [pk_us, List.length_append]; rfl
  · rw [pk_un (by omega), pk_un (by omega), pk_un (by omega)]; exact p3 j hj
  · rw [pk_un hj]; exact p4 j hj
theorem y_el_l {post : SY → Prop} {sd m : Nat} {ee0 en0 es : Nat → Int32} {F : List Int32} (hs : sd < 2) (hm : m ≤ 6) (hN : F.length ≤ 64) (hA : sc_All F) (hr : sc_Rp ro F) (hcm : sc_Chr cm) (hef : sc_Opt ef) (hes : ∀ i, i < 48 → ¬ ef i = -1 → vp_in (es i) 48 ∧ eb i = es i) :
    ∀ (L : Nat) (rest pre acc : List Int32) (ee en : Nat → Int32), rest.length ≤ L → F = pre ++ rest → acc.length + 2 * rest.length ≤ 128 → sc_PY wt sd ee0 en0 acc ee en →
    (∀ ee en, sc_PY wt sd ee0 en0 (acc ++ sc_el cf cs cm m ef es rest) ee en → post (nI m, rl, nI F.length, cl, dt, df, pb, lo, uf, us, fi, ki, wt, ef, eb, di, ex, cf, cs, cm, lg, tx, le, rr, ro, fm, fL, ee, en, ye, lv, se, pg, ou)) → ∀ n, rest.length + 1 ≤ n → wY_analyse_57 post (nI sd) n (nI pre.length) (nI m) rl (nI F.length) cl dt df pb lo uf us fi ki wt ef eb di ex cf cs cm lg tx le rr ro fm fL ee en ye lv se pg ou := by
  have ng : ∀ j, ef j < 0 ↔ ef j = -1 := fun j => ⟨fun z => (hef j).elim id (fun w => absurd z (sn_pos w)), fun z => by rw [z]; decide⟩
  intro L
  induction L with
  | zero =>
    intro rest pre acc ee en hL hF ha hP h n hn
    obtain ⟨n, rfl⟩ : ∃ q, n = q + 1 := ⟨n - 1, by omega⟩
    cases rest with
    | cons c r => exact absurd hL (by simp)
    | nil =>
      have hlen : F.length = pre.length := by rw [hF, List.append_nil]
      rw [sc_el, List.append_nil] at h
      exact br_t (nI_le (by omega) (by omega)) (h ee en hP)
  | succ L ih =>
    intro rest pre acc ee en hL hF ha hP h n hn
    obtain ⟨n, rfl⟩ : ∃ q, n = q + 1 := ⟨n - 1, by omega⟩
    cases rest with
    | nil =>
      have hlen : F.length = pre.length := by rw [hF, List.append_nil]
      rw [sc_el, List.append_nil] at h
      exact br_t (nI_le (by omega) (by omega)) (h ee en hP)
    | cons c r =>
      have hL' : r.length + 1 ≤ L + 1 := hL
      have ha' : acc.length + 2 * (r.length + 1) ≤ 128 := ha
      have hn' : r.length + 1 + 1 ≤ n + 1 := hn
      have hlen : F.length = pre.length + r.length + 1 := by rw [hF]; exact sc_len_mid pre r c
      have hA2 : sc_All (c :: r) := by rw [hF] at hA; exact (sc_All_app.mp hA).2
      have hc := (sc_All_cons.mp hA2).1
      have wc : ro (nI pre.length).toNatClampNeg = c := by
        rw [nI_clamp (by omega)]; rw [hF] at hr; exact sc_Rp_mid hr
      have xl := (sc_xpP hef hes hc).2
      have one : (sc_el cf cs cm m ef es (c :: r) = sc_xp ef es c ++ sc_el cf cs cm m ef es r) → wY_analyse_99 post (wY_analyse_57 post (nI sd) n) (nI sd) (nI pre.length) c (-1) (nI m) rl (nI F.length) cl dt df pb lo uf us fi ki wt ef eb di ex cf cs cm lg tx le rr ro fm fL ee en ye lv se pg ou := by
        intro eq
        rw [eq] at h
        have go : ∀ ee en, sc_PY wt sd ee0 en0 (acc ++ sc_xp ef es c) ee en → wY_analyse_57 post (nI sd) n (nI (pre.length + 1)) (nI m) rl (nI F.length) cl dt df pb lo uf us fi ki wt ef eb di ex cf cs cm lg tx le rr ro fm fL ee en ye lv se pg ou := by
          intro ee en hP'
          have g := ih r (pre ++ [c]) (acc ++ sc_xp ef es c) ee en (by omega) (by rw [List.append_assoc]; exact hF) (by rw [List.length_append]; omega) hP' (by rw [List.append_assoc]; exact h) n (by omega)
          rw [List.length_append] at g
          exact g
        unfold sc_xp at go
        refine br_t (by decide) ⟨hc, br_c (fun a => ?_) (fun a => ⟨hc, ?_⟩)⟩
        · rw [if_pos ((ng _).mp a)] at go
          exact y_elem hs hc (by omega) hP (fun ee en hP' => nm_r (nI_1 _) (go ee en hP'))
        · have a' : ¬ ef c.toNatClampNeg = -1 := fun z => a ((ng _).mpr z)
          rw [if_neg a'] at go
          obtain ⟨v2, eb2⟩ := hes _ (sn_cl hc) a'
          refine y_elem hs ((hef _).elim (fun z => absurd z a') id) (by omega) hP (fun ee en hP1 => ⟨hc, ?_⟩)
          rw [eb2]
          refine y_elem hs v2 (by rw [List.length_append]; show acc.length + 1 < 128; omega) hP1 (fun ee en hP2 => nm_r (nI_1 _) (go ee en ?_))
          rw [List.append_assoc] at hP2; exact hP2
      refine br_f (nI_ge (by omega) (by omega)) ⟨vp_in_nI (by omega) (by decide), nm_r wc ?_⟩
      rw [nI_1]
      cases r with
      | nil =>
        have l0 : ([] : List Int32).length = 0 := rfl
        refine br_t (nI_le (by omega) (by omega)) (one ?_)
        rw [sc_el, sc_el, List.append_nil]
      | cons c2 r =>
        have l1 : (c2 :: r).length = r.length + 1 := rfl
        have wc2 : ro (nI (pre.length + 1)).toNatClampNeg = c2 := by
          rw [nI_clamp (by omega)]
          rw [hF] at hr
          have hr2 : sc_Rp ro ((pre ++ [c]) ++ c2 :: r) := by rw [List.append_assoc]; exact hr
          have := sc_Rp_mid hr2
          rw [List.length_append] at this
          exact this
        refine br_f (nI_ge (by omega) (by omega)) ⟨vp_in_nI (by omega) (by decide), y_fc hm ?_⟩
        rw [wc2]
        rcases sc_fcR cf cs c c2 m 0 with e | ⟨z, hz, e⟩
        · rw [e]
          refine one ?_
          rw [sc_el, if_pos e]
        · rw [e]
          rw [sc_el, if_neg (by rw [e]; exact sc_m1 z (by omega)), e, nI_clamp (by omega)] at h
          refine br_f (nI_pos (by omega)) ⟨vp_in_nI (by omega) (by decide), ?_⟩
          rw [nI_clamp (by omega)]
          refine y_elem hs (hcm _) (by omega) hP (fun ee en hP1 => nm_r (nI_1 _) (nm_r (nI_1 _) ?_))
          have g := ih r (pre ++ [c, c2]) (acc ++ [cm z]) ee en (by omega) (by rw [List.append_assoc]; exact hF) (by rw [List.length_append]; show acc.length + 1 + 2 * r.length ≤ 128; omega) hP1 (by rw [List.append_assoc]; exact h) n (by omega)
          rw [List.length_append] at g
          exact g
end
end
section
/-! one side loaded, the other kept -/
def sc_SX (sd : Nat) (fo fl el ec : Nat → Int32) (F E : List Int32) : Prop := sc_Sg fo (64 * sd) F ∧ fl sd = nI F.length ∧ sc_Sg el (128 * sd) E ∧ ec sd = nI E.length
def sc_SY (wt : Nat → Int32) (sd : Nat) (fm fL ee en : Nat → Int32) (F E : List Int32) : Prop :=
  sc_Sg fm (64 * sd) F ∧ fL sd = nI F.length ∧ (∀ l, l < 3 → ∀ i, i < E.length → ee (384 * sd + 128 * l + i) = wt (3 * (sc_at E i).toNatClampNeg + l)) ∧ en sd = nI E.length
theorem sc_cpV (f : Nat → Int32) (o : Nat) : ∀ d i a j, sc_cp f o d i a j = if o + i ≤ j ∧ j < o + i + d then f (j - o) else a j := by
  intro d
  induction d with
  | zero => intro i a j; exact (if_neg (by omega)).symm
  | succ d ih =>
    intro i a j
    show sc_cp f o d (i + 1) (upd a (o + i) (f i)) j = _
    rw [ih]
    unfold upd
    by_cases h : o + (i + 1) ≤ j ∧ j < o + (i + 1) + d
    · rw [if_pos h, if_pos (by omega)]
    · rw [if_neg h]
      by_cases e : j = o + i
      · rw [if_pos e, if_pos (by omega), e, Nat.add_sub_cancel_left]
      · rw [if_neg e, if_neg (by omega)]
theorem sc_SgC {a : Nat → Int32} {F : List Int32} (o : Nat) (hr : sc_Rp a F) (b : Nat → Int32) : sc_Sg (sc_cp a o F.length 0 b) o F := by
  intro i hi
  rw [sc_cpV, if_pos (by omega), Nat.add_sub_cancel_left]
  exact hr i hi
section
variable {cc rl wl : Int32} {cl dt df ds ex lo uf us fi ki ef es di we cf cs cm tx le rr wk sh fo fl el ec ke kl em oe be pl po : Nat → Int32}
theorem x_cpf_l {post : SX → Prop} {sd N : Nat} (hs : sd < 2) (hN : N ≤ 64) : ∀ (d i : Nat) (fo : Nat → Int32), i + d = N →
    wpX_loadElements (fun u => match u with | (cc, rl, wl, cl, dt, df, ds, ex, lo, uf, us, fi, ki, ef, es, di, we, cf, cs, cm, tx, le, rr, wk, sh, fo, fl, el, ec, ke, kl, em, oe, be, pl, po) => post (cc, rl, wl, cl, dt, df, ds, ex, lo, uf, us, fi, ki, ef, es, di, we, cf, cs, cm, tx, le, rr, wk, sh, fo, fl, el, ec, ke, kl, em, oe, be, pl, po)) (cc, rl, nI N, cl, dt, df, ds, ex, lo, uf, us, fi, ki, ef, es, di, we, cf, cs, cm, tx, le, rr, wk, sh, sc_cp wk (64 * sd) d i fo, upd fl sd (nI N), el, ec, ke, kl, em, oe, be, pl, po) (nI sd) → wX_loadSide_18 post (nI sd) (nI (64 * sd)) cc rl (nI N) (d + 1) (nI i) cl dt df ds ex lo uf us fi ki ef es di we cf cs cm tx le rr wk sh fo fl el ec ke kl em oe be pl po := by
  intro d
  induction d with
  | zero => exact fun i fo hi h => br_t (nI_le (by omega) (by omega)) ⟨vp_in_nI hs (by decide), nm_r (by rw [nI_clamp (by omega)]) h⟩
  | succ d ih => exact fun i fo hi h => br_f (nI_ge (by omega) (by omega)) ⟨vp_in_nI (by omega) (by decide), pk_in (64 * sd + i) 128 (by omega) (nI_add _ _), nm_r (by rw [nI_add, nI_clamp (by omega), nI_clamp (by omega)]) (nm_r (nI_1 i) (ih (i + 1) _ (by omega) h))⟩
theorem x_loadSide {post : SX → Prop} {sd t b e m : Nat} {eb : Nat → Int32} (hs : sd < 2) (ht : t < 2) (he : e ≤ 16) (hb : b ≤ e) (hm : m ≤ 6) (htx : sc_Chr tx) (hd : sc_Dec dt df ds) (hcm : sc_Chr cm) (hef : sc_Opt ef) (hes : ∀ i, i < 48 → ¬ ef i = -1 → vp_in (es i) 48 ∧ eb i = es i)
    (h : ∀ wl wk fo' fl' el' ec', sc_SX sd fo' fl' el' ec' (sc_nf cl dt df ds ex 0 (sc_ld tx t (e - b) b)) (sc_el cf cs cm m ef es (sc_nf cl dt df ds ex 0 (sc_ld tx t (e - b) b))) →
      (∀ s' F' E', s' < 2 → ¬ s' = sd → F'.length ≤ 64 → E'.length ≤ 128 → sc_SX s' fo fl el ec F' E' → sc_SX s' fo' fl' el' ec' F' E') → post (nI m, rl, wl, cl, dt, df, ds, ex, lo, uf, us, fi, ki, ef, es, di, we, cf, cs, cm, tx, le, rr, wk, sh, fo', fl', el', ec', ke, kl, em, oe, be, pl, po)) : wpX_loadSide post (nI m, rl, wl, cl, dt, df, ds, ex, lo, uf, us, fi, ki, ef, es, di, we, cf, cs, cm, tx, le, rr, wk, sh, fo, fl, el, ec, ke, kl, em, oe, be, pl, po) (nI sd) (nI t) (nI b) (nI e) := by
  obtain ⟨n1, n2⟩ := sc_nfG (cl := cl) ex hd 0 (sc_ldA htx t (e - b) b) (by rw [sc_ldL]; omega)
  unfold wpX_loadSide
  refine x_form (f := 0) ht he hb (by omega) htx hd (fun wk1 hr1 => nm_r (e' := nI (64 * sd)) (by rw [show (64 : Int32) = nI 64 from rfl, pk_mul, Nat.mul_comm]) ⟨_, x_cpf_l hs n2 _ 0 fo (Nat.zero_add _) ?_⟩)
  unfold wpX_loadElements
  refine ⟨vp_in_nI hs (by decide), nm_r (e' := upd ec sd 0) (by rw [nI_clamp (by omega)]) ⟨_, x_el_l (el0 := el) (ec0 := ec) hs hm n2 n1 hr1 hef hes (sc_nf cl dt df ds ex 0 (sc_ld tx t (e - b) b)).length (sc_nf cl dt df ds ex 0 (sc_ld tx t (e - b) b)) [] [] el (upd ec sd 0) (Nat.le_refl _) rfl ?_ ?_ (fun el' ec' hP => ?_) _ (Nat.le_refl _)⟩⟩
  · have l0 : ([] : List Int32).length = 0 := rfl
    omega
  · exact ⟨fun i hi => absurd hi (Nat.not_lt_zero _), pk_us, fun j _ => rfl, fun j hj => pk_un hj⟩
  · obtain ⟨p1, p2, p3, p4⟩ := hP
    refine h _ _ _ _ _ _ ⟨sc_SgC _ hr1 fo, pk_us, p1, p2⟩ (fun s' F' E' hs' hne hF hE q => ?_)
    obtain ⟨q1, q2, q3, q4⟩ := q
    refine ⟨fun i hi => ?_, (pk_un hne).trans q2, fun i hi => ?_, (p4 s' hne).trans q4⟩
    · rw [sc_cpV, if_neg (by omega)]; exact q1 i hi
    · rw [p3 _ (by omega)]; exact q3 i hi
end
section
variable {cc rl yn : Int32} {cl dt df pb lo uf us fi ki wt ef eb di ex cf cs cm lg tx le rr ro fm fL ee en ye lv se pg ou : Nat → Int32}
theorem y_cpf_l {post : SY → Prop} {sd N : Nat} (hs : sd < 2) (hN : N ≤ 64) : ∀ (d i : Nat) (fm : Nat → Int32), i + d = N →
    (∃ n57 : Nat, wY_analyse_57 post (nI sd) n57 0 cc rl (nI N) cl dt df pb lo uf us fi ki wt ef eb di ex cf cs cm lg tx le rr ro (sc_cp ro (64 * sd) d i fm) fL ee en ye lv se pg ou) → wY_analyse_26 post (nI sd) 0 cc rl (nI N) (d + 1) (nI i) cl dt df pb lo uf us fi ki wt ef eb di ex cf cs cm lg tx le rr ro fm fL ee en ye lv se pg ou := by
  have e1 : ∀ i, 64 * nI sd + nI i = nI (64 * sd + i) := fun i => by rw [show (64 : Int32) = nI 64 from rfl, pk_mul, nI_add]
  intro d
  induction d with
  | zero => exact fun i fm hi h => br_t (nI_le (by omega) (by omega)) h
  | succ d ih => exact fun i fm hi h => br_f (nI_ge (by omega) (by omega)) ⟨vp_in_nI (by omega) (by decide), pk_in (64 * sd + i) 128 (by omega) (e1 i), nm_r (by rw [e1, nI_clamp (by omega), nI_clamp (by omega)]) (nm_r (nI_1 i) (ih (i + 1) _ (by omega) h))⟩
theorem y_loadSide {post : SY → Prop} {sd t b e m : Nat} {ds es : Nat → Int32} (hs : sd < 2) (ht : t < 2) (he : e ≤ 16) (hb : b ≤ e) (hm : m ≤ 6) (htx : sc_Chr tx) (hc : ∀ i, vp_in (cl i) 10) (hd : sc_Dec dt df ds) (hpb : ∀ i, i < 48 → ¬ dt i = 0 → pb i = ds i) (hcm : sc_Chr cm) (hef : sc_Opt ef) (hes : ∀ i, i < 48 → ¬ ef i = -1 → vp_in (es i) 48 ∧ eb i = es i)
    (h : ∀ yn ro fm' fL' ee' en', sc_SY wt sd fm' fL' ee' en' (sc_nf cl dt df ds ex 0 (sc_ld tx t (e - b) b)) (sc_el cf cs cm m ef es (sc_nf cl dt df ds ex 0 (sc_ld tx t (e - b) b))) →
      (∀ s' F' E', s' < 2 → ¬ s' = sd → F'.length ≤ 64 → E'.length ≤ 128 → sc_SY wt s' fm fL ee en F' E' → sc_SY wt s' fm' fL' ee' en' F' E') → post (nI m, rl, yn, cl, dt, df, pb, lo, uf, us, fi, ki, wt, ef, eb, di, ex, cf, cs, cm, lg, tx, le, rr, ro, fm', fL', ee', en', ye, lv, se, pg, ou)) :
    wpY_load (fun u => match u with | (cc, rl, yn, cl, dt, df, pb, lo, uf, us, fi, ki, wt, ef, eb, di, ex, cf, cs, cm, lg, tx, le, rr, ro, fm, fL, ee, en, ye, lv, se, pg, ou) => wpY_analyse post (cc, rl, yn, cl, dt, df, pb, lo, uf, us, fi, ki, wt, ef, eb, di, ex, cf, cs, cm, lg, tx, le, rr, ro, fm, fL, ee, en, ye, lv, se, pg, ou) (nI sd)) (nI m, rl, yn, cl, dt, df, pb, lo, uf, us, fi, ki, wt, ef, eb, di, ex, cf, cs, cm, lg, tx, le, rr, ro, fm, fL, ee, en, ye, lv, se, pg, ou) (nI t) (nI b) (nI e) := by
  obtain ⟨n1, n2⟩ := sc_nfG (cl := cl) ex hd 0 (sc_ldA htx t (e - b) b) (by rw [sc_ldL]; omega)
  refine y_load ht he hb (fun ro1 hq1 => ?_)
  unfold wpY_analyse
  refine y_norm (f := 0) (by omega) hc hd hpb (sc_ldA htx t _ _) (by rw [sc_ldL]; omega) hq1 (fun ro2 hr2 => ⟨vp_in_nI hs (by decide), nm_r (e' := upd fL sd (nI (sc_nf cl dt df ds ex 0 (sc_ld tx t (e - b) b)).length)) (by rw [nI_clamp (by omega)]) ⟨vp_in_nI hs (by decide), nm_r (e' := upd en sd 0) (by rw [nI_clamp (by omega)]) ⟨_, y_cpf_l hs n2 _ 0 fm (Nat.zero_add _) ⟨(sc_nf cl dt df ds ex 0 (sc_ld tx t (e - b) b)).length + 1, ?_⟩⟩⟩⟩)
  refine y_el_l (ee0 := ee) (en0 := en) hs hm n2 n1 hr2 hcm hef hes (sc_nf cl dt df ds ex 0 (sc_ld tx t (e - b) b)).length (sc_nf cl dt df ds ex 0 (sc_ld tx t (e - b) b)) [] [] ee (upd en sd 0) (Nat.le_refl _) rfl ?_ ?_ (fun ee' en' hP => ?_) _ (Nat.le_refl _)
  · have l0 : ([] : List Int32).length = 0 := rfl
    omega
  · exact ⟨fun l _ i hi => absurd hi (Nat.not_lt_zero _), pk_us, fun j _ => rfl, fun j hj => pk_un hj⟩
  · obtain ⟨p1, p2, p3, p4⟩ := hP
    refine h _ _ _ _ _ _ ⟨sc_SgC _ hr2 fm, pk_us, p1, p2⟩ (fun s' F' E' hs' hne hF hE q => ?_)
    obtain ⟨q1, q2, q3, q4⟩ := q
    refine ⟨fun i hi => ?_, (pk_un hne).trans q2, fun l hl i hi => ?_, (p4 s' hne).trans q4⟩
    · rw [sc_cpV, if_neg (by omega)]; exact q1 i hi
    · rw [p3 _ (by omega)]; exact q3 l hl i hi
end
end
section
/-! keys, and comparison of rows -/
def sc_h (we : Nat → Int32) (l : Nat) (E : List Int32) (i : Nat) : Int32 := we (48 * l + (sc_at E i).toNatClampNeg)
def sc_kh (h : Nat → Int32) : Nat → Nat → List Int32
  | 0, _ => []
  | d + 1, i => if h i = 0 then sc_kh h d (i + 1) else h i :: sc_kh h d (i + 1)
def sc_nw (h : Nat → Int32) : Nat → Nat → Nat
  | 0, i => i
  | d + 1, i => if h i = 0 then sc_nw h d (i + 1) else i
def sc_cmp : List Int32 → List Int32 → Int32
  | [], [] => 0
  | [], _ :: _ => -1
  | _ :: _, [] => 1
  | x :: a, y :: b => if x = y then sc_cmp a b else if y ≤ x then 1 else -1
theorem sc_khL (h : Nat → Int32) : ∀ d i, (sc_kh h d i).length ≤ d := by
  intro d
  induction d with
  | zero => exact fun i => Nat.le_refl _
  | succ d ih =>
    intro i
    unfold sc_kh
    have := ih (i + 1)
    split
    · omega
    · rw [List.length_cons]; omega
theorem sc_khE {h h' : Nat → Int32} : ∀ d i, (∀ j, i ≤ j → j < i + d → h j = h' j) → sc_kh h d i = sc_kh h' d i := by
  intro d
  induction d with
  | zero => exact fun i _ => rfl
  | succ d ih =>
    intro i e
    unfold sc_kh
    rw [e i (by omega) (by omega), ih (i + 1) (fun j a b => e j (by omega) (by omega))]
theorem sc_nwR (h : Nat → Int32) : ∀ d i, i ≤ sc_nw h d i ∧ sc_nw h d i ≤ i + d ∧ (sc_nw h d i < i + d → ¬ h (sc_nw h d i) = 0) ∧ sc_kh h d i = sc_kh h (i + d - sc_nw h d i) (sc_nw h d i) := by
  intro d
  induction d with
  | zero => exact fun i => ⟨Nat.le_refl _, Nat.le_refl _, fun z => absurd z (Nat.lt_irrefl i), by show sc_kh h 0 i = sc_kh h (i + 0 - i) i; rw [Nat.add_zero, Nat.sub_self]⟩
  | succ d ih =>
    intro i
    unfold sc_nw
    by_cases z : h i = 0
    · rw [if_pos z]
      obtain ⟨a, b, c, e⟩ := ih (i + 1)
      refine ⟨by omega, by omega, fun w => c (by omega), ?_⟩
      rw [sc_kh, if_pos z, e]
      congr 1
      omega
    · rw [if_neg z]
      exact ⟨Nat.le_refl _, by omega, fun _ => z, by rw [show i + (d + 1) - i = d + 1 by omega]⟩
theorem sc_khC {h : Nat → Int32} {d i : Nat} (z : ¬ h i = 0) : sc_kh h (d + 1) i = h i :: sc_kh h d (i + 1) := by
  rw [sc_kh, if_neg z]
def sc_KX (sd : Nat) (ke kl : Nat → Int32) (K : List Int32) : Prop := sc_Sg ke (128 * sd) K ∧ kl sd = nI K.length
section
variable {cc rl wl : Int32} {cl dt df ds ex lo uf us fi ki ef es di we cf cs cm tx le rr wk sh fo fl el ec ke kl em oe be pl po : Nat → Int32}
theorem x_key_l {post : SX → Prop} {sd l : Nat} {E : List Int32} {ke0 : Nat → Int32} (hs : sd < 2) (hl : l < 3) (hE : E.length ≤ 128) (hA : sc_All E) (hel : sc_Sg el (128 * sd) E) (hec : ec sd = nI E.length)
    (h : ∀ ke, sc_Sg ke (128 * sd) (sc_kh (sc_h we l E) E.length 0) → (∀ j, j < 128 * sd ∨ 128 * sd + 128 ≤ j → ke j = ke0 j) → post (cc, rl, wl, cl, dt, df, ds, ex, lo, uf, us, fi, ki, ef, es, di, we, cf, cs, cm, tx, le, rr, wk, sh, fo, fl, el, ec, ke, upd kl sd (nI (sc_kh (sc_h we l E) E.length 0).length), em, oe, be, pl, po)) :
    ∀ (d i : Nat) (acc : List Int32) (ke : Nat → Int32), i + d = E.length → acc.length ≤ i → sc_kh (sc_h we l E) E.length 0 = acc ++ sc_kh (sc_h we l E) d i → sc_Sg ke (128 * sd) acc → (∀ j, j < 128 * sd ∨ 128 * sd + 128 ≤ j → ke j = ke0 j) →
    wX_loadKey_12 post (nI sd) (nI (l + 1)) (nI (128 * sd)) cc rl wl (d + 1) (nI acc.length) (nI i) cl dt df ds ex lo uf us fi ki ef es di we cf cs cm tx le rr wk sh fo fl el ec ke kl em oe be pl po := by
  have cs' : (nI sd).toNatClampNeg = sd := nI_clamp (by omega)
  have hv : vp_in (nI sd) 2 := vp_in_nI hs (by decide)
  intro d
  induction d with
  | zero =>
    intro i acc ke hi ha hk hsg hfr
    rw [sc_kh, List.append_nil] at hk
    rw [hk] at h
    refine ⟨hv, ?_⟩
    rw [cs', hec]
    exact br_t (nI_le (by omega) (by omega)) ⟨hv, nm_e (h ke hsg hfr)⟩
  | succ d ih =>
    intro i acc ke hi ha hk hsg hfr
    refine ⟨hv, ?_⟩
    rw [cs', hec]
    have e1 : nI (128 * sd) + nI i = nI (128 * sd + i) := nI_add _ _
    obtain ⟨q, hq, eq⟩ := vp_in_of (hA _ (sc_at_mem E i (by omega))) (by decide)
    have e2 : el (nI (128 * sd) + nI i).toNatClampNeg = nI q := by rw [e1, nI_clamp (by omega), hel i (by omega)]; exact eq
    have e3 : (nI (l + 1) - 1) * 48 + nI q = nI (48 * l + q) := by rw [nI_pred, show (48 : Int32) = nI 48 from rfl, pk_mul, nI_add, Nat.mul_comm]
    have e4 : sc_h we l E i = we (48 * l + q) := by unfold sc_h; rw [eq, nI_clamp (by omega)]
    have e5 : nI (128 * sd) + nI acc.length = nI (128 * sd + acc.length) := nI_add _ _
    rw [sc_kh] at hk
    rw [e2, e3]
    refine br_f (nI_ge (by omega) (by omega)) ⟨by rw [e1]; exact vp_in_nI (by omega) (by decide), vp_in_nI (by omega) (by decide), nm_r (e' := we (48 * l + q)) (by rw [nI_clamp (by omega)]) (br_c (fun a => nm_r (nI_1 i) (ih (i + 1) acc ke (by omega) (by omega) ?_ hsg hfr)) (fun a => ⟨by rw [e5]; exact vp_in_nI (by omega) (by decide), nm_r (e' := upd ke (128 * sd + acc.length) (we (48 * l + q))) (by rw [e5, nI_clamp (by omega)]) (nm_r (nI_1 _) (nm_r (nI_1 i) ?_))⟩))⟩
    · rw [if_pos (e4.trans a)] at hk; exact hk
    · rw [if_neg (fun z => a (e4.symm.trans z)), e4] at hk
      have g := ih (i + 1) (acc ++ [we (48 * l + q)]) (upd ke (128 * sd + acc.length) (we (48 * l + q))) (by omega) (by rw [List.length_append]; show acc.length + 1 ≤ i + 1; omega) (by rw [List.append_assoc]; exact hk) (fun j hj => ?_) (fun j hj => ?_)
      · rw [List.length_append] at g
        exact g
      · have hj' : j < acc.length + 1 := by simpa using hj
        by_cases e : j = acc.length
        · rw [e, pk_us, sc_at_mid]
        · rw [pk_un (by omega), hsg j (by omega), sc_at_lt _ _ _ (by omega)]
      · rw [pk_un (by omega)]; exact hfr j hj
theorem x_loadKey {post : SX → Prop} {sd l : Nat} {F E : List Int32} (hs : sd < 2) (hl : l < 3) (hE : E.length ≤ 128) (hA : sc_All E) (hX : sc_SX sd fo fl el ec F E)
    (h : ∀ ke' kl', sc_KX sd ke' kl' (sc_kh (sc_h we l E) E.length 0) → (∀ s' K', s' < 2 → ¬ s' = sd → K'.length ≤ 128 → sc_KX s' ke kl K' → sc_KX s' ke' kl' K') → post (cc, rl, wl, cl, dt, df, ds, ex, lo, uf, us, fi, ki, ef, es, di, we, cf, cs, cm, tx, le, rr, wk, sh, fo, fl, el, ec, ke', kl', em, oe, be, pl, po)) : wpX_loadKey post (cc, rl, wl, cl, dt, df, ds, ex, lo, uf, us, fi, ki, ef, es, di, we, cf, cs, cm, tx, le, rr, wk, sh, fo, fl, el, ec, ke, kl, em, oe, be, pl, po) (nI sd) (nI (l + 1)) := by
  unfold wpX_loadKey
  refine nm_r (e' := nI (128 * sd)) (by rw [show (128 : Int32) = nI 128 from rfl, pk_mul, Nat.mul_comm]) ⟨E.length + 1, x_key_l (ke0 := ke) hs hl hE hA hX.2.2.1 hX.2.2.2 (fun ke' hsg hfr => h _ _ ⟨hsg, pk_us⟩ (fun s' K' hs' hne hK q => ⟨fun j hj => ?_, (pk_un hne).trans q.2⟩)) E.length 0 [] ke (by omega) (Nat.le_refl _) rfl (fun i hi => absurd hi (Nat.not_lt_zero _)) (fun j _ => rfl)⟩
  rw [hfr _ (by omega)]; exact q.1 j hj
theorem x_cmpk_l {post : Int32 → Prop} {K0 K1 : List Int32} (h0 : sc_Sg ke 0 K0) (h1 : sc_Sg ke 128 K1) (l0 : kl 0 = nI K0.length) (l1 : kl 1 = nI K1.length) (b0 : K0.length ≤ 128) (b1 : K1.length ≤ 128) :
    ∀ (a b p0 p1 : List Int32), K0 = p0 ++ a → K1 = p1 ++ b → p0.length = p1.length → post (sc_cmp a b) → wX_compareRows__keys_keyLengths_3 post 128 cc rl wl cl dt df ds ex lo uf us fi ki ef es di we cf cs cm tx le rr wk sh fo fl el ec ke kl em oe be pl po (a.length + 1) (nI p0.length) := by
  intro a
  induction a with
  | nil =>
    intro b p0 p1 e0 e1 el' h
    have n0 : K0.length = p0.length := by rw [e0, List.append_nil]
    have fin : wX_compareRows__keys_keyLengths_63 post cc rl wl cl dt df ds ex lo uf us fi ki ef es di we cf cs cm tx le rr wk sh fo fl el ec ke kl em oe be pl po := by
      unfold wX_compareRows__keys_keyLengths_63
      rw [l0, l1]
      cases b with
      | nil =>
        have n1 : K1.length = p1.length := by rw [e1, List.append_nil]
        exact br_t (by rw [n0, n1, el']) h
      | cons y b =>
        have n1 : K1.length = p1.length + b.length + 1 := by rw [e1]; exact sc_len_mid p1 b y
        exact br_f (fun z => by have := (nI_eq (by omega) (by omega)).mp z; omega) (br_f (nI_ge (by omega) (by omega)) h)
    by_cases z : 128 ≤ p0.length
    · exact br_t (nI_le (a := 128) z (by omega)) fin
    · exact br_f (nI_ge (b := 128) (by omega) (by decide)) (br_t (by rw [l0]; exact nI_le (by omega) (by omega)) fin)
  | cons x a ih =>
    intro b p0 p1 e0 e1 el' h
    have n0 : K0.length = p0.length + a.length + 1 := by rw [e0]; exact sc_len_mid p0 a x
    refine br_f (nI_ge (b := 128) (by omega) (by decide)) (br_f (by rw [l0]; exact nI_ge (by omega) (by omega)) ?_)
    rw [l1]
    cases b with
    | nil =>
      have n1 : K1.length = p1.length := by rw [e1, List.append_nil]
      refine br_t (nI_le (by omega) (by omega)) ?_
      unfold wX_compareRows__keys_keyLengths_63
      rw [l0, l1]
      exact br_f (fun z => by have := (nI_eq (by omega) (by omega)).mp z; omega) (br_t (nI_le (by omega) (by omega)) h)
    | cons y b =>
      have n1 : K1.length = p1.length + b.length + 1 := by rw [e1]; exact sc_len_mid p1 b y
      have ex' : ke (nI p0.length).toNatClampNeg = x := by
        have := h0 p0.length (by omega)
        rw [Nat.zero_add, e0, sc_at_mid] at this
        rw [nI_clamp (by omega)]; exact this
      have er : (128 : Int32) + nI p0.length = nI (128 + p0.length) := nI_add 128 p0.length
      have ey : ke ((128 : Int32) + nI p0.length).toNatClampNeg = y := by
        have := h1 p1.length (by omega)
        rw [e1, sc_at_mid] at this
        rw [er, nI_clamp (by omega), el']; exact this
      have v0 : vp_in (nI p0.length) 256 := vp_in_nI (by omega) (by decide)
      have v1 : vp_in ((128 : Int32) + nI p0.length) 256 := by rw [er]; exact vp_in_nI (by omega) (by decide)
      refine br_f (nI_ge (by omega) (by omega)) ⟨v0, v1, ?_⟩
      rw [ex', ey]
      rw [sc_cmp] at h
      refine br_c (fun q => nm_r (nI_1 _) ?_) (fun q => ⟨v0, v1, br_c (fun r => ?_) (fun r => ?_)⟩)
      · rw [if_pos q] at h
        have g := ih b (p0 ++ [x]) (p1 ++ [y]) (by rw [List.append_assoc]; exact e0) (by rw [List.append_assoc]; exact e1) (by rw [List.length_append, List.length_append, el']; rfl) h
        rw [List.length_append] at g
        exact g
      · rw [if_neg q, if_pos r] at h; exact h
      · rw [if_neg q, if_neg r] at h; exact h
theorem x_cmpf_l {post : Int32 → Prop} {K0 K1 : List Int32} (h0 : sc_Sg fo 0 K0) (h1 : sc_Sg fo 64 K1) (l0 : fl 0 = nI K0.length) (l1 : fl 1 = nI K1.length) (b0 : K0.length ≤ 64) (b1 : K1.length ≤ 64) :
    ∀ (a b p0 p1 : List Int32), K0 = p0 ++ a → K1 = p1 ++ b → p0.length = p1.length → post (sc_cmp a b) → wX_compareRows__forms_formLengths_3 post 64 cc rl wl cl dt df ds ex lo uf us fi ki ef es di we cf cs cm tx le rr wk sh fo fl el ec ke kl em oe be pl po (a.length + 1) (nI p0.length) := by
  intro a
  induction a with
  | nil =>
    intro b p0 p1 e0 e1 el' h
    have n0 : K0.length = p0.length := by rw [e0, List.append_nil]
    have fin : wX_compareRows__forms_formLengths_63 post cc rl wl cl dt df ds ex lo uf us fi ki ef es di we cf cs cm tx le rr wk sh fo fl el ec ke kl em oe be pl po := by
      unfold wX_compareRows__forms_formLengths_63
      rw [l0, l1]
      cases b with
      | nil =>
        have n1 : K1.length = p1.length := by rw [e1, List.append_nil]
        exact br_t (by rw [n0, n1, el']) h
      | cons y b =>
        have n1 : K1.length = p1.length + b.length + 1 := by rw [e1]; exact sc_len_mid p1 b y
        exact br_f (fun z => by have := (nI_eq (by omega) (by omega)).mp z; omega) (br_f (nI_ge (by omega) (by omega)) h)
    by_cases z : 64 ≤ p0.length
    · exact br_t (nI_le (a := 64) z (by omega)) fin
    · exact br_f (nI_ge (b := 64) (by omega) (by decide)) (br_t (by rw [l0]; exact nI_le (by omega) (by omega)) fin)
  | cons x a ih =>
    intro b p0 p1 e0 e1 el' h
    have n0 : K0.length = p0.length + a.length + 1 := by rw [e0]; exact sc_len_mid p0 a x
    refine br_f (nI_ge (b := 64) (by omega) (by decide)) (br_f (by rw [l0]; exact nI_ge (by omega) (by omega)) ?_)
    rw [l1]
    cases b with
    | nil =>
      have n1 : K1.length = p1.length := by rw [e1, List.append_nil]
      refine br_t (nI_le (by omega) (by omega)) ?_
      unfold wX_compareRows__forms_formLengths_63
      rw [l0, l1]
      exact br_f (fun z => by have := (nI_eq (by omega) (by omega)).mp z; omega) (br_t (nI_le (by omega) (by omega)) h)
    | cons y b =>
      have n1 : K1.length = p1.length + b.length + 1 := by rw [e1]; exact sc_len_mid p1 b y
      have ex' : fo (nI p0.length).toNatClampNeg = x := by
        have := h0 p0.length (by omega)
        rw [Nat.zero_add, e0, sc_at_mid] at this
        rw [nI_clamp (by omega)]; exact this
      have er : (64 : Int32) + nI p0.length = nI (64 + p0.length) := nI_add 64 p0.length
      have ey : fo ((64 : Int32) + nI p0.length).toNatClampNeg = y := by
        have := h1 p1.length (by omega)
        rw [e1, sc_at_mid] at this
        rw [er, nI_clamp (by omega), el']; exact this
      have v0 : vp_in (nI p0.length) 128 := vp_in_nI (by omega) (by decide)
      have v1 : vp_in ((64 : Int32) + nI p0.length) 128 := by rw [er]; exact vp_in_nI (by omega) (by decide)
      refine br_f (nI_ge (by omega) (by omega)) ⟨v0, v1, ?_⟩
      rw [ex', ey]
      rw [sc_cmp] at h
      refine br_c (fun q => nm_r (nI_1 _) ?_) (fun q => ⟨v0, v1, br_c (fun r => ?_) (fun r => ?_)⟩)
      · rw [if_pos q] at h
        have g := ih b (p0 ++ [x]) (p1 ++ [y]) (by rw [List.append_assoc]; exact e0) (by rw [List.append_assoc]; exact e1) (by rw [List.length_append, List.length_append, el']; rfl) h
        rw [List.length_append] at g
        exact g
      · rw [if_neg q, if_pos r] at h; exact h
      · rw [if_neg q, if_neg r] at h; exact h
end
section
variable {cc rl yn : Int32} {cl dt df pb lo uf us fi ki wt ef eb di ex cf cs cm lg tx le rr ro fm fL ee en ye lv se pg ou : Nat → Int32}
theorem y_cmpf_l {post : Int32 → Prop} {K0 K1 : List Int32} (h0 : sc_Sg fm 0 K0) (h1 : sc_Sg fm 64 K1) (l0 : fL 0 = nI K0.length) (l1 : fL 1 = nI K1.length) (b0 : K0.length ≤ 64) (b1 : K1.length ≤ 64) :
    ∀ (a b p0 p1 : List Int32), K0 = p0 ++ a → K1 = p1 ++ b → p0.length = p1.length → post (sc_cmp a b) → wY_compareForms_2 post cc rl yn cl dt df pb lo uf us fi ki wt ef eb di ex cf cs cm lg tx le rr ro fm fL ee en ye lv se pg ou (a.length + 1) (nI p0.length) := by
  intro a
  induction a with
  | nil =>
    intro b p0 p1 e0 e1 el' h
    have n0 : K0.length = p0.length := by rw [e0, List.append_nil]
    refine br_t (by rw [l0]; exact nI_le (by omega) (by omega)) ?_
    unfold wY_compareForms_70
    rw [l0, l1]
    cases b with
    | nil =>
      have n1 : K1.length = p1.length := by rw [e1, List.append_nil]
      exact br_t (nI_le (by omega) (by omega)) (br_t (nI_le (by omega) (by omega)) h)
    | cons y b =>
      have n1 : K1.length = p1.length + b.length + 1 := by rw [e1]; exact sc_len_mid p1 b y
      exact br_f (nI_ge (by omega) (by omega)) h
  | cons x a ih =>
    intro b p0 p1 e0 e1 el' h
    have n0 : K0.length = p0.length + a.length + 1 := by rw [e0]; exact sc_len_mid p0 a x
    refine br_f (by rw [l0]; exact nI_ge (by omega) (by omega)) ?_
    rw [l1]
    cases b with
    | nil =>
      have n1 : K1.length = p1.length := by rw [e1, List.append_nil]
      refine br_t (nI_le (by omega) (by omega)) ?_
      unfold wY_compareForms_70
      rw [l0, l1]
      exact br_t (nI_le (by omega) (by omega)) (br_f (nI_ge (by omega) (by omega)) h)
    | cons y b =>
      have n1 : K1.length = p1.length + b.length + 1 := by rw [e1]; exact sc_len_mid p1 b y
      have ex' : fm (nI p0.length).toNatClampNeg = x := by
        have := h0 p0.length (by omega)
        rw [Nat.zero_add, e0, sc_at_mid] at this
        rw [nI_clamp (by omega)]; exact this
      have er : (64 : Int32) + nI p0.length = nI (64 + p0.length) := nI_add 64 p0.length
      have ey : fm ((64 : Int32) + nI p0.length).toNatClampNeg = y := by
        have := h1 p1.length (by omega)
        rw [e1, sc_at_mid] at this
        rw [er, nI_clamp (by omega), el']; exact this
      have v0 : vp_in (nI p0.length) 128 := vp_in_nI (by omega) (by decide)
      have v1 : vp_in ((64 : Int32) + nI p0.length) 128 := by rw [er]; exact vp_in_nI (by omega) (by decide)
      refine br_f (nI_ge (by omega) (by omega)) ⟨v0, v1, ?_⟩
      rw [ex', ey]
      rw [sc_cmp] at h
      refine br_c (fun q => nm_r (nI_1 _) ?_) (fun q => ⟨v0, v1, br_c (fun r => ?_) (fun r => ?_)⟩)
      · rw [if_pos q] at h
        have g := ih b (p0 ++ [x]) (p1 ++ [y]) (by rw [List.append_assoc]; exact e0) (by rw [List.append_assoc]; exact e1) (by rw [List.length_append, List.length_append, el']; rfl) h
        rw [List.length_append] at g
        exact g
      · rw [if_neg q, if_pos r] at h; exact h
      · rw [if_neg q, if_neg r] at h; exact h
theorem y_nw_l {post : Int32 → Prop} {sd l N : Nat} (hs : sd < 2) (hl : l < 3) (hN : N ≤ 128) (hen : en sd = nI N) : ∀ d i, i + d = N → post (nI (sc_nw (fun i => ee (384 * sd + 128 * l + i)) d i)) → wY_nextWeight_3 post (nI sd) (nI l) cc rl yn cl dt df pb lo uf us fi ki wt ef eb di ex cf cs cm lg tx le rr ro fm fL ee en ye lv se pg ou (d + 1) (nI i) := by
  have cs' : (nI sd).toNatClampNeg = sd := nI_clamp (by omega)
  have hv : vp_in (nI sd) 2 := vp_in_nI hs (by decide)
  have ei : ∀ i, 384 * nI sd + 128 * nI l + nI i = nI (384 * sd + 128 * l + i) := fun i => by rw [show (384 : Int32) = nI 384 from rfl, show (128 : Int32) = nI 128 from rfl, pk_mul, pk_mul, nI_add, nI_add]
  intro d
  induction d with
  | zero => exact fun i hi h => ⟨hv, br_t (by rw [cs', hen]; exact nI_le (by omega) (by omega)) h⟩
  | succ d ih =>
    intro i hi h
    unfold sc_nw at h
    refine ⟨hv, br_f (by rw [cs', hen]; exact nI_ge (by omega) (by omega)) ?_⟩
    rw [ei, nI_clamp (by omega)]
    refine ⟨vp_in_nI (by omega) (by decide), br_c (fun a => nm_r (nI_1 i) (ih (i + 1) (by omega) ?_)) (fun a => ?_)⟩
    · rw [if_pos a] at h; exact h
    · rw [if_neg a] at h; exact h
theorem y_nw {post : Int32 → Prop} {sd l N i : Nat} (hs : sd < 2) (hl : l < 3) (hN : N ≤ 128) (hen : en sd = nI N) (hi : i ≤ N) (h : post (nI (sc_nw (fun i => ee (384 * sd + 128 * l + i)) (N - i) i))) : wpY_nextWeight post (cc, rl, yn, cl, dt, df, pb, lo, uf, us, fi, ki, wt, ef, eb, di, ex, cf, cs, cm, lg, tx, le, rr, ro, fm, fL, ee, en, ye, lv, se, pg, ou) (nI sd) (nI l) (nI i) :=
  ⟨N - i + 1, y_nw_l hs hl hN hen (N - i) i (by omega) h⟩
theorem y_cmpk_l {post : Int32 → Prop} {l N0 N1 : Nat} (hl : l < 3) (b0 : N0 ≤ 128) (b1 : N1 ≤ 128) (l0 : en 0 = nI N0) (l1 : en 1 = nI N1) :
    ∀ (n i j : Nat), N0 + 1 ≤ n + i → i ≤ N0 → j ≤ N1 → (i < N0 → ¬ ee (384 * 0 + 128 * l + i) = 0) → (j < N1 → ¬ ee (384 * 1 + 128 * l + j) = 0) →
    post (sc_cmp (sc_kh (fun i => ee (384 * 0 + 128 * l + i)) (N0 - i) i) (sc_kh (fun i => ee (384 * 1 + 128 * l + i)) (N1 - j) j)) → wY_compareKeys_16 post (nI l) cc rl yn cl dt df pb lo uf us fi ki wt ef eb di ex cf cs cm lg tx le rr ro fm fL ee en ye lv se pg ou n (nI i) (nI j) := by
  intro n
  induction n with
  | zero => intro i j hn hi hj; omega
  | succ n ih =>
    intro i j hn hi hj hz0 hz1 h
    by_cases e0 : i < N0
    · obtain ⟨d0, hd0⟩ : ∃ d, N0 - i = d + 1 := ⟨N0 - i - 1, by omega⟩
      rw [hd0, sc_khC (h := fun i => ee (384 * 0 + 128 * l + i)) (hz0 e0)] at h
      refine br_f (by rw [l0]; exact nI_ge e0 (by omega)) ?_
      rw [l1]
      by_cases e1 : j < N1
      · obtain ⟨d1, hd1⟩ : ∃ d, N1 - j = d + 1 := ⟨N1 - j - 1, by omega⟩
        rw [hd1, sc_khC (h := fun i => ee (384 * 1 + 128 * l + i)) (hz1 e1), sc_cmp] at h
        have ex' : 128 * nI l + nI i = nI (384 * 0 + 128 * l + i) := by rw [show (128 : Int32) = nI 128 from rfl, pk_mul, nI_add]; exact congrArg nI (by omega)
        have ey : 384 + 128 * nI l + nI j = nI (384 * 1 + 128 * l + j) := by rw [show (384 : Int32) = nI 384 from rfl, show (128 : Int32) = nI 128 from rfl, pk_mul, nI_add, nI_add]
        rw [ex', ey, nI_clamp (by omega), nI_clamp (by omega)]
        refine br_f (nI_ge e1 (by omega)) ⟨vp_in_nI (by omega) (by decide), nm_e ⟨vp_in_nI (by omega) (by decide), nm_e (br_c (fun q => ?_) (fun q => br_c (fun r => ?_) (fun r => ?_)))⟩⟩
        · rw [if_pos q] at h
          rw [nI_1, nI_1]
          obtain ⟨a1, a2, a3, a4⟩ := sc_nwR (fun i => ee (384 * 0 + 128 * l + i)) (N0 - (i + 1)) (i + 1)
          obtain ⟨c1, c2, c3, c4⟩ := sc_nwR (fun i => ee (384 * 1 + 128 * l + i)) (N1 - (j + 1)) (j + 1)
          refine y_nw (sd := 0) (by omega) hl b0 l0 (by omega) (y_nw (sd := 1) (by omega) hl b1 l1 (by omega) (ih _ _ (by omega) (by omega) (by omega) (fun z => a3 (by omega)) (fun z => c3 (by omega)) ?_))
          rw [show d0 = N0 - (i + 1) by omega, show d1 = N1 - (j + 1) by omega, a4, c4] at h
          rw [show i + 1 + (N0 - (i + 1)) = N0 by omega, show j + 1 + (N1 - (j + 1)) = N1 by omega] at h
          exact h
        · rw [if_neg q, if_pos r] at h; exact h
        · rw [if_neg q, if_neg r] at h; exact h
      · rw [show N1 - j = 0 by omega] at h
        refine br_t (nI_le (by omega) (by omega)) ?_
        unfold wY_compareKeys_111
        rw [l0]
        exact br_f (nI_ge e0 (by omega)) h
    · rw [show N0 - i = 0 by omega] at h
      refine br_t (by rw [l0]; exact nI_le (by omega) (by omega)) ?_
      unfold wY_compareKeys_111
      rw [l0, l1]
      refine br_t (nI_le (by omega) (by omega)) ?_
      by_cases e1 : j < N1
      · obtain ⟨d1, hd1⟩ : ∃ d, N1 - j = d + 1 := ⟨N1 - j - 1, by omega⟩
        rw [hd1, sc_khC (h := fun i => ee (384 * 1 + 128 * l + i)) (hz1 e1)] at h
        exact br_f (nI_ge e1 (by omega)) h
      · rw [show N1 - j = 0 by omega] at h
        exact br_t (nI_le (by omega) (by omega)) h
theorem y_cmpk {post : Int32 → Prop} {l N0 N1 : Nat} (hl : l < 3) (b0 : N0 ≤ 128) (b1 : N1 ≤ 128) (l0 : en 0 = nI N0) (l1 : en 1 = nI N1)
    (h : post (sc_cmp (sc_kh (fun i => ee (384 * 0 + 128 * l + i)) N0 0) (sc_kh (fun i => ee (384 * 1 + 128 * l + i)) N1 0))) : wpY_compareKeys post (cc, rl, yn, cl, dt, df, pb, lo, uf, us, fi, ki, wt, ef, eb, di, ex, cf, cs, cm, lg, tx, le, rr, ro, fm, fL, ee, en, ye, lv, se, pg, ou) (nI l) := by
  unfold wpY_compareKeys
  obtain ⟨a1, a2, a3, a4⟩ := sc_nwR (fun i => ee (384 * 0 + 128 * l + i)) N0 0
  obtain ⟨c1, c2, c3, c4⟩ := sc_nwR (fun i => ee (384 * 1 + 128 * l + i)) N1 0
  rw [a4, c4, Nat.zero_add N0, Nat.zero_add N1] at h
  rw [Nat.zero_add N0] at a2 a3
  rw [Nat.zero_add N1] at c2 c3
  refine y_nw (sd := 0) (i := 0) (by omega) hl b0 l0 (by omega) (y_nw (sd := 1) (i := 0) (by omega) hl b1 l1 (by omega) ⟨N0 + 1, y_cmpk_l hl b0 b1 l0 l1 (N0 + 1) _ _ (by omega) ?_ ?_ ?_ ?_ ?_⟩)
  · rw [Nat.sub_zero]; exact a2
  · rw [Nat.sub_zero]; exact c2
  · rw [Nat.sub_zero]; exact a3
  · rw [Nat.sub_zero]; exact c3
  · rw [Nat.sub_zero, Nat.sub_zero]; exact h
theorem y_at_l {post : Int32 → SY → Prop} {l N k : Nat} (hl : l < 3) (hk : k < 2 ^ 31) (b0 : N ≤ 128) (l0 : en 0 = nI N) :
    ∀ (n a i : Nat), N + 1 ≤ n + a → a ≤ N → i ≤ k → (a < N → ¬ ee (384 * 0 + 128 * l + a) = 0) →
    post (sc_at (sc_kh (fun i => ee (384 * 0 + 128 * l + i)) (N - a) a) (k - i)) (cc, rl, yn, cl, dt, df, pb, lo, uf, us, fi, ki, wt, ef, eb, di, ex, cf, cs, cm, lg, tx, le, rr, ro, fm, fL, ee, en, ye, lv, se, pg, ou) → wY_key_53 post (nI (l + 1)) (nI k) cc rl yn cl dt df pb lo uf us fi ki wt ef eb di ex cf cs cm lg tx le rr ro fm fL ee en ye lv se pg ou n (nI a) (nI i) := by
  have fin : ∀ a, a ≤ N → (a < N → ¬ ee (384 * 0 + 128 * l + a) = 0) → (∀ x, (x = (if a < N then ee (384 * 0 + 128 * l + a) else 0)) → post x (cc, rl, yn, cl, dt, df, pb, lo, uf, us, fi, ki, wt, ef, eb, di, ex, cf, cs, cm, lg, tx, le, rr, ro, fm, fL, ee, en, ye, lv, se, pg, ou)) → wY_key_90 post (nI (l + 1)) (nI a) cc rl yn cl dt df pb lo uf us fi ki wt ef eb di ex cf cs cm lg tx le rr ro fm fL ee en ye lv se pg ou := by
    intro a ha hz h
    unfold wY_key_90
    rw [l0, nI_pred]
    have ex' : 128 * nI l + nI a = nI (384 * 0 + 128 * l + a) := by rw [show (128 : Int32) = nI 128 from rfl, pk_mul, nI_add]; exact congrArg nI (by omega)
    by_cases e : a < N
    · refine br_f (nI_ge e (by omega)) ?_
      rw [ex', nI_clamp (by omega)]
      exact ⟨vp_in_nI (by omega) (by decide), h _ (if_pos e).symm⟩
    · exact br_t (nI_le (by omega) (by omega)) (h _ (if_neg e).symm)
  intro n
  induction n with
  | zero => intro a i hn ha; omega
  | succ n ih =>
    intro a i hn ha hi hz h
    by_cases ei : k ≤ i
    · refine br_t (nI_le ei (by omega)) (fin a ha hz (fun x ex' => ?_))
      rw [show k - i = 0 by omega] at h
      rw [ex']
      by_cases e : a < N
      · obtain ⟨d0, hd0⟩ : ∃ d, N - a = d + 1 := ⟨N - a - 1, by omega⟩
        rw [hd0, sc_khC (h := fun i => ee (384 * 0 + 128 * l + i)) (hz e)] at h
        rw [if_pos e]; exact h
      · rw [show N - a = 0 by omega] at h
        rw [if_neg e]; exact h
    · refine br_f (nI_ge (by omega) (by omega)) ?_
      rw [l0]
      by_cases e : a < N
      · obtain ⟨d0, hd0⟩ : ∃ d, N - a = d + 1 := ⟨N - a - 1, by omega⟩
        obtain ⟨q, hq⟩ : ∃ q, k - i = q + 1 := ⟨k - i - 1, by omega⟩
        rw [hd0, sc_khC (h := fun i => ee (384 * 0 + 128 * l + i)) (hz e), hq] at h
        obtain ⟨a1, a2, a3, a4⟩ := sc_nwR (fun i => ee (384 * 0 + 128 * l + i)) (N - (a + 1)) (a + 1)
        refine br_f (nI_ge e (by omega)) ?_
        rw [nI_pred, nI_1 a]
        refine y_nw (sd := 0) (by omega) hl b0 l0 (by omega) (nm_r (nI_1 i) (ih _ (i + 1) (by omega) (by omega) (by omega) (fun z => a3 (by omega)) ?_))
        have h' : post (sc_at (sc_kh (fun i => ee (384 * 0 + 128 * l + i)) d0 (a + 1)) q) (cc, rl, yn, cl, dt, df, pb, lo, uf, us, fi, ki, wt, ef, eb, di, ex, cf, cs, cm, lg, tx, le, rr, ro, fm, fL, ee, en, ye, lv, se, pg, ou) := h
        rw [show d0 = N - (a + 1) by omega, a4, show a + 1 + (N - (a + 1)) = N by omega, show q = k - (i + 1) by omega] at h'
        exact h'
      · refine br_t (nI_le (by omega) (by omega)) (fin a ha hz (fun x ex' => ?_))
        rw [show N - a = 0 by omega] at h
        rw [ex', if_neg e]; exact h
end
end
section
/-! key and compare -/
def sc_cz (c : Nat → Int32) (fin : Int32) (sv : Nat) : Nat → Nat → Int32
  | 0, _ => fin
  | d + 1, l => if sv ≤ l then fin else if c l = 0 then sc_cz c fin sv d (l + 1) else c l
def sc_ck (we : Nat → Int32) (E0 E1 : List Int32) (l : Nat) : Int32 := sc_cmp (sc_kh (sc_h we l E0) E0.length 0) (sc_kh (sc_h we l E1) E1.length 0)
def sc_CS (we : Nat → Int32) (F0 E0 F1 E1 : List Int32) (sv : Nat) : Int32 := sc_cz (sc_ck we E0 E1) (if sv = 4 then sc_cmp F0 F1 else 0) sv 3 0
def sc_OK (F E : List Int32) : Prop := F.length ≤ 64 ∧ E.length ≤ 128 ∧ sc_All E
theorem sc_at_big : ∀ (l : List Int32) (i : Nat), l.length ≤ i → sc_at l i = 0
  | [], _, _ => rfl
  | _ :: _, 0, h => absurd h (by simp)
  | _ :: l, i + 1, h => sc_at_big l i (Nat.le_of_succ_le_succ h)
theorem sc_W1 {x hi : Int32} {n : Nat} (hn : n < 2 ^ 31) (e : hi.toInt = n) (h : sc_W x 1 hi) : ∃ j : Nat, 1 ≤ j ∧ j ≤ n ∧ x = nI j := by
  obtain ⟨p, q⟩ := h
  have h0 : (0 : Int32).toInt = 0 := by decide
  have h1 : (1 : Int32).toInt = 1 := by decide
  have z : ¬ x < 0 := fun z => p (by rw [Int32.lt_iff_toInt_lt] at z ⊢; omega)
  obtain ⟨j, hj, rfl⟩ := nI_of z
  rw [Int32.lt_iff_toInt_lt, nI_toInt hj] at p q
  exact ⟨j, by omega, by omega, rfl⟩
section
variable {cc rl wl : Int32} {cl dt df ds ex lo uf us fi ki ef es di we cf cs cm tx le rr wk sh fo fl el ec ke kl em oe be pl po : Nat → Int32}
theorem x_CS_l {post : Int32 → SX → Prop} {sv : Nat} {F0 E0 F1 E1 : List Int32} (hsv : sv ≤ 4) (h0 : sc_SX 0 fo fl el ec F0 E0) (h1 : sc_SX 1 fo fl el ec F1 E1) (o0 : sc_OK F0 E0) (o1 : sc_OK F1 E1) :
    ∀ (d l : Nat) (ke kl : Nat → Int32), l + d = 3 → (∀ ke kl, post (sc_cz (sc_ck we E0 E1) (if sv = 4 then sc_cmp F0 F1 else 0) sv d l) (cc, rl, wl, cl, dt, df, ds, ex, lo, uf, us, fi, ki, ef, es, di, we, cf, cs, cm, tx, le, rr, wk, sh, fo, fl, el, ec, ke, kl, em, oe, be, pl, po)) → wX_compareSides_2 post (nI sv) (d + 1) (nI (l + 1)) cc rl wl cl dt df ds ex lo uf us fi ki ef es di we cf cs cm tx le rr wk sh fo fl el ec ke kl em oe be pl po := by
  have fin : ∀ ke kl, post (if sv = 4 then sc_cmp F0 F1 else 0) (cc, rl, wl, cl, dt, df, ds, ex, lo, uf, us, fi, ki, ef, es, di, we, cf, cs, cm, tx, le, rr, wk, sh, fo, fl, el, ec, ke, kl, em, oe, be, pl, po) → wX_compareSides_52 post (nI sv) cc rl wl cl dt df ds ex lo uf us fi ki ef es di we cf cs cm tx le rr wk sh fo fl el ec ke kl em oe be pl po := by
    intro ke kl h
    refine pk_eq sv 4 (fun e => ?_) (fun e => ?_)
    · rw [if_pos e] at h
      exact ⟨F0.length + 1, x_cmpf_l (K0 := F0) (K1 := F1) h0.1 h1.1 h0.2.1 h1.2.1 o0.1 o1.1 F0 F1 [] [] rfl rfl rfl h⟩
    · rw [if_neg e] at h; exact h
  intro d
  induction d with
  | zero =>
    intro l ke kl hl h
    obtain rfl : l = 3 := by omega
    exact br_t (by decide) (fin ke kl (h ke kl))
  | succ d ih =>
    intro l ke kl hl h
    unfold sc_cz at h
    refine br_f (nI_ge (b := 4) (by omega) (by decide)) ?_
    by_cases e : sv ≤ l
    · rw [if_pos e] at h
      exact br_t (nI_lt (by omega) (by omega)) (fin ke kl (h ke kl))
    · rw [if_neg e] at h
      refine br_f (nI_nlt (by omega) (by omega)) (x_loadKey (sd := 0) (by omega) (by omega) o0.2.1 o0.2.2 h0 (fun ke1 kl1 k1 _ => x_loadKey (sd := 1) (by omega) (by omega) o1.2.1 o1.2.2 h1 (fun ke2 kl2 k2 pr => ?_)))
      have b0 := sc_khL (sc_h we l E0) E0.length 0
      have b1 := sc_khL (sc_h we l E1) E1.length 0
      have q0 := o0.2.1
      have q1 := o1.2.1
      have k0 := pr 0 _ (by omega) (by omega) (by omega) k1
      refine ⟨(sc_kh (sc_h we l E0) E0.length 0).length + 1, x_cmpk_l (K0 := sc_kh (sc_h we l E0) E0.length 0) (K1 := sc_kh (sc_h we l E1) E1.length 0) k0.1 k2.1 k0.2 k2.2 (by omega) (by omega) _ _ [] [] rfl rfl rfl ?_⟩
      refine br_c (fun z => nm_r (nI_1 _) (ih (l + 1) ke2 kl2 (by omega) ?_)) (fun z => ?_)
      · intro ke kl
        have g := h ke kl
        rw [if_pos (show sc_ck we E0 E1 l = 0 from z)] at g
        exact g
      · have g := h ke2 kl2
        rw [if_neg (show ¬ sc_ck we E0 E1 l = 0 from z)] at g
        exact g
theorem x_CS {post : Int32 → SX → Prop} {sv : Nat} {F0 E0 F1 E1 : List Int32} (hsv : sv ≤ 4) (h0 : sc_SX 0 fo fl el ec F0 E0) (h1 : sc_SX 1 fo fl el ec F1 E1) (o0 : sc_OK F0 E0) (o1 : sc_OK F1 E1)
    (h : ∀ ke kl, post (sc_CS we F0 E0 F1 E1 sv) (cc, rl, wl, cl, dt, df, ds, ex, lo, uf, us, fi, ki, ef, es, di, we, cf, cs, cm, tx, le, rr, wk, sh, fo, fl, el, ec, ke, kl, em, oe, be, pl, po)) : wpX_compareSides post (cc, rl, wl, cl, dt, df, ds, ex, lo, uf, us, fi, ki, ef, es, di, we, cf, cs, cm, tx, le, rr, wk, sh, fo, fl, el, ec, ke, kl, em, oe, be, pl, po) (nI sv) := ⟨4, x_CS_l hsv h0 h1 o0 o1 3 0 ke kl rfl h⟩
end
section
variable {cc rl yn : Int32} {cl dt df pb lo uf us fi ki wt ef eb di ex cf cs cm lg tx le rr ro fm fL ee en ye lv se pg ou : Nat → Int32}
theorem y_ck {we : Nat → Int32} (hw : ∀ c l, c < 48 → l < 3 → we (48 * l + c) = wt (3 * c + l)) {sd l : Nat} (hl : l < 3) {F E : List Int32} (h : sc_SY wt sd fm fL ee en F E) (hA : sc_All E) :
    sc_kh (fun i => ee (384 * sd + 128 * l + i)) E.length 0 = sc_kh (sc_h we l E) E.length 0 := by
  refine sc_khE _ _ (fun j _ hj => ?_)
  show ee (384 * sd + 128 * l + j) = _
  rw [h.2.2.1 l hl j (by omega), ← hw _ l (sn_cl (hA _ (sc_at_mem E j (by omega)))) hl]
  rfl
theorem y_CS_l {post : Int32 → Prop} {we : Nat → Int32} (hw : ∀ c l, c < 48 → l < 3 → we (48 * l + c) = wt (3 * c + l)) {sv : Nat} {F0 E0 F1 E1 : List Int32} (hsv : sv ≤ 4) (h0 : sc_SY wt 0 fm fL ee en F0 E0) (h1 : sc_SY wt 1 fm fL ee en F1 E1) (o0 : sc_OK F0 E0) (o1 : sc_OK F1 E1) :
    ∀ (d l : Nat), l + d = 3 → post (sc_cz (sc_ck we E0 E1) (if sv = 4 then sc_cmp F0 F1 else 0) sv d l) → wY_compareSides_2 post (nI sv) cc rl yn cl dt df pb lo uf us fi ki wt ef eb di ex cf cs cm lg tx le rr ro fm fL ee en ye lv se pg ou (d + 1) (nI l) := by
  have fin : post (if sv = 4 then sc_cmp F0 F1 else 0) → wY_compareSides_30 post (nI sv) cc rl yn cl dt df pb lo uf us fi ki wt ef eb di ex cf cs cm lg tx le rr ro fm fL ee en ye lv se pg ou := by
    intro h
    refine pk_eq sv 4 (fun e => ?_) (fun e => ?_)
    · rw [if_pos e] at h
      exact ⟨F0.length + 1, y_cmpf_l (K0 := F0) (K1 := F1) h0.1 h1.1 h0.2.1 h1.2.1 o0.1 o1.1 F0 F1 [] [] rfl rfl rfl h⟩
    · rw [if_neg e] at h; exact h
  intro d
  induction d with
  | zero =>
    intro l hl h
    obtain rfl : l = 3 := by omega
    exact br_t (by decide) (fin h)
  | succ d ih =>
    intro l hl h
    unfold sc_cz at h
    refine br_f (nI_ge (b := 3) (by omega) (by decide)) ?_
    by_cases e : sv ≤ l
    · rw [if_pos e] at h
      exact br_t (nI_le e (by omega)) (fin h)
    · rw [if_neg e] at h
      refine br_f (nI_ge (by omega) (by omega)) (y_cmpk (by omega) o0.2.1 o1.2.1 h0.2.2.2 h1.2.2.2 ?_)
      rw [y_ck hw (by omega) h0 o0.2.2, y_ck hw (by omega) h1 o1.2.2]
      refine br_c (fun z => nm_r (nI_1 _) (ih (l + 1) (by omega) ?_)) (fun z => ?_)
      · rw [if_pos (show sc_ck we E0 E1 l = 0 from z)] at h; exact h
      · rw [if_neg (show ¬ sc_ck we E0 E1 l = 0 from z)] at h; exact h
theorem y_CS {post : Int32 → Prop} {we : Nat → Int32} (hw : ∀ c l, c < 48 → l < 3 → we (48 * l + c) = wt (3 * c + l)) {sv : Nat} {F0 E0 F1 E1 : List Int32} (hsv : sv ≤ 4) (h0 : sc_SY wt 0 fm fL ee en F0 E0) (h1 : sc_SY wt 1 fm fL ee en F1 E1) (o0 : sc_OK F0 E0) (o1 : sc_OK F1 E1)
    (h : post (sc_CS we F0 E0 F1 E1 sv)) : wpY_compareSides post (cc, rl, yn, cl, dt, df, pb, lo, uf, us, fi, ki, wt, ef, eb, di, ex, cf, cs, cm, lg, tx, le, rr, ro, fm, fL, ee, en, ye, lv, se, pg, ou) (nI sv) := ⟨4, y_CS_l hw hsv h0 h1 o0 o1 3 0 rfl h⟩
end
theorem sc_okF {cl dt df ds ex cf cs cm ef es eb tx : Nat → Int32} {m t b e : Nat} (htx : sc_Chr tx) (hd : sc_Dec dt df ds) (hcm : sc_Chr cm) (hef : sc_Opt ef) (hes : ∀ i, i < 48 → ¬ ef i = -1 → vp_in (es i) 48 ∧ eb i = es i) (he : e ≤ 16) :
    sc_OK (sc_nf cl dt df ds ex 0 (sc_ld tx t (e - b) b)) (sc_el cf cs cm m ef es (sc_nf cl dt df ds ex 0 (sc_ld tx t (e - b) b))) := by
  obtain ⟨n1, n2⟩ := sc_nfG (cl := cl) ex hd 0 (sc_ldA htx t (e - b) b) (by rw [sc_ldL]; omega)
  obtain ⟨a1, a2⟩ := sc_elP (cf := cf) (cs := cs) (m := m) hcm hef hes _ _ (Nat.le_refl _) n1
  exact ⟨n2, by omega, a1⟩
theorem i_vc_key {k : Nat} {u : SX} {v : SY} (I : i_Rel k u v) (hk : k + 5 ≤ 2560) (v1 : Int32) (v2 : Int32) (v3 : Int32) : wpX_key (fun r u' => wpY_key (fun r' v' => r' = r ∧ i_Rel (k + 5) u' v') v v1 v2 v3) u v1 v2 v3 := by
  obtain ⟨cc, rl, wl, yn, cl, dt, df, ds, ex, lo, uf, us, fi, ki, ef, es, di, we, cf, cs, cm, tx, le, rr, wk, sh, fo, fl, el, ec, ke, kl, em, oe, be, pl, po, pb, wt, eb, lg, ro, fm, fL, ee, en, rfl, rfl, I⟩ := I
  have I0 := I
  obtain ⟨⟨m, hm, rfl⟩, i2, i3, i4, i5, i6, i7, i8, i9, i10, i11, i12, i13, i14, i15, i16, i17⟩ := I
  unfold wpX_key
  rcases sn_text v1 with ⟨t, ht, rfl⟩ | ⟨h0, h1, h2⟩
  rotate_left
  · refine xs_text0 h2 (br_t rfl ?_)
    unfold wpY_key
    exact ys_text0 h0 h1 (br_t rfl ⟨rfl, sc_mk I0⟩)
  obtain ⟨n, hn, hl⟩ := i3 t ht
  have hL : le (nI t).toNatClampNeg = nI n := by rw [nI_clamp (by omega), hl]
  have bad : ¬ sc_W v2 1 3 → wpY_key (fun r' v' => r' = 0 ∧ i_Rel (k + 5) (nI m, rl, wl, cl, dt, df, ds, ex, lo, uf, us, fi, ki, ef, es, di, we, cf, cs, cm, tx, le, rr, wk, sh, fo, fl, el, ec, ke, kl, em, oe, be, pl, po) v') (nI m, rl, yn, cl, dt, df, pb, lo, uf, us, fi, ki, wt, ef, eb, di, ex, cf, cs, cm, lg, tx, le, rr, ro, fm, fL, ee, en, em, pl, be, po, oe) (nI t) v2 v3 := by
    intro z
    unfold wpY_key
    exact ys_text1 ht (br_f (by decide) (ys_in (fun y => absurd y z) (fun _ => br_t rfl ⟨rfl, sc_mk I0⟩)))
  refine xs_text1 ht (br_f (by decide) (br_c (fun z => bad (fun y => y.1 z)) (fun z => br_c (fun y => bad (fun w => w.2 y)) (fun y => ?_))))
  have w13 : sc_W v2 1 3 := ⟨z, y⟩
  by_cases hp0 : 0 ≤ v3
  rotate_left
  · refine br_f hp0 ?_
    unfold wpY_key
    exact ys_text1 ht (br_f (by decide) (ys_in (fun _ => br_f (by decide) (br_f hp0 ⟨rfl, sc_mk I0⟩)) (fun q => absurd w13 q)))
  obtain ⟨j, j1, j3, rfl⟩ := sc_W1 (n := 3) (by omega) (by decide) w13
  obtain ⟨l, rfl⟩ : ∃ l, j = l + 1 := ⟨j - 1, by omega⟩
  obtain ⟨p, hp, rfl⟩ := nI_of (Int32.not_lt.mpr hp0)
  have ok := sc_okF (cl := cl) (ex := ex) (cf := cf) (cs := cs) (m := m) (t := t) (b := 0) (e := n) i4 i16 i12 i13 i14 hn
  refine br_t hp0 ⟨vp_in_nI ht (by decide), ?_⟩
  rw [hL]
  refine x_loadSide (sd := 0) (b := 0) (by omega) ht hn (by omega) hm i4 i16 i12 i13 i14 (fun wl wk fo' fl' el' ec' hS _ => x_loadKey (sd := 0) (by omega) (by omega) ok.2.1 ok.2.2 hS (fun ke' kl' hK _ => ?_))
  have key : ∀ x, x = sc_at (sc_kh (sc_h we l (sc_el cf cs cm m ef es (sc_nf cl dt df ds ex 0 (sc_ld tx t (n - 0) 0)))) (sc_el cf cs cm m ef es (sc_nf cl dt df ds ex 0 (sc_ld tx t (n - 0) 0))).length 0) p →
      wpY_key (fun r' v' => r' = x ∧ i_Rel (k + 5) (nI m, rl, wl, cl, dt, df, ds, ex, lo, uf, us, fi, ki, ef, es, di, we, cf, cs, cm, tx, le, rr, wk, sh, fo', fl', el', ec', ke', kl', em, oe, be, pl, po) v') (nI m, rl, yn, cl, dt, df, pb, lo, uf, us, fi, ki, wt, ef, eb, di, ex, cf, cs, cm, lg, tx, le, rr, ro, fm, fL, ee, en, em, pl, be, po, oe) (nI t) (nI (l + 1)) (nI p) := by
    intro x ex'
    unfold wpY_key
    refine ys_text1 ht (br_f (by decide) (ys_in (fun _ => br_f (by decide) (br_t hp0 ⟨vp_in_nI ht (by decide), ?_⟩)) (fun q => absurd w13 q)))
    rw [hL]
    refine y_loadSide (sd := 0) (b := 0) (by omega) ht hn (by omega) hm i4 i10 i16 i15 i12 i13 i14 (fun yn ro fm' fL' ee' en' hY _ => ?_)
    rw [nI_pred]
    obtain ⟨a1, a2, a3, a4⟩ := sc_nwR (fun i => ee' (384 * 0 + 128 * l + i)) (sc_el cf cs cm m ef es (sc_nf cl dt df ds ex 0 (sc_ld tx t (n - 0) 0))).length 0
    refine y_nw (sd := 0) (i := 0) (by omega) (by omega) ok.2.1 hY.2.2.2 (by omega) ⟨(sc_el cf cs cm m ef es (sc_nf cl dt df ds ex 0 (sc_ld tx t (n - 0) 0))).length + 1, y_at_l (by omega) hp ok.2.1 hY.2.2.2 _ _ 0 (by omega) ?_ (by omega) ?_ ⟨?_, sc_mk I0⟩⟩
    · rw [Nat.sub_zero]; omega
    · rw [Nat.sub_zero]; exact fun z => a3 (by omega)
    · rw [ex', ← y_ck i17 (by omega) hY ok.2.2, a4]
      simp only [Nat.sub_zero, Nat.zero_add]
  have b0 := sc_khL (sc_h we l (sc_el cf cs cm m ef es (sc_nf cl dt df ds ex 0 (sc_ld tx t (n - 0) 0)))) (sc_el cf cs cm m ef es (sc_nf cl dt df ds ex 0 (sc_ld tx t (n - 0) 0))).length 0
  have b1 := ok.2.1
  show (kl' 0 ≤ nI p → _) ∧ (¬ kl' 0 ≤ nI p → _)
  rw [show kl' 0 = nI _ from hK.2]
  by_cases e : p < (sc_kh (sc_h we l (sc_el cf cs cm m ef es (sc_nf cl dt df ds ex 0 (sc_ld tx t (n - 0) 0)))) (sc_el cf cs cm m ef es (sc_nf cl dt df ds ex 0 (sc_ld tx t (n - 0) 0))).length 0).length
  · refine br_f (nI_ge e (by omega)) ⟨vp_in_nI (by omega) (by decide), key _ ?_⟩
    have := hK.1 p e
    rw [Nat.mul_zero, Nat.zero_add] at this
    rw [nI_clamp (by omega)]; exact this
  · refine br_t (nI_le (by omega) (by omega)) (key _ ?_)
    rw [sc_at_big _ _ (by omega)]
section
variable {cc rl wl : Int32} {cl dt df ds ex lo uf us fi ki ef es di we cf cs cm tx le rr wk sh fo fl el ec ke kl em oe be pl po : Nat → Int32}
theorem xs_str {post : Int32 → Prop} {a : Int32} (h1 : sc_W a 1 4 → post 1) (h0 : ¬ sc_W a 1 4 → post 0) : wpX_isStrength post (cc, rl, wl, cl, dt, df, ds, ex, lo, uf, us, fi, ki, ef, es, di, we, cf, cs, cm, tx, le, rr, wk, sh, fo, fl, el, ec, ke, kl, em, oe, be, pl, po) a :=
  br_c (fun z => h0 (fun w => w.1 z)) (fun z => br_c (fun y => h0 (fun w => w.2 y)) (fun y => h1 ⟨z, y⟩))
end
theorem i_vc_compare {k : Nat} {u : SX} {v : SY} (I : i_Rel k u v) (hk : k + 5 ≤ 2560) (v1 : Int32) : wpX_compare (fun r u' => wpY_compare (fun r' v' => r' = r ∧ i_Rel (k + 5) u' v') v v1) u v1 := by
  obtain ⟨cc, rl, wl, yn, cl, dt, df, ds, ex, lo, uf, us, fi, ki, ef, es, di, we, cf, cs, cm, tx, le, rr, wk, sh, fo, fl, el, ec, ke, kl, em, oe, be, pl, po, pb, wt, eb, lg, ro, fm, fL, ee, en, rfl, rfl, I⟩ := I
  have I0 := I
  obtain ⟨⟨m, hm, rfl⟩, i2, i3, i4, i5, i6, i7, i8, i9, i10, i11, i12, i13, i14, i15, i16, i17⟩ := I
  obtain ⟨n0, hn0, hl0⟩ := i3 0 (by omega)
  obtain ⟨n1, hn1, hl1⟩ := i3 1 (by omega)
  unfold wpX_compare
  refine xs_str (fun w => br_f (by decide) ?_) (fun w => br_t rfl ?_)
  · obtain ⟨sv, sv1, sv4, rfl⟩ := sc_W1 (n := 4) (by omega) (by decide) w
    have ok0 := sc_okF (cl := cl) (ex := ex) (cf := cf) (cs := cs) (m := m) (t := 0) (b := 0) (e := n0) i4 i16 i12 i13 i14 hn0
    have ok1 := sc_okF (cl := cl) (ex := ex) (cf := cf) (cs := cs) (m := m) (t := 1) (b := 0) (e := n1) i4 i16 i12 i13 i14 hn1
    rw [hl0]
    refine x_loadSide (sd := 0) (t := 0) (b := 0) (by omega) (by omega) hn0 (by omega) hm i4 i16 i12 i13 i14 (fun wl wk fo1 fl1 el1 ec1 hS0 _ => ?_)
    dsimp only
    rw [hl1]
    refine x_loadSide (sd := 1) (t := 1) (b := 0) (by omega) (by omega) hn1 (by omega) hm i4 i16 i12 i13 i14 (fun wl wk fo2 fl2 el2 ec2 hS1 pr => ?_)
    refine x_CS sv4 (pr 0 _ _ (by omega) (by omega) ok0.1 ok0.2.1 hS0) hS1 ok0 ok1 (fun ke kl => ?_)
    unfold wpY_compare
    refine ys_in (fun _ => br_f (by decide) ?_) (fun q => absurd w q)
    rw [hl0]
    refine y_loadSide (sd := 0) (t := 0) (b := 0) (by omega) (by omega) hn0 (by omega) hm i4 i10 i16 i15 i12 i13 i14 (fun yn ro fm1 fL1 ee1 en1 hY0 _ => ?_)
    dsimp only
    rw [hl1]
    refine y_loadSide (sd := 1) (t := 1) (b := 0) (by omega) (by omega) hn1 (by omega) hm i4 i10 i16 i15 i12 i13 i14 (fun yn ro fm2 fL2 ee2 en2 hY1 qr => ?_)
    exact y_CS i17 sv4 (qr 0 _ _ (by omega) (by omega) ok0.1 ok0.2.1 hY0) hY1 ok0 ok1 ⟨rfl, sc_mk I0⟩
  · unfold wpY_compare
    exact ys_in (fun q => absurd q w) (fun _ => br_t rfl ⟨rfl, sc_mk I0⟩)
end
section
/-! search -/
noncomputable def sc_me (Bk : Nat → Prop) (D : Nat → Int32) : Nat → Nat → Int32
  | 0, _ => -1
  | d + 1, e => @ite _ (Bk e ∧ D e = 0) (Classical.propDecidable _) (nI e) (sc_me Bk D d (e + 1))
noncomputable def sc_se (Bk : Nat → Prop) (D : Nat → Nat → Int32) (n : Nat) : Nat → Nat → Int32
  | 0, _ => -1
  | d + 1, s => @ite _ (Bk s ∧ ¬ sc_me Bk (D s) (n + 1 - s) s = -1) (Classical.propDecidable _) (32 * nI s + sc_me Bk (D s) (n + 1 - s) s) (sc_se Bk D n d (s + 1))
section
variable {cc rl wl : Int32} {cl dt df ds ex lo uf us fi ki ef es di we cf cs cm tx le rr wk sh fo fl el ec ke kl em oe be pl po : Nat → Int32}
theorem x_me_l {post : Int32 → SX → Prop} {n m s sv pm : Nat} {eb : Nat → Int32} {F1 E1 : List Int32} {Bk : Nat → Prop} (hn : n ≤ 16) (hl : le 0 = nI n) (hm : m ≤ 6) (hsv : sv ≤ 4) (htx : sc_Chr tx) (hd : sc_Dec dt df ds) (hcm : sc_Chr cm) (hef : sc_Opt ef) (hes : ∀ i, i < 48 → ¬ ef i = -1 → vp_in (es i) 48 ∧ eb i = es i)
    (ok1 : sc_OK F1 E1) (hpm : pm < 2 ^ 31) (hb : ∀ p, p ≤ n → (pm.testBit p = true ↔ Bk p)) :
    ∀ (d e : Nat) (wl : Int32) (wk fo fl el ec ke kl : Nat → Int32), e + d = n + 1 → s ≤ e → sc_SX 1 fo fl el ec F1 E1 →
    (∀ wl wk fo fl el ec ke kl, sc_SX 1 fo fl el ec F1 E1 → post (sc_me Bk (fun e => sc_CS we (sc_nf cl dt df ds ex 0 (sc_ld tx 0 (e - s) s)) (sc_el cf cs cm m ef es (sc_nf cl dt df ds ex 0 (sc_ld tx 0 (e - s) s))) F1 E1 sv) d e) (nI m, rl, wl, cl, dt, df, ds, ex, lo, uf, us, fi, ki, ef, es, di, we, cf, cs, cm, tx, le, rr, wk, sh, fo, fl, el, ec, ke, kl, em, oe, be, pl, po)) →
    wX_firstMatchEnd_3 post (nI s) (nI pm) (nI sv) (d + 1) (nI e) (nI m) rl wl cl dt df ds ex lo uf us fi ki ef es di we cf cs cm tx le rr wk sh fo fl el ec ke kl em oe be pl po := by
  intro d
  induction d with
  | zero =>
    intro e wl wk fo fl el ec ke kl he hs h1 h
    refine br_t ?_ (h wl wk fo fl el ec ke kl h1)
    rw [hl]; exact nI_lt (by omega) (by omega)
  | succ d ih =>
    intro e wl wk fo fl el ec ke kl he hs h1 h
    unfold sc_me at h
    refine br_f (by rw [hl]; exact nI_nlt (by omega) (by omega)) (x_isIn (by omega) hpm (fun z => br_f (by decide) ?_) (fun z => br_t rfl (nm_r (nI_1 e) (ih (e + 1) wl wk fo fl el ec ke kl (by omega) (by omega) h1 ?_))))
    · have ok0 := sc_okF (cl := cl) (ex := ex) (cf := cf) (cs := cs) (m := m) (t := 0) (b := s) (e := e) htx hd hcm hef hes (by omega)
      refine x_loadSide (sd := 0) (t := 0) (by omega) (by omega) (by omega) hs hm htx hd hcm hef hes (fun wl wk fo' fl' el' ec' hS0 pr => ?_)
      have h1' := pr 1 _ _ (by omega) (by omega) ok1.1 ok1.2.1 h1
      refine x_CS hsv hS0 h1' ok0 ok1 (fun ke' kl' => br_c (fun q => ?_) (fun q => nm_r (nI_1 e) (ih (e + 1) _ _ _ _ _ _ _ _ (by omega) (by omega) h1' ?_)))
      · have g := h wl wk fo' fl' el' ec' ke' kl' h1'
        rw [if_pos ⟨(hb e (by omega)).mp z, q⟩] at g
        exact g
      · intro wl wk fo fl el ec ke kl h1
        have g := h wl wk fo fl el ec ke kl h1
        rw [if_neg (fun w => q w.2)] at g
        exact g
    · intro wl wk fo fl el ec ke kl h1
      have g := h wl wk fo fl el ec ke kl h1
      rw [if_neg (fun w => by rw [(hb e (by omega)).mpr w.1] at z; exact absurd z (by decide))] at g
      exact g
theorem x_se_l {post : Int32 → SX → Prop} {n m sv pm : Nat} {eb : Nat → Int32} {F1 E1 : List Int32} {Bk : Nat → Prop} (hn : n ≤ 16) (hl : le 0 = nI n) (hm : m ≤ 6) (hsv : sv ≤ 4) (htx : sc_Chr tx) (hd : sc_Dec dt df ds) (hcm : sc_Chr cm) (hef : sc_Opt ef) (hes : ∀ i, i < 48 → ¬ ef i = -1 → vp_in (es i) 48 ∧ eb i = es i)
    (ok1 : sc_OK F1 E1) (hpm : pm < 2 ^ 31) (hb : ∀ p, p ≤ n → (pm.testBit p = true ↔ Bk p)) :
    ∀ (d s : Nat) (wl : Int32) (wk fo fl el ec ke kl : Nat → Int32), s + d = n + 1 → sc_SX 1 fo fl el ec F1 E1 →
    (∀ wl wk fo fl el ec ke kl, post (sc_se Bk (fun s e => sc_CS we (sc_nf cl dt df ds ex 0 (sc_ld tx 0 (e - s) s)) (sc_el cf cs cm m ef es (sc_nf cl dt df ds ex 0 (sc_ld tx 0 (e - s) s))) F1 E1 sv) n d s) (nI m, rl, wl, cl, dt, df, ds, ex, lo, uf, us, fi, ki, ef, es, di, we, cf, cs, cm, tx, le, rr, wk, sh, fo, fl, el, ec, ke, kl, em, oe, be, pl, po)) →
    wX_search_48 post (nI sv) (nI n) (nI pm) (d + 1) (nI s) (nI m) rl wl cl dt df ds ex lo uf us fi ki ef es di we cf cs cm tx le rr wk sh fo fl el ec ke kl em oe be pl po := by
  intro d
  induction d with
  | zero =>
    intro s wl wk fo fl el ec ke kl he h1 h
    exact br_t (nI_lt (by omega) (by omega)) (h wl wk fo fl el ec ke kl)
  | succ d ih =>
    intro s wl wk fo fl el ec ke kl he h1 h
    unfold sc_se at h
    refine br_f (nI_nlt (by omega) (by omega)) (x_isIn (by omega) hpm (fun z => br_f (by decide) ?_) (fun z => br_t rfl (br_t rfl (nm_r (nI_1 s) (ih (s + 1) wl wk fo fl el ec ke kl (by omega) h1 ?_)))))
    · unfold wpX_firstMatchEnd
      refine ⟨n + 1 - s + 1, x_me_l (Bk := Bk) hn hl hm hsv htx hd hcm hef hes ok1 hpm hb (n + 1 - s) s wl wk fo fl el ec ke kl (by omega) (Nat.le_refl _) h1 (fun wl wk fo fl el ec ke kl h1 => ?_)⟩
      refine br_c (fun q => nm_r (nI_1 s) (ih (s + 1) _ _ _ _ _ _ _ _ (by omega) h1 ?_)) (fun q => ?_)
      · intro wl wk fo fl el ec ke kl
        have g := h wl wk fo fl el ec ke kl
        rw [if_neg (fun w => w.2 q)] at g
        exact g
      · have g := h wl wk fo fl el ec ke kl
        rw [if_pos ⟨(hb s (by omega)).mp z, q⟩] at g
        exact g
    · intro wl wk fo fl el ec ke kl
      have g := h wl wk fo fl el ec ke kl
      rw [if_neg (fun w => by rw [(hb s (by omega)).mpr w.1] at z; exact absurd z (by decide))] at g
      exact g
end
section
variable {cc rl yn : Int32} {cl dt df pb lo uf us fi ki wt ef eb di ex cf cs cm lg tx le rr ro fm fL ee en ye lv se pg ou : Nat → Int32}
theorem y_me_l {post : Int32 → SY → Prop} {J : _} {n m s sv : Nat} {we ds es : Nat → Int32} {F1 E1 : List Int32} {Bk : Nat → Prop} (hn : n ≤ 16) (hl : le 0 = nI n) (hm : m ≤ 6) (hsv : sv ≤ 4) (htx : sc_Chr tx) (hc : ∀ i, vp_in (cl i) 10) (hd : sc_Dec dt df ds) (hpb : ∀ i, i < 48 → ¬ dt i = 0 → pb i = ds i) (hcm : sc_Chr cm) (hef : sc_Opt ef) (hes : ∀ i, i < 48 → ¬ ef i = -1 → vp_in (es i) 48 ∧ eb i = es i)
    (hw : ∀ c l, c < 48 → l < 3 → we (48 * l + c) = wt (3 * c + l)) (ok1 : sc_OK F1 E1) (hb : ∀ p, p ≤ n → (Bk p ↔ n = 0 ∨ ¬ sc_q (sc_kd ki tx 0) n 0 p = 0)) :
    ∀ (d e : Nat) (yn : Int32) (ro fm fL ee en : Nat → Int32), e + d = n + 1 → s ≤ e → sc_SY wt 1 fm fL ee en F1 E1 →
    (Bk s ∧ ¬ sc_me Bk (fun e => sc_CS we (sc_nf cl dt df ds ex 0 (sc_ld tx 0 (e - s) s)) (sc_el cf cs cm m ef es (sc_nf cl dt df ds ex 0 (sc_ld tx 0 (e - s) s))) F1 E1 sv) d e = -1 → ∀ yn ro fm fL ee en, post (32 * nI s + sc_me Bk (fun e => sc_CS we (sc_nf cl dt df ds ex 0 (sc_ld tx 0 (e - s) s)) (sc_el cf cs cm m ef es (sc_nf cl dt df ds ex 0 (sc_ld tx 0 (e - s) s))) F1 E1 sv) d e) (nI m, rl, yn, cl, dt, df, pb, lo, uf, us, fi, ki, wt, ef, eb, di, ex, cf, cs, cm, lg, tx, le, rr, ro, fm, fL, ee, en, ye, lv, se, pg, ou)) →
    (¬ (Bk s ∧ ¬ sc_me Bk (fun e => sc_CS we (sc_nf cl dt df ds ex 0 (sc_ld tx 0 (e - s) s)) (sc_el cf cs cm m ef es (sc_nf cl dt df ds ex 0 (sc_ld tx 0 (e - s) s))) F1 E1 sv) d e = -1) → ∀ yn ro fm fL ee en, sc_SY wt 1 fm fL ee en F1 E1 → J (nI (s + 1)) (nI m) rl yn cl dt df pb lo uf us fi ki wt ef eb di ex cf cs cm lg tx le rr ro fm fL ee en ye lv se pg ou) →
    wY_search_42 post J (nI sv) (nI s) (d + 1) (nI e) (nI m) rl yn cl dt df pb lo uf us fi ki wt ef eb di ex cf cs cm lg tx le rr ro fm fL ee en ye lv se pg ou := by
  intro d
  induction d with
  | zero =>
    intro e yn ro fm fL ee en he hs h1 hA hB
    exact br_t (by rw [hl]; exact nI_lt (by omega) (by omega)) (nm_r (nI_1 s) (hB (fun w => w.2 rfl) yn ro fm fL ee en h1))
  | succ d ih =>
    intro e yn ro fm fL ee en he hs h1 hA hB
    unfold sc_me at hA hB
    -- this end is passed over
    have next : (¬ Bk s ∨ ¬ (Bk e ∧ sc_CS we (sc_nf cl dt df ds ex 0 (sc_ld tx 0 (e - s) s)) (sc_el cf cs cm m ef es (sc_nf cl dt df ds ex 0 (sc_ld tx 0 (e - s) s))) F1 E1 sv = 0)) → ∀ yn ro fm fL ee en, sc_SY wt 1 fm fL ee en F1 E1 → wY_search_42 post J (nI sv) (nI s) (d + 1) (nI (e + 1)) (nI m) rl yn cl dt df pb lo uf us fi ki wt ef eb di ex cf cs cm lg tx le rr ro fm fL ee en ye lv se pg ou := by
      intro z yn ro fm fL ee en h1
      rcases z with z | z
      · exact ih (e + 1) yn ro fm fL ee en (by omega) (by omega) h1 (fun w => absurd w.1 z) (fun _ => hB (fun w => z w.1))
      · rw [if_neg z] at hA hB
        exact ih (e + 1) yn ro fm fL ee en (by omega) (by omega) h1 hA hB
    have try' : Bk s → Bk e → wY_search_82 post J (wY_search_42 post J (nI sv) (nI s) (d + 1)) (nI sv) (nI s) (nI e) (nI m) rl yn cl dt df pb lo uf us fi ki wt ef eb di ex cf cs cm lg tx le rr ro fm fL ee en ye lv se pg ou := by
      intro bs be
      have ok0 := sc_okF (cl := cl) (ex := ex) (cf := cf) (cs := cs) (m := m) (t := 0) (b := s) (e := e) htx hd hcm hef hes (by omega)
      unfold wY_search_82
      refine y_loadSide (sd := 0) (t := 0) (by omega) (by omega) (by omega) hs hm htx hc hd hpb hcm hef hes (fun yn ro fm' fL' ee' en' hY0 qr => ?_)
      have h1' := qr 1 _ _ (by omega) (by omega) ok1.1 ok1.2.1 h1
      refine y_CS hw hsv hY0 h1' ok0 ok1 (br_c (fun q => ?_) (fun q => nm_r (nI_1 e) (next (Or.inr (fun w => q w.2)) _ _ _ _ _ _ h1')))
      rw [if_pos ⟨be, q⟩] at hA
      exact hA ⟨bs, sc_m1 e (by omega)⟩ _ _ _ _ _ _
    refine br_f (by rw [hl]; exact nI_nlt (by omega) (by omega)) ?_
    rw [hl]
    by_cases n0 : n = 0
    · subst n0
      exact br_t (by decide) (try' ((hb s (by omega)).mpr (Or.inl rfl)) ((hb e (by omega)).mpr (Or.inl rfl)))
    · refine br_f (nI_nle (by omega) (by omega)) (y_cluster (t := 0) (by omega) htx hn hl (by omega) (br_c (fun a => nm_r (nI_1 e) (next (Or.inl (fun w => ((hb s (by omega)).mp w).elim n0 (fun y => y a))) _ _ _ _ _ _ h1)) (fun a => y_cluster (t := 0) (by omega) htx hn hl (by omega) (br_c (fun b => nm_r (nI_1 e) (next (Or.inr (fun w => ((hb e (by omega)).mp w.1).elim n0 (fun y => y b))) _ _ _ _ _ _ h1)) (fun b => try' ((hb s (by omega)).mpr (Or.inr a)) ((hb e (by omega)).mpr (Or.inr b)))))))
theorem y_se_l {post : Int32 → SY → Prop} {n m sv : Nat} {we ds es : Nat → Int32} {F1 E1 : List Int32} {Bk : Nat → Prop} (hn : n ≤ 16) (hl : le 0 = nI n) (hm : m ≤ 6) (hsv : sv ≤ 4) (htx : sc_Chr tx) (hc : ∀ i, vp_in (cl i) 10) (hd : sc_Dec dt df ds) (hpb : ∀ i, i < 48 → ¬ dt i = 0 → pb i = ds i) (hcm : sc_Chr cm) (hef : sc_Opt ef) (hes : ∀ i, i < 48 → ¬ ef i = -1 → vp_in (es i) 48 ∧ eb i = es i)
    (hw : ∀ c l, c < 48 → l < 3 → we (48 * l + c) = wt (3 * c + l)) (ok1 : sc_OK F1 E1) (hb : ∀ p, p ≤ n → (Bk p ↔ n = 0 ∨ ¬ sc_q (sc_kd ki tx 0) n 0 p = 0)) :
    ∀ (d s : Nat) (yn : Int32) (ro fm fL ee en : Nat → Int32), s + d = n + 1 → sc_SY wt 1 fm fL ee en F1 E1 →
    (∀ yn ro fm fL ee en, post (sc_se Bk (fun s e => sc_CS we (sc_nf cl dt df ds ex 0 (sc_ld tx 0 (e - s) s)) (sc_el cf cs cm m ef es (sc_nf cl dt df ds ex 0 (sc_ld tx 0 (e - s) s))) F1 E1 sv) n d s) (nI m, rl, yn, cl, dt, df, pb, lo, uf, us, fi, ki, wt, ef, eb, di, ex, cf, cs, cm, lg, tx, le, rr, ro, fm, fL, ee, en, ye, lv, se, pg, ou)) →
    wY_search_30 post (nI sv) (d + 1) (nI s) (nI m) rl yn cl dt df pb lo uf us fi ki wt ef eb di ex cf cs cm lg tx le rr ro fm fL ee en ye lv se pg ou := by
  intro d
  induction d with
  | zero =>
    intro s yn ro fm fL ee en he h1 h
    exact br_t (by rw [hl]; exact nI_lt (by omega) (by omega)) (h yn ro fm fL ee en)
  | succ d ih =>
    intro s yn ro fm fL ee en he h1 h
    unfold sc_se at h
    refine br_f (by rw [hl]; exact nI_nlt (by omega) (by omega)) ⟨n + 1 - s + 1, y_me_l (Bk := Bk) hn hl hm hsv htx hc hd hpb hcm hef hes hw ok1 hb (n + 1 - s) s yn ro fm fL ee en (by omega) (Nat.le_refl _) h1 (fun w yn ro fm fL ee en => ?_) (fun w yn ro fm fL ee en h1 => ih (s + 1) yn ro fm fL ee en (by omega) h1 (fun yn ro fm fL ee en => ?_))⟩
    · have g := h yn ro fm fL ee en
      rw [if_pos w] at g
      exact g
    · have g := h yn ro fm fL ee en
      rw [if_neg w] at g
      exact g
end
theorem i_vc_search {k : Nat} {u : SX} {v : SY} (I : i_Rel k u v) (hk : k + 5 ≤ 2560) (v1 : Int32) : wpX_search (fun r u' => wpY_search (fun r' v' => r' = r ∧ i_Rel (k + 5) u' v') v v1) u v1 := by
  obtain ⟨cc, rl, wl, yn, cl, dt, df, ds, ex, lo, uf, us, fi, ki, ef, es, di, we, cf, cs, cm, tx, le, rr, wk, sh, fo, fl, el, ec, ke, kl, em, oe, be, pl, po, pb, wt, eb, lg, ro, fm, fL, ee, en, rfl, rfl, I⟩ := I
  have I0 := I
  obtain ⟨⟨m, hm, rfl⟩, i2, i3, i4, i5, i6, i7, i8, i9, i10, i11, i12, i13, i14, i15, i16, i17⟩ := I
  obtain ⟨n0, hn0, hl0⟩ := i3 0 (by omega)
  obtain ⟨n1, hn1, hl1⟩ := i3 1 (by omega)
  unfold wpX_search
  refine xs_str (fun w => br_f (by decide) (nm_r hl0 ?_)) (fun w => br_t rfl ?_)
  rotate_left
  · unfold wpY_search
    exact ys_in (fun q => absurd q w) (fun _ => br_t rfl ⟨rfl, sc_mk I0⟩)
  obtain ⟨sv, sv1, sv4, rfl⟩ := sc_W1 (n := 4) (by omega) (by decide) w
  have ok1 := sc_okF (cl := cl) (ex := ex) (cf := cf) (cs := cs) (m := m) (t := 1) (b := 0) (e := n1) i4 i16 i12 i13 i14 hn1
  have main : ∀ pm : Nat, pm < 2 ^ 31 → (∀ p, p ≤ n0 → (pm.testBit p = true ↔ n0 = 0 ∨ ¬ sc_q (sc_kd ki tx 0) n0 0 p = 0)) →
      wX_search_31 (fun r u' => wpY_search (fun r' v' => r' = r ∧ i_Rel (k + 5) u' v') (nI m, rl, yn, cl, dt, df, pb, lo, uf, us, fi, ki, wt, ef, eb, di, ex, cf, cs, cm, lg, tx, le, rr, ro, fm, fL, ee, en, em, pl, be, po, oe) (nI sv)) (nI sv) (nI n0) (nI pm) (nI m) rl wl cl dt df ds ex lo uf us fi ki ef es di we cf cs cm tx le rr wk sh fo fl el ec ke kl em oe be pl po := by
    intro pm hpm hb
    unfold wX_search_31
    rw [hl1]
    refine x_loadSide (sd := 1) (t := 1) (b := 0) (by omega) (by omega) hn1 (by omega) hm i4 i16 i12 i13 i14 (fun wl wk fo1 fl1 el1 ec1 hS1 _ => ⟨n0 + 1 + 1, ?_⟩)
    refine x_se_l (Bk := fun p => n0 = 0 ∨ ¬ sc_q (sc_kd ki tx 0) n0 0 p = 0) hn0 hl0 hm sv4 i4 i16 i12 i13 i14 ok1 hpm hb (n0 + 1) 0 _ _ _ _ _ _ _ _ (by omega) hS1 (fun wl wk fo fl el ec ke kl => ?_)
    unfold wpY_search
    refine ys_in (fun _ => br_f (by decide) ?_) (fun q => absurd w q)
    rw [hl1]
    refine y_loadSide (sd := 1) (t := 1) (b := 0) (by omega) (by omega) hn1 (by omega) hm i4 i10 i16 i15 i12 i13 i14 (fun yn ro fm1 fL1 ee1 en1 hY1 _ => ⟨n0 + 1 + 1, ?_⟩)
    exact y_se_l (Bk := fun p => n0 = 0 ∨ ¬ sc_q (sc_kd ki tx 0) n0 0 p = 0) hn0 hl0 hm sv4 i4 i10 i16 i15 i12 i13 i14 i17 ok1 (fun p _ => Iff.rfl) (n0 + 1) 0 _ _ _ _ _ _ (by omega) hY1 (fun yn ro fm fL ee en => ⟨rfl, sc_mk I0⟩)
  by_cases z : n0 = 0
  · refine br_t (by rw [z]; rfl) (main 1 (by decide) (fun p hp => ?_))
    have : p = 0 := by omega
    subst this
    exact ⟨fun _ => Or.inl z, fun _ => by decide⟩
  · refine br_f (nI_ne0 (by omega) (by omega)) (x_findBreaks (t := 0) (kd := 0) (by omega) i4 hn0 hl0 (main _ (Nat.lt_of_lt_of_le (sc_bm_lt _ _) (Nat.pow_le_pow_right (by decide) (by omega))) (fun p hp => ?_)))
    rw [sc_bm_bit, decide_eq_true_iff]
    exact ⟨fun y => Or.inr y.2, fun y => ⟨by omega, y.elim (fun q => absurd q z) id⟩⟩
end
