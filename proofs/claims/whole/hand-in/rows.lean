section
-- rows pasted from kit/rows (PURE-ROWS, BITS)
theorem pk_us {f : Nat → Int32} {k : Nat} {x : Int32} : upd f k x k = x := if_pos rfl
theorem pk_un {f : Nat → Int32} {k j : Nat} {x : Int32} (h : j ≠ k) : upd f k x j = f j := if_neg h
theorem pk_uLs {f : Nat → Int64} {k : Nat} {x : Int64} : vp_updL f k x k = x := if_pos rfl
theorem pk_uLn {f : Nat → Int64} {k j : Nat} {x : Int64} (h : j ≠ k) : vp_updL f k x j = f j := if_neg h
theorem pk_sub {a b : Nat} (h : b ≤ a) : nI a - nI b = nI (a - b) := by
  obtain ⟨c, rfl⟩ : ∃ c, a = c + b := ⟨a - b, by omega⟩
  rw [← nI_add, Int32.add_sub_cancel, Nat.add_sub_cancel]
theorem pk_mul (a b : Nat) : nI a * nI b = nI (a * b) := (Int32.ofNat_mul a b).symm
theorem pk_div {a d : Nat} (ha : a < 2 ^ 31) (h0 : 0 < d) (hd : d < 2 ^ 31) : nI a / nI d = nI (a / d) := by
  apply Int32.toInt_inj.mp
  rw [lg_idiv_nonneg (by rw [nI_toInt ha]; omega) (by rw [nI_toInt hd]; omega), nI_toInt ha, nI_toInt hd, nI_toInt (Nat.lt_of_le_of_lt (Nat.div_le_self a d) ha)]
  first | rfl | exact (Int.natCast_ediv _ _).symm
theorem pk_rem {a d : Nat} (ha : a < 2 ^ 31) (h0 : 0 < d) (hd : d < 2 ^ 31) : nI a - nI a / nI d * nI d = nI (a % d) := by
  rw [pk_div ha h0 hd, pk_mul, pk_sub (Nat.div_mul_le_self a d)]
  exact congrArg nI (by have := Nat.div_add_mod' a d; omega)
theorem pk_ix (x : Int32) {n : Nat} (hn : n < 2 ^ 31) : x < 0 ∨ nI n ≤ x ∨ ∃ j : Nat, j < n ∧ x = nI j := by
  by_cases h : x < 0
  · exact Or.inl h
  · obtain ⟨j, hj, rfl⟩ := nI_of h
    by_cases h2 : j < n
    · exact Or.inr (Or.inr ⟨j, h2, rfl⟩)
    · exact Or.inr (Or.inl (nI_le (by omega) hj))
theorem pk_and (x : Int32) {m : Int32} (k : Nat) (hm : m.toBitVec.toNat = 2 ^ k - 1) : x &&& m = nI (x.toBitVec.toNat % 2 ^ k) := by
  apply Int32.toBitVec_inj.mp
  apply BitVec.eq_of_toNat_eq
  rw [Int32.toBitVec_and, BitVec.toNat_and, hm, Nat.and_two_pow_sub_one_eq_mod]
  show _ = (BitVec.ofNat 32 _).toNat
  rw [BitVec.toNat_ofNat]
  exact (Nat.mod_eq_of_lt (Nat.lt_of_le_of_lt (Nat.mod_le _ _) x.toBitVec.isLt)).symm
theorem pk_andE (x : Int32) {m : Int32} (k : Nat) (hm : m.toBitVec.toNat = 2 ^ k - 1) : ∃ j : Nat, j < 2 ^ k ∧ x &&& m = nI j := ⟨_, Nat.mod_lt _ (Nat.two_pow_pos k), pk_and x k hm⟩
def bt (x : Int32) (i : Nat) : Bool := x.toBitVec.getLsbD i
theorem b_ext {x y : Int32} (h : ∀ i, i < 32 → bt x i = bt y i) : x = y := Int32.toBitVec_inj.mp (BitVec.eq_of_getLsbD_eq (fun i hi => h i hi))
theorem b_or (x y : Int32) (i : Nat) : bt (x ||| y) i = (bt x i || bt y i) := by unfold bt; rw [Int32.toBitVec_or, BitVec.getLsbD_or]
theorem b_and (x y : Int32) (i : Nat) : bt (x &&& y) i = (bt x i && bt y i) := by unfold bt; rw [Int32.toBitVec_and, BitVec.getLsbD_and]
theorem b_xor (x y : Int32) (i : Nat) : bt (x ^^^ y) i = (bt x i ^^ bt y i) := by unfold bt; rw [Int32.toBitVec_xor, BitVec.getLsbD_xor]
theorem b_big {x : Int32} {i : Nat} (h : 32 ≤ i) : bt x i = false := BitVec.getLsbD_of_ge _ _ h
theorem b_m1 : ∀ i, i < 32 → bt (-1) i = true := by decide +kernel
theorem b_0 (i : Nat) : bt 0 i = false := BitVec.getLsbD_zero
theorem s_l : ∀ n, n < 32 → ((nI n &&& 31).toBitVec.smod 32).toNat = n := by decide +kernel
theorem b_shl (n : Nat) (hn : n < 32) (x : Int32) {i : Nat} (hi : i < 32) : bt (x <<< (nI n &&& 31)) i = (decide (n ≤ i) && bt x (i - n)) := by
  unfold bt
  rw [Int32.toBitVec_shiftLeft]
  show (x.toBitVec <<< ((nI n &&& 31).toBitVec.smod 32).toNat).getLsbD i = _
  rw [s_l n hn, BitVec.getLsbD_shiftLeft]
  rcases Nat.lt_or_ge i n with h | h
  · simp [h, Nat.not_le.mpr h]
  · simp [hi, h, Nat.not_lt.mpr h]
theorem b_sshr (n : Nat) (hn : n < 32) (x : Int32) {i : Nat} (hi : i < 32) : bt (x >>> (nI n &&& 31)) i = if n + i < 32 then bt x (n + i) else bt x 31 := by
  unfold bt
  rw [Int32.toBitVec_shiftRight]
  show (x.toBitVec.sshiftRight ((nI n &&& 31).toBitVec.smod 32).toNat).getLsbD i = _
  rw [s_l n hn, BitVec.getLsbD_sshiftRight, BitVec.msb_eq_getLsbD_last]
  simp [hi]
theorem ts_nf {x : Bool} (h : ¬ x = false) : x = true := by cases x <;> first | rfl | exact absurd rfl h
theorem ts_nt {x : Bool} (h : ¬ x = true) : x = false := by cases x <;> first | rfl | exact absurd rfl h
theorem ts_bit {w : Int64} {s : UInt64} {j : Nat} (hj : j < 64) (hs : s.toNat = j) : ((w.toUInt64 >>> s).toInt64 &&& 1) = 0 ↔ w.toBitVec.getLsbD j = false := by
  have e : (w.toUInt64 >>> s).toInt64.toBitVec = w.toBitVec >>> j := by
    apply BitVec.eq_of_toNat_eq
    show (w.toUInt64 >>> s).toNat = _
    rw [UInt64.toNat_shiftRight, hs, Nat.mod_eq_of_lt hj, BitVec.toNat_ushiftRight]
    rfl
  rw [← Int64.toBitVec_inj, Int64.toBitVec_and, e]
  show w.toBitVec >>> j &&& 1#64 = 0#64 ↔ _
  constructor
  · intro h
    have t := congrArg (fun x => x.getLsbD 0) h
    simpa using t
  · intro h
    apply BitVec.eq_of_getLsbD_eq
    intro i hi
    cases i with
    | zero => simp [h]
    | succ i => simp
theorem wb_tb (n : Nat) : (lN n).toBitVec = BitVec.ofNat 64 n := rfl
theorem wb_inj {a b : Int64} (h : a.toBitVec = b.toBitVec) : a = b := Int64.toBitVec_inj.mp h
theorem wb_c : ∀ k, k < 64 → ((nI k).toInt64 &&& 63) = lN k := by decide +kernel
theorem wb_cu : ∀ k, k < 64 → ((nI k).toInt64.toUInt64 &&& Int64.toUInt64 63) = UInt64.ofNat k := by decide +kernel
theorem wb_sm : ∀ k, k < 64 → (BitVec.ofNat 64 k).smod 64 = BitVec.ofNat 64 k := by decide +kernel
theorem u_tn {n : Nat} (h : n < 2 ^ 64) : (UInt64.ofNat n).toNat = n := Nat.mod_eq_of_lt h
-- rows of this claim
def lj_b (b : Bool) : Int32 := cond b 1 0
def lj_L (c : Int64) (j : Nat) : Bool := c.toBitVec.getLsbD j
theorem lj_sw {b : Bool} {A B : Prop} (h0 : b = false → A) (h1 : b = true → B) : (lj_b b = 0 → A) ∧ (¬ lj_b b = 0 → B) := by
  cases b with
  | false => exact br_t rfl (h0 rfl)
  | true => exact br_f (by decide) (h1 rfl)
theorem lj_k2 : nI 2 = 2 := by decide +kernel
theorem lj_k3 : nI 3 = 3 := by decide +kernel
theorem lj_k4 : nI 4 = 4 := by decide +kernel
theorem lj_k5 : nI 5 = 5 := by decide +kernel
theorem lj_k7 : nI 7 = 7 := by decide +kernel
theorem lj_k8 : nI 8 = 8 := by decide +kernel
theorem lj_k64 : nI 64 = 64 := by decide +kernel
theorem lj_k4096 : nI 4096 = 4096 := by decide +kernel
theorem lj_ge {K : Nat} {k : Int32} (e : nI K = k) {i : Nat} (h : K ≤ i) (hi : i < 2 ^ 31) : k ≤ nI i := e ▸ nI_le h hi
theorem lj_nge {K : Nat} {k : Int32} (e : nI K = k) {i : Nat} (h : i < K) (hK : K < 2 ^ 31) : ¬ k ≤ nI i := e ▸ nI_ge h hK
theorem lj_8 (a b : Nat) : (8 : Int32) * nI a + nI b = nI (8 * a + b) := by
  rw [← lj_k8, pk_mul, nI_add]
theorem lj_hb {c : Int64} {j : Nat} (hj : j < 64) {post : Int32 → Prop} (h : post (lj_b (lj_L c j))) : wpX_hasBit post c (nI j) := by
  have e := ts_bit (w := c) (s := (nI j).toInt64.toUInt64 &&& Int64.toUInt64 63) hj (by rw [wb_cu j hj]; exact u_tn (by omega))
  unfold wpX_hasBit
  cases hb : lj_L c j with
  | false => rw [hb] at h; exact br_t (e.mpr hb) h
  | true => rw [hb] at h; exact br_f (fun z => by have t := e.mp z; unfold lj_L at hb; rw [hb] at t; cases t) h
theorem lj_b1 : ∀ i, i < 32 → bt 1 i = decide (i = 0) := by decide +kernel
theorem lj_one (x : Int32) {j : Nat} (hj : j < 32) : ((x >>> (nI j &&& 31)) &&& 1) = 1 ↔ bt x j = true := by
  constructor
  · intro h
    have t := congrArg (fun z => bt z 0) h
    have t : bt ((x >>> (nI j &&& 31)) &&& 1) 0 = bt 1 0 := t
    rw [b_and, b_sshr j hj x (by omega), if_pos (by omega), lj_b1 0 (by omega)] at t
    simpa using t
  · intro h
    apply b_ext
    intro i hi
    rw [b_and, lj_b1 i hi]
    by_cases z : i = 0
    · subst z; rw [b_sshr j hj x hi, if_pos (by omega)]; simp [h]
    · simp [z]
theorem lj_yin {f : Int32} {W R F S s : Nat → Int32} {a b c : Nat} (ha : a < 3) (hb : b < 8) (hc : c < 8) {post : Int32 → Prop} (h : post (lj_b (bt (W (8 * a + b)) c))) : wpY_in post (f, W, R, F, S, s) (nI a) (nI b) (nI c) := by
  unfold wpY_in
  dsimp only
  rw [lj_8, nI_clamp (by omega)]
  refine ⟨vp_in_nI (by omega) (by omega), ?_⟩
  have e := lj_one (W (8 * a + b)) (j := c) (by omega)
  cases hb : bt (W (8 * a + b)) c with
  | false => rw [hb] at h; exact br_f (fun z => by rw [e.mp z] at hb; cases hb) h
  | true => rw [hb] at h; exact br_t (e.mpr hb) h
-- a long's bit, set and cleared
theorem lj_sh : ∀ j, j < 64 → ((1 : Int64) <<< ((nI j).toInt64 &&& 63)).toBitVec = BitVec.twoPow 64 j := by decide +kernel
theorem lj_Lor (c : Int64) {j : Nat} (hj : j < 64) {i : Nat} (hi : i < 64) : lj_L (c ||| ((1 : Int64) <<< ((nI j).toInt64 &&& 63))) i = (lj_L c i || decide (i = j)) := by
  unfold lj_L
  rw [Int64.toBitVec_or, lj_sh j hj, BitVec.getLsbD_or, BitVec.getLsbD_twoPow]
  by_cases e : i = j
  · subst e; simp [hi]
  · have e' : ¬ j = i := fun z => e z.symm
    simp [e, e']
theorem lj_Lcl (c : Int64) {j : Nat} (hj : j < 64) {i : Nat} (hi : i < 64) : lj_L (c &&& (((1 : Int64) <<< ((nI j).toInt64 &&& 63)) ^^^ (-1))) i = (lj_L c i && !decide (i = j)) := by
  have ha : (-1 : Int64).toBitVec = BitVec.allOnes 64 := by decide
  unfold lj_L
  rw [Int64.toBitVec_and, Int64.toBitVec_xor, lj_sh j hj, ha, BitVec.getLsbD_and, BitVec.getLsbD_xor, BitVec.getLsbD_twoPow, BitVec.getLsbD_allOnes]
  by_cases e : i = j
  · subst e; simp [hi]
  · have e' : ¬ j = i := fun z => e z.symm
    simp [e, e', hi]
theorem lj_L0 (i : Nat) : lj_L 0 i = false := BitVec.getLsbD_zero
-- an int's bit, set and cleared
theorem lj_bor (x : Int32) {j : Nat} (hj : j < 32) {i : Nat} (hi : i < 32) : bt (x ||| ((1 : Int32) <<< (nI j &&& 31))) i = (bt x i || decide (i = j)) := by
  rw [b_or, b_shl j hj 1 hi]
  by_cases e : i = j
  · subst e; rw [Nat.sub_self, lj_b1 0 (by omega)]; simp
  · rcases Nat.lt_or_ge i j with z | z
    · simp [e, Nat.not_le.mpr z]
    · rw [lj_b1 (i - j) (by omega), decide_eq_false (p := i - j = 0) (by omega)]; simp [e]
theorem lj_bcl (x : Int32) {j : Nat} (hj : j < 32) {i : Nat} (hi : i < 32) : bt (x &&& (((1 : Int32) <<< (nI j &&& 31)) ^^^ (-1))) i = (bt x i && !decide (i = j)) := by
  rw [b_and, b_xor, b_shl j hj 1 hi, b_m1 i hi]
  by_cases e : i = j
  · subst e; rw [Nat.sub_self, lj_b1 0 (by omega)]; simp
  · rcases Nat.lt_or_ge i j with z | z
    · simp [e, Nat.not_le.mpr z]
    · rw [lj_b1 (i - j) (by omega), decide_eq_false (p := i - j = 0) (by omega)]; simp [e]
theorem lj_wide (x : Int32) {j : Nat} (hj : j < 32) : lj_L x.toInt64 j = bt x j := by
  unfold lj_L bt
  rw [Int32.toBitVec_toInt64, BitVec.getLsbD_signExtend]
  simp [hj]; omega
end
section
-- the digit of a variable, a cell
def lj_t (n v : Int32) : Int32 := (n >>> ((9 - (3 * v)) &&& 31)) &&& 7
def lj_n (n v : Int32) : Nat := (n >>> ((9 - (3 * v)) &&& 31)).toBitVec.toNat % 8
theorem lj_te (n v : Int32) : lj_t n v = nI (lj_n n v) := pk_and _ 3 (by decide)
theorem lj_tl (n v : Int32) : lj_n n v < 8 := Nat.mod_lt _ (by decide)
theorem lj_93 (v : Int32) : (3 : Int32) * (3 - v) = 9 - (3 * v) := by grind
theorem lj_tx {post : Int32 → Prop} {n v : Int32} (h : post (lj_t n v)) : wpX_thingOf post n v := by
  unfold wpX_thingOf
  rw [lj_93]
  exact h
theorem lj_ty {post : Int32 → Prop} {f : Int32} {W R F S s : Nat → Int32} {n v : Int32} (h : post (lj_t n v)) : wpY_of post (f, W, R, F, S, s) n v := h
def lj_c (n v w : Int32) : Nat := 8 * lj_n n v + lj_n n w
theorem lj_cl (n v w : Int32) : lj_c n v w < 64 := by
  have h1 := lj_tl n v
  have h2 := lj_tl n w
  unfold lj_c
  omega
theorem lj_cx {post : Int32 → Prop} {n v w : Int32} (h : post (nI (lj_c n v w))) : wpX_cellOf post n v w := by
  unfold wpX_cellOf
  refine lj_tx (lj_tx ?_)
  show post ((8 * lj_t n v) + lj_t n w)
  rw [lj_te n v, lj_te n w, lj_8]
  exact h
-- the pure picture: the rest of the variables, the atoms from i on
def lj_oz (n bd : Int32) : Nat → Nat → Bool
  | 0, _ => true
  | d + 1, v => (bt bd v || decide (lj_t n (nI v) = 0)) && lj_oz n bd d (v + 1)
def lj_q (C : Nat → Int64) (R F S : Nat → Int32) (n : Int32) (i : Nat) : Bool := lj_L (C (R i).toNatClampNeg) (lj_c n (F i) (S i))
def lj_nb (F S : Nat → Int32) (bd : Int32) (i : Nat) : Int32 := bd ||| (((1 : Int32) <<< ((F i) &&& 31)) ||| ((1 : Int32) <<< ((S i) &&& 31)))
def lj_hr (C : Nat → Int64) (R F S : Nat → Int32) (n : Int32) : Nat → Nat → Int32 → Bool
  | 0, _, bd => lj_oz n bd 4 0
  | d + 1, i, bd => lj_q C R F S n i && lj_hr C R F S n d (i + 1) (lj_nb F S bd i)
def lj_h (C : Nat → Int64) (R F S : Nat → Int32) (m : Nat) (n : Int32) : Bool := lj_hr C R F S n m 0 0
def lj_OK (m : Nat) (R F S : Nat → Int32) : Prop := m ≤ 5 ∧ (∀ i, ∃ a, a < 3 ∧ R i = nI a) ∧ (∀ i, ∃ a, a < 4 ∧ F i = nI a) ∧ (∀ i, ∃ a, a < 4 ∧ S i = nI a)
def lj_CW (C : Nat → Int64) (W : Nat → Int32) : Prop := ∀ r x y, r < 3 → x < 8 → y < 8 → lj_L (C r) (8 * x + y) = bt (W (8 * r + x)) y
-- X: othersAreZero, holds
theorem lj_xoz (n bd : Int32) (post : Int32 → Prop) : ∀ d v, v + d = 4 → post (lj_b (lj_oz n bd d v)) → wX_othersAreZero_2 post n bd (d + 1) (nI v) := by
  intro d
  induction d with
  | zero =>
    intro v hv h
    exact br_t (lj_ge lj_k4 (by omega) (by omega)) h
  | succ d ih =>
    intro v hv h
    refine br_f (lj_nge lj_k4 (by omega) (by omega)) (lj_hb (by omega) ?_)
    rw [lj_wide bd (by omega)]
    refine lj_sw (fun e => lj_tx (br_c (fun z => nm_r (nI_1 v) (ih (v + 1) (by omega) ?_)) (fun z => ?_))) (fun e => nm_r (nI_1 v) (ih (v + 1) (by omega) ?_))
    · simpa [lj_oz, z] using h
    · simpa [lj_oz, lj_b, z, e] using h
    · simpa [lj_oz, e] using h
theorem lj_nar (b : Bool) : narrow .boolean (.int (lj_b b)) = .int (lj_b b) := by cases b <;> rfl
theorem lj_xh {m : Nat} {C : Nat → Int64} {R F S : Nat → Int32} (hO : lj_OK m R F S) (n : Int32) (post : Int32 → Prop) : ∀ d i bd, i + d = m → post (lj_b (lj_hr C R F S n d i bd)) → wX_holds_17 post n (nI m) C R F S (d + 1) bd (nI i) := by
  have hm : m ≤ 5 := hO.1
  intro d
  induction d with
  | zero =>
    intro i bd hi h
    refine br_t (nI_le (by omega) (by omega)) ?_
    exact ⟨5, lj_xoz n bd _ 4 0 rfl ⟨lj_nar _, h⟩⟩
  | succ d ih =>
    intro i bd hi h
    have h5 : vp_in (nI i) 5 := vp_in_nI (by omega) (by omega)
    obtain ⟨a, ha, hR⟩ := hO.2.1 i
    have h3 : vp_in (R i) 3 := by rw [hR]; exact vp_in_nI ha (by omega)
    rw [wX_holds_17]
    dsimp only
    rw [nI_clamp (n := i) (by omega)]
    refine br_f (nI_ge (by omega) (by omega)) ⟨h5, h5, lj_cx ⟨h5, h3, lj_hb (lj_cl _ _ _) ?_⟩⟩
    refine lj_sw (fun e => ?_) (fun e => ⟨h5, h5, nm_e (nm_r (nI_1 i) (ih (i + 1) _ (by omega) ?_))⟩)
    · have e' : lj_q C R F S n i = false := e
      simpa [lj_hr, lj_b, e'] using h
    · have e' : lj_q C R F S n i = true := e
      simpa [lj_hr, lj_nb, e'] using h
theorem lj_XH {m : Nat} {C : Nat → Int64} {R F S : Nat → Int32} (hO : lj_OK m R F S) {n : Nat} (hn : n < 4096) {post : Int32 → Prop} (h : post (lj_b (lj_h C R F S m (nI n)))) : wpX_holds post (nI m, C, R, F, S) (nI n) := by
  unfold wpX_holds
  dsimp only
  refine br_f (nI_pos (by omega)) (br_t ?_ ⟨m + 1, lj_xh hO (nI n) post m 0 0 (by omega) h⟩)
  rw [← lj_k4096]
  exact nI_lt hn (by omega)
-- Y: isAnswer
theorem lj_y87z (n bd f : Int32) (W R F S s : Nat → Int32) (post : Int32 → Prop) (h : post 0) : ∀ d v, v + d = 4 → wY_isAnswer_87 post n bd f W R F S s (d + 1) 0 (nI v) := by
  intro d
  induction d with
  | zero =>
    intro v hv
    exact br_t (lj_ge lj_k4 (by omega) (by omega)) ⟨lj_nar false, h⟩
  | succ d ih =>
    intro v hv
    exact br_f (lj_nge lj_k4 (by omega) (by omega)) (br_t rfl (nm_r (nI_1 v) (ih (v + 1) (by omega))))
theorem lj_y87 (n bd f : Int32) (W R F S s : Nat → Int32) (post : Int32 → Prop) : ∀ d v, v + d = 4 → post (lj_b (lj_oz n bd d v)) → wY_isAnswer_87 post n bd f W R F S s (d + 1) 1 (nI v) := by
  intro d
  induction d with
  | zero =>
    intro v hv h
    exact br_t (lj_ge lj_k4 (by omega) (by omega)) ⟨lj_nar true, h⟩
  | succ d ih =>
    intro v hv h
    refine br_f (lj_nge lj_k4 (by omega) (by omega)) (br_f (by decide) (br_c (fun z => nm_r (nI_1 v) (ih (v + 1) (by omega) ?_)) (fun z => lj_ty (br_c (fun y => nm_r (nI_1 v) (ih (v + 1) (by omega) ?_)) (fun y => nm_r (nI_1 v) (lj_y87z n bd f W R F S s post ?_ d (v + 1) (by omega)))))))
    · have e : bt bd v = true := (lj_one bd (by omega)).mp z
      simpa [lj_oz, e] using h
    · simpa [lj_oz, y] using h
    · have e : bt bd v = false := ts_nt (fun t => z ((lj_one bd (by omega)).mpr t))
      simpa [lj_oz, lj_b, y, e] using h
theorem lj_y7z (n bd f x : Int32) (W R F S s : Nat → Int32) (post : Int32 → Prop) (h : post 0) (d : Nat) : wY_isAnswer_7 post n f W R F S s (d + 1) bd 0 x :=
  br_c (fun _ => ⟨5, lj_y87z n bd f W R F S s post h 4 0 rfl⟩) (fun _ => br_t rfl ⟨5, lj_y87z n bd f W R F S s post h 4 0 rfl⟩)
theorem lj_yh {m : Nat} {C : Nat → Int64} {W R F S s : Nat → Int32} (hO : lj_OK m R F S) (hC : lj_CW C W) (n : Int32) (post : Int32 → Prop) : ∀ d i bd, i + d = m → post (lj_b (lj_hr C R F S n d i bd)) → wY_isAnswer_7 post n (nI m) W R F S s (d + 1) bd 1 (nI i) := by
  have hm : m ≤ 5 := hO.1
  intro d
  induction d with
  | zero =>
    intro i bd hi h
    exact br_t (nI_le (by omega) (by omega)) ⟨5, lj_y87 n bd (nI m) W R F S s post 4 0 rfl h⟩
  | succ d ih =>
    intro i bd hi h
    have h5 : vp_in (nI i) 5 := vp_in_nI (by omega) (by omega)
    obtain ⟨a, ha, hR⟩ := hO.2.1 i
    have hq : bt (W (8 * a + lj_n n (F i))) (lj_n n (S i)) = lj_q C R F S n i := by
      unfold lj_q lj_c
      rw [hR, nI_clamp (by omega)]
      exact (hC a _ _ ha (lj_tl _ _) (lj_tl _ _)).symm
    rw [wY_isAnswer_7]
    dsimp only
    rw [nI_clamp (n := i) (by omega)]
    refine br_f (nI_ge (by omega) (by omega)) (br_f (by decide) ⟨h5, h5, nm_r (Int32.or_assoc _ _ _) ⟨h5, h5, lj_ty ⟨h5, lj_ty ?_⟩⟩⟩)
    rw [lj_te n (F i), lj_te n (S i), hR]
    refine lj_yin ha (lj_tl _ _) (lj_tl _ _) ?_
    rw [hq]
    refine nm_r (nI_1 i) ?_
    cases e : lj_q C R F S n i with
    | false =>
      have h0 : post 0 := by simpa [lj_hr, lj_b, e] using h
      exact lj_y7z _ _ _ _ _ _ _ _ _ _ h0 d
    | true =>
      refine ih (i + 1) _ (by omega) ?_
      simpa [lj_hr, lj_nb, e] using h
theorem lj_YH {m : Nat} {C : Nat → Int64} {W R F S s : Nat → Int32} (hO : lj_OK m R F S) (hC : lj_CW C W) {n : Int32} {post : Int32 → Prop} (h : post (lj_b (lj_h C R F S m n))) : wpY_isAnswer post (nI m, W, R, F, S, s) n :=
  ⟨m + 1, lj_yh hO hC n post m 0 0 (by omega) h⟩
end
section
-- range checks: X and Y alike
theorem lj_in0 {K : Nat} {k k1 p : Int32} (hk : nI K = k) (hp : nI (K - 1) = k1) (h0 : 0 < K) (hK : K < 2 ^ 31) (h : nI K ≤ p) : ¬ p < 0 ∧ k ≤ p ∧ k1 < p := by
  have h1 : (nI K).toInt = K := nI_toInt hK
  have h2 : (nI (K - 1)).toInt = (K - 1 : Nat) := nI_toInt (by omega)
  have h3 : (0 : Int32).toInt = 0 := by decide
  subst hk hp
  rw [Int32.le_iff_toInt_le] at h
  refine ⟨?_, ?_, ?_⟩
  · rw [Int32.lt_iff_toInt_lt]; omega
  · rw [Int32.le_iff_toInt_le]; omega
  · rw [Int32.lt_iff_toInt_lt]; omega
theorem lj_relO (p : Int32) : (∃ a, a < 3 ∧ p = nI a) ∨ ((∀ post : Int32 → Prop, post 0 → wpX_isRelation post p) ∧ (∀ (post : Int32 → Prop) (v : SY), post 0 → wpY_relation post v p)) := by
  rcases pk_ix p (n := 3) (by omega) with h | h | h
  · exact Or.inr ⟨fun post hp => br_t h hp, fun post v hp => by rcases v with ⟨a, b, c, d, e, f⟩; exact br_t h hp⟩
  · have hh := lj_in0 lj_k3 lj_k2 (by omega) (by omega) h
    exact Or.inr ⟨fun post hp => br_f hh.1 (br_t hh.2.1 hp), fun post v hp => by rcases v with ⟨a, b, c, d, e, f⟩; exact br_f hh.1 (br_t hh.2.2 hp)⟩
  · exact Or.inl h
theorem lj_thO (p : Int32) : (∃ a, a < 8 ∧ p = nI a) ∨ ((∀ post : Int32 → Prop, post 0 → wpX_isThing post p) ∧ (∀ (post : Int32 → Prop) (v : SY), post 0 → wpY_thing post v p)) := by
  rcases pk_ix p (n := 8) (by omega) with h | h | h
  · exact Or.inr ⟨fun post hp => br_t h hp, fun post v hp => by rcases v with ⟨a, b, c, d, e, f⟩; exact br_t h hp⟩
  · have hh := lj_in0 lj_k8 lj_k7 (by omega) (by omega) h
    exact Or.inr ⟨fun post hp => br_f hh.1 (br_t hh.2.1 hp), fun post v hp => by rcases v with ⟨a, b, c, d, e, f⟩; exact br_f hh.1 (br_t hh.2.2 hp)⟩
  · exact Or.inl h
theorem lj_vaO (p : Int32) : (∃ a, a < 4 ∧ p = nI a) ∨ ((∀ post : Int32 → Prop, post 0 → wpX_isVariable post p) ∧ (∀ (post : Int32 → Prop) (v : SY), post 0 → wpY_variable post v p)) := by
  rcases pk_ix p (n := 4) (by omega) with h | h | h
  · exact Or.inr ⟨fun post hp => br_t h hp, fun post v hp => by rcases v with ⟨a, b, c, d, e, f⟩; exact br_t h hp⟩
  · have hh := lj_in0 lj_k4 lj_k3 (by omega) (by omega) h
    exact Or.inr ⟨fun post hp => br_f hh.1 (br_t hh.2.1 hp), fun post v hp => by rcases v with ⟨a, b, c, d, e, f⟩; exact br_f hh.1 (br_t hh.2.2 hp)⟩
  · exact Or.inl h
theorem lj_relX {a : Nat} (ha : a < 3) {post : Int32 → Prop} (h : post 1) : wpX_isRelation post (nI a) := br_f (nI_pos (by omega)) (br_f (lj_nge lj_k3 ha (by omega)) h)
theorem lj_thX {a : Nat} (ha : a < 8) {post : Int32 → Prop} (h : post 1) : wpX_isThing post (nI a) := br_f (nI_pos (by omega)) (br_f (lj_nge lj_k8 ha (by omega)) h)
theorem lj_vaX {a : Nat} (ha : a < 4) {post : Int32 → Prop} (h : post 1) : wpX_isVariable post (nI a) := br_f (nI_pos (by omega)) (br_f (lj_nge lj_k4 ha (by omega)) h)
theorem lj_nlt {K : Nat} {k : Int32} (e : nI K = k) {i : Nat} (h : i ≤ K) (hK : K < 2 ^ 31) : ¬ k < nI i := by
  subst e
  exact nI_nlt h hK
theorem lj_relY {a : Nat} (ha : a < 3) {post : Int32 → Prop} {v : SY} (h : post 1) : wpY_relation post v (nI a) := by
  rcases v with ⟨f, W, R, F, S, s⟩
  exact br_f (nI_pos (by omega)) (br_f (lj_nlt lj_k2 (by omega) (by omega)) h)
theorem lj_thY {a : Nat} (ha : a < 8) {post : Int32 → Prop} {v : SY} (h : post 1) : wpY_thing post v (nI a) := by
  rcases v with ⟨f, W, R, F, S, s⟩
  exact br_f (nI_pos (by omega)) (br_f (lj_nlt lj_k7 (by omega) (by omega)) h)
theorem lj_vaY {a : Nat} (ha : a < 4) {post : Int32 → Prop} {v : SY} (h : post 1) : wpY_variable post v (nI a) := by
  rcases v with ⟨f, W, R, F, S, s⟩
  exact br_f (nI_pos (by omega)) (br_f (lj_nlt lj_k3 (by omega) (by omega)) h)
theorem lj_10 : ¬ (1 : Int32) = 0 := by decide
-- counting
def lj_cn (f : Nat → Bool) : Nat → Nat → Nat
  | 0, _ => 0
  | d + 1, i => cond (f i) 1 0 + lj_cn f d (i + 1)
theorem lj_cnC {f g : Nat → Bool} : ∀ d i, (∀ j, i ≤ j → j < i + d → f j = g j) → lj_cn f d i = lj_cn g d i := by
  intro d
  induction d with
  | zero => intro i h; rfl
  | succ d ih =>
    intro i h
    rw [lj_cn, lj_cn, h i (by omega) (by omega), ih (i + 1) (fun j h1 h2 => h j (by omega) (by omega))]
theorem lj_cnS {f g : Nat → Bool} : ∀ d i, lj_cn (fun j => f j && !g j) d i + lj_cn (fun j => f j && g j) d i = lj_cn f d i := by
  intro d
  induction d with
  | zero => intro i; rfl
  | succ d ih =>
    intro i
    have := ih (i + 1)
    simp only [lj_cn]
    cases f i <;> cases g i <;> simp <;> omega
theorem lj_cn1 {f : Nat → Bool} {c : Nat} (hc : f c = false) : ∀ d i, lj_cn (fun j => f j || decide (j = c)) d i = lj_cn f d i + (if i ≤ c ∧ c < i + d then 1 else 0) := by
  intro d
  induction d with
  | zero => intro i; rw [if_neg (by omega)]; rfl
  | succ d ih =>
    intro i
    rw [lj_cn, lj_cn, ih (i + 1)]
    by_cases e : i = c
    · subst e
      rw [hc, if_neg (by omega), if_pos (by omega)]
      simp; omega
    · by_cases z : i ≤ c ∧ c < i + (d + 1)
      · rw [if_pos z, if_pos (by omega)]; simp [e]; omega
      · rw [if_neg z, if_neg (by omega)]; simp [e]
theorem lj_cnle (f : Nat → Bool) : ∀ d i, lj_cn f d i ≤ d := by
  intro d
  induction d with
  | zero => intro i; exact Nat.le_refl _
  | succ d ih =>
    intro i
    have := ih (i + 1)
    rw [lj_cn]
    cases f i <;> simp <;> omega
-- bitsIn, size
theorem lj_xbits (c : Int64) (post : Int32 → Prop) : ∀ d i k, i + d = 64 → post (nI (k + lj_cn (lj_L c) d i)) → wX_bitsIn_4 post c (d + 1) (nI k) (nI i) := by
  intro d
  induction d with
  | zero =>
    intro i k hi h
    exact br_t (lj_ge lj_k64 (by omega) (by omega)) h
  | succ d ih =>
    intro i k hi h
    refine br_f (lj_nge lj_k64 (by omega) (by omega)) (lj_hb (by omega) (lj_sw (fun e => nm_r (nI_1 i) (ih (i + 1) k (by omega) ?_)) (fun e => nm_r (nI_1 k) (nm_r (nI_1 i) (ih (i + 1) (k + 1) (by omega) ?_)))))
    · rw [lj_cn, e] at h; simpa using h
    · rw [lj_cn, e] at h
      rw [show k + 1 + lj_cn (lj_L c) d (i + 1) = k + (cond true 1 0 + lj_cn (lj_L c) d (i + 1)) from by simp; omega]
      exact h
theorem lj_XB {c : Int64} {post : Int32 → Prop} (h : post (nI (lj_cn (lj_L c) 64 0))) : wpX_bitsIn post c := ⟨65, lj_xbits c post 64 0 0 rfl (by rw [Nat.zero_add]; exact h)⟩
theorem lj_ysz {a : Nat} (ha : a < 3) {C : Nat → Int64} {A : Int32} {W R F S s : Nat → Int32} (hC : lj_CW C W) (post : Int32 → Prop) : ∀ d i k, i + d = 64 → post (nI (k + lj_cn (lj_L (C a)) d i)) → wY_size_4 post (nI a) A W R F S s (d + 1) (nI k) (nI i) := by
  intro d
  induction d with
  | zero =>
    intro i k hi h
    refine br_t (lj_ge lj_k64 (by omega) (by omega)) ?_
    unfold wY_size_48
    exact lj_relY ha (br_f lj_10 h)
  | succ d ih =>
    intro i k hi h
    have e1 : nI i / 8 = nI (i / 8) := by rw [← lj_k8]; exact pk_div (by omega) (by omega) (by omega)
    have e2 : nI i - nI (i / 8) * 8 = nI (i % 8) := by rw [← e1, ← lj_k8]; exact pk_rem (by omega) (by omega) (by omega)
    have hq : bt (W (8 * a + i / 8)) (i % 8) = lj_L (C a) i := by
      rw [← hC a (i / 8) (i % 8) ha (by omega) (by omega), show 8 * (i / 8) + i % 8 = i from by omega]
    rw [wY_size_4]
    dsimp only
    rw [e1, e2]
    refine br_f (lj_nge lj_k64 (by omega) (by omega)) (lj_relY ha (br_f lj_10 ⟨by decide, by decide, lj_yin ha (by omega) (by omega) ?_⟩))
    rw [hq]
    refine lj_sw (fun e => nm_r (nI_1 i) (ih (i + 1) k (by omega) ?_)) (fun e => nm_r (nI_1 k) (nm_r (nI_1 i) (ih (i + 1) (k + 1) (by omega) ?_)))
    · rw [lj_cn, e] at h; simpa using h
    · rw [lj_cn, e] at h
      rw [show k + 1 + lj_cn (lj_L (C a)) d (i + 1) = k + (cond true 1 0 + lj_cn (lj_L (C a)) d (i + 1)) from by simp; omega]
      exact h
end
section
-- X's holds and Y's isAnswer, each against one Boolean function of the number
def lj_HX (f : Nat → Bool) (A : Int32) (C : Nat → Int64) (R F S : Nat → Int32) : Prop := ∀ (n : Nat) (post : Int32 → Prop), n < 4096 → post (lj_b (f n)) → wpX_holds post (A, C, R, F, S) (nI n)
def lj_HY (f : Nat → Bool) (A : Int32) (W R F S s : Nat → Int32) : Prop := ∀ (n : Nat) (post : Int32 → Prop), n < 4096 → post (lj_b (f n)) → wpY_isAnswer post (A, W, R, F, S, s) (nI n)
theorem lj_cnt {f : Nat → Bool} {d i k : Nat} (e : f i = true) : k + 1 + lj_cn f d (i + 1) = k + lj_cn f (d + 1) i := by
  rw [lj_cn, e]; simp; omega
theorem lj_cnf {f : Nat → Bool} {d i k : Nat} (e : f i = false) : k + lj_cn f d (i + 1) = k + lj_cn f (d + 1) i := by
  rw [lj_cn, e]; simp
-- count
theorem lj_xcnt {f : Nat → Bool} {A : Int32} {C : Nat → Int64} {R F S : Nat → Int32} (H : lj_HX f A C R F S) (post : Int32 → Prop) : ∀ d i k, i + d = 4096 → post (nI (k + lj_cn f d i)) → wX_count_4 post A C R F S (d + 1) (nI k) (nI i) := by
  intro d
  induction d with
  | zero =>
    intro i k hi h
    exact br_t (lj_ge lj_k4096 (by omega) (by omega)) h
  | succ d ih =>
    intro i k hi h
    refine br_f (lj_nge lj_k4096 (by omega) (by omega)) (H i _ (by omega) (lj_sw (fun e => nm_r (nI_1 i) (ih (i + 1) k (by omega) ?_)) (fun e => nm_r (nI_1 k) (nm_r (nI_1 i) (ih (i + 1) (k + 1) (by omega) ?_)))))
    · rw [lj_cnf e]; exact h
    · rw [lj_cnt e]; exact h
theorem lj_ycnt {f : Nat → Bool} {A : Int32} {W R F S s : Nat → Int32} (H : lj_HY f A W R F S s) (post : Int32 → Prop) : ∀ d i k, i + d = 4096 → post (nI (k + lj_cn f d i)) → wY_count_4 post A W R F S s (d + 1) (nI k) (nI i) := by
  intro d
  induction d with
  | zero =>
    intro i k hi h
    exact br_t (lj_ge lj_k4096 (by omega) (by omega)) h
  | succ d ih =>
    intro i k hi h
    refine br_f (lj_nge lj_k4096 (by omega) (by omega)) (H i _ (by omega) (lj_sw (fun e => nm_r (nI_1 i) (ih (i + 1) k (by omega) ?_)) (fun e => nm_r (nI_1 k) (nm_r (nI_1 i) (ih (i + 1) (k + 1) (by omega) ?_)))))
    · rw [lj_cnf e]; exact h
    · rw [lj_cnt e]; exact h
theorem lj_XC {f : Nat → Bool} {A : Int32} {C : Nat → Int64} {R F S : Nat → Int32} (H : lj_HX f A C R F S) {post : Int32 → Prop} (h : post (nI (lj_cn f 4096 0))) : wpX_count post (A, C, R, F, S) := ⟨4097, lj_xcnt H post 4096 0 0 rfl (by rw [Nat.zero_add]; exact h)⟩
theorem lj_YC {f : Nat → Bool} {A : Int32} {W R F S s : Nat → Int32} (H : lj_HY f A W R F S s) {post : Int32 → Prop} (h : post (nI (lj_cn f 4096 0))) : wpY_count post (A, W, R, F, S, s) := ⟨4097, lj_ycnt H post 4096 0 0 rfl (by rw [Nat.zero_add]; exact h)⟩
-- answer
def lj_an (f : Nat → Bool) (k : Int32) : Nat → Nat → Int32 → Int32
  | 0, _, _ => -1
  | d + 1, i, c => cond (f i) (if c = k then nI i else lj_an f k d (i + 1) (c + 1)) (lj_an f k d (i + 1) c)
theorem lj_xan {f : Nat → Bool} {A : Int32} {C : Nat → Int64} {R F S : Nat → Int32} (H : lj_HX f A C R F S) (k : Int32) (post : Int32 → Prop) : ∀ d i c, i + d = 4096 → post (lj_an f k d i c) → wX_answer_4 post k A C R F S (d + 1) c (nI i) := by
  intro d
  induction d with
  | zero =>
    intro i c hi h
    exact br_t (lj_ge lj_k4096 (by omega) (by omega)) h
  | succ d ih =>
    intro i c hi h
    refine br_f (lj_nge lj_k4096 (by omega) (by omega)) (H i _ (by omega) (lj_sw (fun e => nm_r (nI_1 i) (ih (i + 1) c (by omega) ?_)) (fun e => br_c (fun z => ?_) (fun z => nm_e (nm_r (nI_1 i) (ih (i + 1) (c + 1) (by omega) ?_))))))
    · rw [lj_an, e] at h; exact h
    · rw [lj_an, e, cond_true, if_pos z] at h; exact h
    · rw [lj_an, e, cond_true, if_neg z] at h; exact h
theorem lj_yan {f : Nat → Bool} {A : Int32} {W R F S s : Nat → Int32} (H : lj_HY f A W R F S s) (k : Int32) (post : Int32 → Prop) : ∀ d i c, i + d = 4096 → post (lj_an f k d i c) → wY_answer_4 post k A W R F S s (d + 1) c (nI i) := by
  intro d
  induction d with
  | zero =>
    intro i c hi h
    exact br_t (lj_ge lj_k4096 (by omega) (by omega)) h
  | succ d ih =>
    intro i c hi h
    refine br_f (lj_nge lj_k4096 (by omega) (by omega)) (H i _ (by omega) (lj_sw (fun e => nm_r (nI_1 i) (ih (i + 1) c (by omega) ?_)) (fun e => br_c (fun z => ?_) (fun z => nm_e (nm_r (nI_1 i) (ih (i + 1) (c + 1) (by omega) ?_))))))
    · rw [lj_an, e] at h; exact h
    · rw [lj_an, e, cond_true, if_pos z] at h; exact h
    · rw [lj_an, e, cond_true, if_neg z] at h; exact h
-- seek
def lj_sk (f : Nat → Bool) : Nat → Nat → Int32
  | 0, _ => -1
  | d + 1, i => cond (f i) (nI i) (lj_sk f d (i + 1))
theorem lj_xsk {f : Nat → Bool} {A : Int32} {C : Nat → Int64} {R F S : Nat → Int32} (H : lj_HX f A C R F S) (post : Int32 → Prop) : ∀ d i, i + d = 4096 → post (lj_sk f d i) → wX_seek_12 post A C R F S (d + 1) (nI i) := by
  intro d
  induction d with
  | zero =>
    intro i hi h
    exact br_t (lj_ge lj_k4096 (by omega) (by omega)) h
  | succ d ih =>
    intro i hi h
    refine br_f (lj_nge lj_k4096 (by omega) (by omega)) (H i _ (by omega) (lj_sw (fun e => nm_r (nI_1 i) (ih (i + 1) (by omega) ?_)) (fun e => ?_)))
    · rw [lj_sk, e] at h; exact h
    · rw [lj_sk, e] at h; exact h
theorem lj_ysk {f : Nat → Bool} {A : Int32} {W R F S s : Nat → Int32} (H : lj_HY f A W R F S s) (n : Int32) (post : Int32 → Prop) : ∀ d i, i + d = 4096 → (∀ j, i ≤ j → j < 4096 → ¬ nI j < n) → post (lj_sk f d i) → wY_seek_2 post n A W R F S s (d + 1) (nI i) := by
  intro d
  induction d with
  | zero =>
    intro i hi hn h
    exact br_t (lj_ge lj_k4096 (by omega) (by omega)) h
  | succ d ih =>
    intro i hi hn h
    refine br_f (lj_nge lj_k4096 (by omega) (by omega)) (br_f (hn i (by omega) (by omega)) (H i _ (by omega) (lj_sw (fun e => nm_r (nI_1 i) (ih (i + 1) (by omega) (fun j h1 h2 => hn j (by omega) h2) ?_)) (fun e => ?_))))
    · rw [lj_sk, e] at h; exact h
    · rw [lj_sk, e] at h; exact h
theorem lj_yskip {A : Int32} {W R F S s : Nat → Int32} (n : Nat) (hn : n < 2 ^ 31) (post : Int32 → Prop) (k t : Nat) (ht : t ≤ n) (h4 : t ≤ 4096) (h : wY_seek_2 post (nI n) A W R F S s k (nI t)) : ∀ d i, i + d = t → wY_seek_2 post (nI n) A W R F S s (k + d) (nI i) := by
  intro d
  induction d with
  | zero =>
    intro i hi
    have e : i = t := by omega
    subst e
    exact h
  | succ d ih =>
    intro i hi
    exact br_f (lj_nge lj_k4096 (by omega) (by omega)) (br_t (nI_lt (by omega) hn) (nm_r (nI_1 i) (ih (i + 1) (by omega))))
theorem lj_seek {f : Nat → Bool} {A : Int32} {C : Nat → Int64} {W R F S s : Nat → Int32} (HX : lj_HX f A C R F S) (HY : lj_HY f A W R F S s) (n : Int32) : ∃ r, (∀ post : Int32 → Prop, post r → wpX_seek post (A, C, R, F, S) n) ∧ (∀ post : Int32 → Prop, post r → wpY_seek post (A, W, R, F, S, s) n) := by
  by_cases h0 : n < 0
  · have h0' : ¬ 0 ≤ n := Int32.not_le.mpr h0
    refine ⟨lj_sk f 4096 0, fun post h => br_f h0' ⟨4097, lj_xsk HX post 4096 0 rfl h⟩, fun post h => ⟨4097, lj_ysk HY n post 4096 0 rfl (fun j h1 h2 => ?_) h⟩⟩
    intro z
    exact nI_pos (n := j) (by omega) (Int32.lt_trans z h0)
  · have h0' : 0 ≤ n := Int32.not_lt.mp h0
    obtain ⟨j, hj, rfl⟩ := nI_of h0
    by_cases h4 : j < 4096
    · refine ⟨lj_sk f (4096 - j) j, fun post h => br_t h0' ⟨4096 - j + 1, lj_xsk HX post (4096 - j) j (by omega) h⟩, fun post h => ⟨4096 - j + 1 + j, lj_yskip j hj post (4096 - j + 1) j (by omega) (by omega) (lj_ysk HY (nI j) post (4096 - j) j (by omega) (fun i h1 h2 => nI_nlt h1 (by omega)) h) j 0 (by omega)⟩⟩
    · refine ⟨-1, fun post h => br_t h0' ⟨1, br_t (lj_ge lj_k4096 (by omega) hj) h⟩, fun post h => ⟨1 + 4096, lj_yskip j hj post 1 4096 (by omega) (by omega) (br_t (lj_ge lj_k4096 (by omega) (by omega)) h) 4096 0 (by omega)⟩⟩
-- values
def lj_va (f : Nat → Bool) (v : Int32) : Nat → Nat → Int32 → Int32
  | 0, _, z => z
  | d + 1, i, z => cond (f i) (lj_va f v d (i + 1) (z ||| ((1 : Int32) <<< (lj_t (nI i) v &&& 31)))) (lj_va f v d (i + 1) z)
theorem lj_xva {f : Nat → Bool} {A : Int32} {C : Nat → Int64} {R F S : Nat → Int32} (H : lj_HX f A C R F S) (v : Int32) (post : Int32 → Prop) : ∀ d i z, i + d = 4096 → post (lj_va f v d i z) → wX_values_13 post v A C R F S (d + 1) z (nI i) := by
  intro d
  induction d with
  | zero =>
    intro i z hi h
    exact br_t (lj_ge lj_k4096 (by omega) (by omega)) h
  | succ d ih =>
    intro i z hi h
    refine br_f (lj_nge lj_k4096 (by omega) (by omega)) (H i _ (by omega) (lj_sw (fun e => nm_r (nI_1 i) (ih (i + 1) z (by omega) ?_)) (fun e => lj_tx (nm_e (nm_r (nI_1 i) (ih (i + 1) _ (by omega) ?_))))))
    · rw [lj_va, e] at h; exact h
    · rw [lj_va, e] at h; exact h
theorem lj_yva {f : Nat → Bool} {A : Int32} {W R F S s : Nat → Int32} (H : lj_HY f A W R F S s) {v : Nat} (hv : v < 4) (post : Int32 → Prop) : ∀ d i z, i + d = 4096 → post (lj_va f (nI v) d i z) → wY_values_4 post (nI v) A W R F S s (d + 1) z (nI i) := by
  intro d
  induction d with
  | zero =>
    intro i z hi h
    exact br_t (lj_ge lj_k4096 (by omega) (by omega)) h
  | succ d ih =>
    intro i z hi h
    refine br_f (lj_nge lj_k4096 (by omega) (by omega)) (lj_vaY hv (br_f lj_10 (H i _ (by omega) (lj_sw (fun e => nm_r (nI_1 i) (ih (i + 1) z (by omega) ?_)) (fun e => lj_ty (nm_e (nm_r (nI_1 i) (ih (i + 1) _ (by omega) ?_))))))))
    · rw [lj_va, e] at h; exact h
    · rw [lj_va, e] at h; exact h
-- countWith
def lj_w (f : Nat → Bool) (v x : Int32) (i : Nat) : Bool := decide (lj_t (nI i) v = x) && f i
theorem lj_xcw {f : Nat → Bool} {A : Int32} {C : Nat → Int64} {R F S : Nat → Int32} (H : lj_HX f A C R F S) (v x : Int32) (post : Int32 → Prop) : ∀ d i k, i + d = 4096 → post (nI (k + lj_cn (lj_w f v x) d i)) → wX_countWith_14 post v x A C R F S (d + 1) (nI k) (nI i) := by
  intro d
  induction d with
  | zero =>
    intro i k hi h
    exact br_t (lj_ge lj_k4096 (by omega) (by omega)) h
  | succ d ih =>
    intro i k hi h
    refine br_f (lj_nge lj_k4096 (by omega) (by omega)) (lj_tx (br_c (fun z => H i _ (by omega) (lj_sw (fun e => nm_r (nI_1 i) (ih (i + 1) k (by omega) ?_)) (fun e => nm_r (nI_1 k) (nm_r (nI_1 i) (ih (i + 1) (k + 1) (by omega) ?_))))) (fun z => nm_r (nI_1 i) (ih (i + 1) k (by omega) ?_))))
    · rw [lj_cnf (f := lj_w f v x) (by simp [lj_w, e])]; exact h
    · rw [lj_cnt (f := lj_w f v x) (by simp [lj_w, e, z])]; exact h
    · rw [lj_cnf (f := lj_w f v x) (by simp [lj_w, z])]; exact h
theorem lj_ycw {f : Nat → Bool} {A : Int32} {W R F S s : Nat → Int32} (H : lj_HY f A W R F S s) {v : Nat} (hv : v < 4) (x : Int32) (post : Int32 → Prop) : ∀ d i k, i + d = 4096 → post (nI (k + lj_cn (lj_w f (nI v) x) d i)) → wY_countWith_5 post (nI v) x A W R F S s (d + 1) (nI k) (nI i) := by
  intro d
  induction d with
  | zero =>
    intro i k hi h
    exact br_t (lj_ge lj_k4096 (by omega) (by omega)) h
  | succ d ih =>
    intro i k hi h
    refine br_f (lj_nge lj_k4096 (by omega) (by omega)) (lj_vaY hv (br_f lj_10 (lj_ty (br_c (fun z => H i _ (by omega) (lj_sw (fun e => nm_r (nI_1 i) (ih (i + 1) k (by omega) ?_)) (fun e => nm_r (nI_1 k) (nm_r (nI_1 i) (ih (i + 1) (k + 1) (by omega) ?_))))) (fun z => nm_r (nI_1 i) (ih (i + 1) k (by omega) ?_))))))
    · rw [lj_cnf (f := lj_w f (nI v) x) (by simp [lj_w, e])]; exact h
    · rw [lj_cnt (f := lj_w f (nI v) x) (by simp [lj_w, e, z])]; exact h
    · rw [lj_cnf (f := lj_w f (nI v) x) (by simp [lj_w, z])]; exact h
end
section
-- pairs
def lj_ps (f : Nat → Bool) (v w : Int32) : Nat → Nat → Int64 → Int64
  | 0, _, z => z
  | d + 1, i, z => cond (f i) (lj_ps f v w d (i + 1) (z ||| ((1 : Int64) <<< ((nI (lj_c (nI i) v w)).toInt64 &&& 63)))) (lj_ps f v w d (i + 1) z)
theorem lj_xps {f : Nat → Bool} {A : Int32} {C : Nat → Int64} {R F S : Nat → Int32} (H : lj_HX f A C R F S) (v w : Int32) (post : Int32 → Prop) : ∀ d i z, i + d = 4096 → post (nI (lj_cn (lj_L (lj_ps f v w d i z)) 64 0)) → wX_pairs_21 post v w A C R F S (d + 1) z (nI i) := by
  intro d
  induction d with
  | zero =>
    intro i z hi h
    exact br_t (lj_ge lj_k4096 (by omega) (by omega)) (lj_XB h)
  | succ d ih =>
    intro i z hi h
    refine br_f (lj_nge lj_k4096 (by omega) (by omega)) (H i _ (by omega) (lj_sw (fun e => nm_r (nI_1 i) (ih (i + 1) z (by omega) ?_)) (fun e => lj_cx (nm_e (nm_r (nI_1 i) (ih (i + 1) _ (by omega) ?_))))))
    · rw [lj_ps, e] at h; exact h
    · rw [lj_ps, e] at h; exact h
theorem lj_nb1 : ¬ vp_nar .boolean 1 = 0 := by decide
theorem lj_nb0 : vp_nar .boolean 0 = 0 := by decide
theorem lj_yps {f : Nat → Bool} {A : Int32} {W R F S : Nat → Int32} (H : ∀ s, lj_HY f A W R F S s) {v w : Nat} (hv : v < 4) (hw : w < 4) (post : Int32 → SY → Prop) : ∀ d i z q, i + d = 4096 → (∀ c, c < 64 → (q c = 0 ↔ lj_L z c = false)) → (∀ q', post (nI (lj_cn (lj_L (lj_ps f (nI v) (nI w) d i z)) 64 0)) (A, W, R, F, S, q')) → wY_pairs_26 post (nI v) (nI w) A (d + 1) (nI (lj_cn (lj_L z) 64 0)) (nI i) W R F S q := by
  intro d
  induction d with
  | zero =>
    intro i z q hi hq h
    exact br_t (lj_ge lj_k4096 (by omega) (by omega)) (h q)
  | succ d ih =>
    intro i z q hi hq h
    have hc : lj_c (nI i) (nI v) (nI w) < 64 := lj_cl _ _ _
    have h6 : vp_in (nI (lj_c (nI i) (nI v) (nI w))) 64 := vp_in_nI hc (by omega)
    have e0 : 8 * lj_t (nI i) (nI v) + lj_t (nI i) (nI w) = nI (lj_c (nI i) (nI v) (nI w)) := by
      rw [lj_te (nI i) (nI v), lj_te (nI i) (nI w), lj_8]
      rfl
    refine br_f (lj_nge lj_k4096 (by omega) (by omega)) (lj_vaY hv (br_f lj_10 (lj_vaY hw (br_f lj_10 (lj_ty (lj_ty (nm_r e0 (H q i _ (by omega) (lj_sw (fun e => nm_r (nI_1 i) (ih (i + 1) z q (by omega) hq ?_)) (fun e => ⟨h6, ?_⟩))))))))))
    · rw [lj_ps, e] at h; exact h
    · rw [lj_ps, e, cond_true] at h
      generalize lj_c (nI i) (nI v) (nI w) = c at hc h6 h e0
      rw [nI_clamp (n := c) (by omega)]
      refine br_c (fun y => ⟨h6, nm_e (nm_r (nI_1 _) (nm_r (nI_1 i) ?_))⟩) (fun y => nm_r (nI_1 i) ?_)
      · have y' : lj_L z c = false := (hq c hc).mp y
        have e2 : lj_cn (lj_L z) 64 0 + 1 = lj_cn (lj_L (z ||| ((1 : Int64) <<< ((nI c).toInt64 &&& 63)))) 64 0 := by
          rw [lj_cnC (g := fun j => lj_L z j || decide (j = c)) 64 0 (fun j h1 h2 => lj_Lor z hc (by omega)), lj_cn1 y', if_pos (by omega)]
        rw [e2]
        refine ih (i + 1) _ _ (by omega) (fun j hj => ?_) h
        rw [lj_Lor z hc hj]
        by_cases ej : j = c
        · subst ej; rw [pk_us]; exact ⟨fun t => absurd t lj_nb1, fun t => by simp at t⟩
        · rw [pk_un ej, hq j hj]; simp [ej]
      · have y' : lj_L z c = true := ts_nf (fun t => y ((hq c hc).mpr t))
        have e2 : lj_cn (lj_L z) 64 0 = lj_cn (lj_L (z ||| ((1 : Int64) <<< ((nI c).toInt64 &&& 63)))) 64 0 := by
          refine lj_cnC 64 0 (fun j h1 h2 => ?_)
          rw [lj_Lor z hc (by omega)]
          by_cases ej : j = c
          · subst ej; simp [y']
          · simp [ej]
        rw [e2]
        refine ih (i + 1) _ _ (by omega) (fun j hj => ?_) h
        rw [lj_Lor z hc hj, hq j hj]
        by_cases ej : j = c
        · subst ej; simp [y']
        · simp [ej]
theorem lj_yclr {A v w : Int32} {W R F S : Nat → Int32} (post : Int32 → SY → Prop) (k : Nat) (H : ∀ q : Nat → Int32, (∀ c, c < 64 → q c = 0) → wY_pairs_26 post v w A k 0 0 W R F S q) : ∀ d i q, i + d = 64 → (∀ c, c < i → q c = 0) → wY_pairs_2 post v w A (d + 1) (nI i) W R F S q := by
  intro d
  induction d with
  | zero =>
    intro i q hi h
    exact br_t (lj_ge lj_k64 (by omega) (by omega)) ⟨k, H q (fun c hc => h c (by omega))⟩
  | succ d ih =>
    intro i q hi h
    rw [wY_pairs_2]
    dsimp only
    rw [nI_clamp (n := i) (by omega)]
    refine br_f (lj_nge lj_k64 (by omega) (by omega)) ⟨vp_in_nI (by omega) (by omega), nm_e (nm_r (nI_1 i) (ih (i + 1) _ (by omega) (fun c hc => ?_)))⟩
    by_cases e : c = i
    · subst e; rw [pk_us]; exact lj_nb0
    · rw [pk_un e]; exact h c (by omega)
-- where v or w is none of 0 .. 3, Y's scan ends at its first step
theorem lj_pairsO {A v w : Int32} {W R F S s : Nat → Int32} (hvw : ∀ (post : Int32 → SY → Prop) (q : Nat → Int32), post 0 (A, W, R, F, S, q) → wY_pairs_26 post v w A 1 0 0 W R F S q) (post : Int32 → SY → Prop) (h : ∀ q, post 0 (A, W, R, F, S, q)) : wpY_pairs post (A, W, R, F, S, s) v w :=
  ⟨65, lj_yclr post 1 (fun q _ => hvw post q (h q)) 64 0 s rfl (fun c hc => absurd hc (by omega))⟩
theorem lj_pairs {f : Nat → Bool} {A : Int32} {C : Nat → Int64} {W R F S s : Nat → Int32} (HX : lj_HX f A C R F S) (HY : ∀ s, lj_HY f A W R F S s) (v w : Int32) : ∃ r, (∀ post : Int32 → Prop, post r → wpX_pairs post (A, C, R, F, S) v w) ∧ (∀ post : Int32 → SY → Prop, (∀ q, post r (A, W, R, F, S, q)) → wpY_pairs post (A, W, R, F, S, s) v w) := by
  rcases lj_vaO v with ⟨a, ha, rfl⟩ | hv
  · rcases lj_vaO w with ⟨b, hb, rfl⟩ | hw
    · refine ⟨nI (lj_cn (lj_L (lj_ps f (nI a) (nI b) 4096 0 0)) 64 0), fun post h => ?_, fun post h => ?_⟩
      · unfold wpX_pairs
        dsimp only
        exact lj_vaX ha (br_f lj_10 (lj_vaX hb (br_f lj_10 ⟨4097, lj_xps HX (nI a) (nI b) post 4096 0 0 rfl h⟩)))
      · refine ⟨65, lj_yclr post 4097 (fun q hq => ?_) 64 0 s rfl (fun c hc => absurd hc (by omega))⟩
        have e : lj_cn (lj_L 0) 64 0 = 0 := by
          rw [lj_cnC (g := fun _ => false) 64 0 (fun j _ _ => lj_L0 j)]
          rfl
        have t := lj_yps HY ha hb post 4096 0 0 q rfl (fun c hc => by rw [hq c hc, lj_L0]; simp) h
        rw [e] at t
        exact t
    · refine ⟨0, fun post h => ?_, fun post h => lj_pairsO (fun post q h => ?_) post h⟩
      · unfold wpX_pairs
        dsimp only
        exact lj_vaX ha (br_f lj_10 (hw.1 _ (br_t rfl h)))
      · exact br_f (by decide) (lj_vaY ha (br_f lj_10 (hw.2 _ _ (br_t rfl h))))
  · refine ⟨0, fun post h => ?_, fun post h => lj_pairsO (fun post q h => ?_) post h⟩
    · unfold wpX_pairs
      dsimp only
      exact hv.1 _ (br_t rfl h)
    · exact br_f (by decide) (hv.2 _ _ (br_t rfl h))
-- partners
def lj_pa (f : Nat → Bool) : Nat → Nat → Int32 → Int32
  | 0, _, z => z
  | d + 1, i, z => cond (f i) (lj_pa f d (i + 1) (z ||| ((1 : Int32) <<< (nI i &&& 31)))) (lj_pa f d (i + 1) z)
theorem lj_xpa0 {a x : Nat} (ha : a < 3) (hx : x < 8) {A : Int32} {C : Nat → Int64} {R F S : Nat → Int32} (post : Int32 → Prop) : ∀ d i z, i + d = 8 → post (lj_pa (fun y => lj_L (C a) (8 * x + y)) d i z) → wX_partners_31 post (nI a) (nI x) 0 A C R F S (d + 1) z (nI i) := by
  intro d
  induction d with
  | zero =>
    intro i z hi h
    exact br_t (lj_ge lj_k8 (by omega) (by omega)) h
  | succ d ih =>
    intro i z hi h
    refine br_f (lj_nge lj_k8 (by omega) (by omega)) (br_t rfl ?_)
    unfold wpX_cell wX_partners_57
    rw [lj_8, nI_clamp (n := a) (by omega)]
    refine ⟨vp_in_nI ha (by omega), lj_hb (by omega) (lj_sw (fun e => nm_r (nI_1 i) (ih (i + 1) z (by omega) ?_)) (fun e => nm_e (nm_r (nI_1 i) (ih (i + 1) _ (by omega) ?_))))⟩
    · rw [lj_pa, e] at h; exact h
    · rw [lj_pa, e] at h; exact h
theorem lj_xpa1 {a x : Nat} (ha : a < 3) (hx : x < 8) {A : Int32} {C : Nat → Int64} {R F S : Nat → Int32} (post : Int32 → Prop) : ∀ d i z, i + d = 8 → post (lj_pa (fun y => lj_L (C a) (8 * y + x)) d i z) → wX_partners_31 post (nI a) (nI x) 1 A C R F S (d + 1) z (nI i) := by
  intro d
  induction d with
  | zero =>
    intro i z hi h
    exact br_t (lj_ge lj_k8 (by omega) (by omega)) h
  | succ d ih =>
    intro i z hi h
    refine br_f (lj_nge lj_k8 (by omega) (by omega)) (br_f (by decide) ?_)
    unfold wpX_cell wX_partners_57
    rw [lj_8, nI_clamp (n := a) (by omega)]
    refine ⟨vp_in_nI ha (by omega), lj_hb (by omega) (lj_sw (fun e => nm_r (nI_1 i) (ih (i + 1) z (by omega) ?_)) (fun e => nm_e (nm_r (nI_1 i) (ih (i + 1) _ (by omega) ?_))))⟩
    · rw [lj_pa, e] at h; exact h
    · rw [lj_pa, e] at h; exact h
theorem lj_ypa0 {a x : Nat} (ha : a < 3) (hx : x < 8) {A : Int32} {C : Nat → Int64} {W R F S s : Nat → Int32} (hC : lj_CW C W) (post : Int32 → Prop) : ∀ d i z, i + d = 8 → post (lj_pa (fun y => lj_L (C a) (8 * x + y)) d i z) → wY_partners_6 post (nI a) (nI x) 0 A W R F S s (d + 1) z (nI i) := by
  intro d
  induction d with
  | zero =>
    intro i z hi h
    exact br_t (lj_ge lj_k8 (by omega) (by omega)) h
  | succ d ih =>
    intro i z hi h
    refine br_f (lj_nge lj_k8 (by omega) (by omega)) (lj_relY ha (br_f lj_10 (lj_thY hx (br_f lj_10 (br_t rfl (lj_yin ha hx (by omega) ?_))))))
    rw [← hC a x i ha hx (by omega)]
    refine lj_sw (fun e => br_f (by decide) ?_) (fun e => ?_)
    · refine br_t rfl (nm_r (nI_1 i) (ih (i + 1) z (by omega) ?_))
      rw [lj_pa, e] at h; exact h
    · refine br_f lj_10 (nm_e (nm_r (nI_1 i) (ih (i + 1) _ (by omega) ?_)))
      rw [lj_pa, e] at h; exact h
theorem lj_ypa1 {a x : Nat} (ha : a < 3) (hx : x < 8) {A : Int32} {C : Nat → Int64} {W R F S s : Nat → Int32} (hC : lj_CW C W) (post : Int32 → Prop) : ∀ d i z, i + d = 8 → post (lj_pa (fun y => lj_L (C a) (8 * y + x)) d i z) → wY_partners_6 post (nI a) (nI x) 1 A W R F S s (d + 1) z (nI i) := by
  intro d
  induction d with
  | zero =>
    intro i z hi h
    exact br_t (lj_ge lj_k8 (by omega) (by omega)) h
  | succ d ih =>
    intro i z hi h
    refine br_f (lj_nge lj_k8 (by omega) (by omega)) (lj_relY ha (br_f lj_10 (lj_thY hx (br_f lj_10 (br_f lj_10 (br_t rfl (lj_yin ha (by omega) hx ?_)))))))
    rw [← hC a i x ha (by omega) hx]
    refine lj_sw (fun e => ?_) (fun e => ?_)
    · refine br_t rfl (nm_r (nI_1 i) (ih (i + 1) z (by omega) ?_))
      rw [lj_pa, e] at h; exact h
    · refine br_f lj_10 (nm_e (nm_r (nI_1 i) (ih (i + 1) _ (by omega) ?_)))
      rw [lj_pa, e] at h; exact h
theorem lj_ypaO {a x : Nat} (ha : a < 3) (hx : x < 8) {A p : Int32} {W R F S s : Nat → Int32} (h0 : ¬ p = 0) (h1 : ¬ p = 1) (post : Int32 → Prop) (h : post 0) : ∀ d i, i + d = 8 → wY_partners_6 post (nI a) (nI x) p A W R F S s (d + 1) 0 (nI i) := by
  intro d
  induction d with
  | zero =>
    intro i hi
    exact br_t (lj_ge lj_k8 (by omega) (by omega)) h
  | succ d ih =>
    intro i hi
    refine br_f (lj_nge lj_k8 (by omega) (by omega)) (lj_relY ha (br_f lj_10 (lj_thY hx (br_f lj_10 (br_f h0 (br_f h1 ?_))))))
    exact br_t rfl (nm_r (nI_1 i) (ih (i + 1) (by omega)))
end
section
-- a pair put in or taken out, on both sides
theorem lj_uLor {C : Nat → Int64} {a c : Nat} (hc : c < 64) (r : Nat) {i : Nat} (hi : i < 64) : lj_L (vp_updL C a (C a ||| ((1 : Int64) <<< ((nI c).toInt64 &&& 63))) r) i = (lj_L (C r) i || (decide (r = a) && decide (i = c))) := by
  by_cases e : r = a
  · subst e; rw [pk_uLs, lj_Lor _ hc hi]; simp
  · rw [pk_uLn e]; simp [e]
theorem lj_uLcl {C : Nat → Int64} {a c : Nat} (hc : c < 64) (r : Nat) {i : Nat} (hi : i < 64) : lj_L (vp_updL C a (C a &&& (((1 : Int64) <<< ((nI c).toInt64 &&& 63)) ^^^ (-1))) r) i = (lj_L (C r) i && !(decide (r = a) && decide (i = c))) := by
  by_cases e : r = a
  · subst e; rw [pk_uLs, lj_Lcl _ hc hi]; simp
  · rw [pk_uLn e]; simp [e]
theorem lj_uWor {W : Nat → Int32} {k y : Nat} (hy : y < 32) (k' : Nat) {i : Nat} (hi : i < 32) : bt (upd W k (W k ||| ((1 : Int32) <<< (nI y &&& 31))) k') i = (bt (W k') i || (decide (k' = k) && decide (i = y))) := by
  by_cases e : k' = k
  · subst e; rw [pk_us, lj_bor _ hy hi]; simp
  · rw [pk_un e]; simp [e]
theorem lj_uWcl {W : Nat → Int32} {k y : Nat} (hy : y < 32) (k' : Nat) {i : Nat} (hi : i < 32) : bt (upd W k (W k &&& (((1 : Int32) <<< (nI y &&& 31)) ^^^ (-1))) k') i = (bt (W k') i && !(decide (k' = k) && decide (i = y))) := by
  by_cases e : k' = k
  · subst e; rw [pk_us, lj_bcl _ hy hi]; simp
  · rw [pk_un e]; simp [e]
theorem lj_same {a x y r x' y' : Nat} (hx : x < 8) (hy : y < 8) (hx' : x' < 8) (hy' : y' < 8) : (decide (r = a) && decide (8 * x' + y' = 8 * x + y)) = (decide (8 * r + x' = 8 * a + x) && decide (y' = y)) := by
  rw [Bool.eq_iff_iff]
  simp only [Bool.and_eq_true, decide_eq_true_eq]
  omega
theorem lj_CWor {C : Nat → Int64} {W : Nat → Int32} (h : lj_CW C W) {a x y : Nat} (hx : x < 8) (hy : y < 8) : lj_CW (vp_updL C a (C a ||| ((1 : Int64) <<< ((nI (8 * x + y)).toInt64 &&& 63)))) (upd W (8 * a + x) (W (8 * a + x) ||| ((1 : Int32) <<< (nI y &&& 31)))) := by
  intro r x' y' hr hx' hy'
  rw [lj_uLor (by omega) r (by omega), lj_uWor (by omega) _ (by omega), h r x' y' hr hx' hy', lj_same hx hy hx' hy']
theorem lj_CWcl {C : Nat → Int64} {W : Nat → Int32} (h : lj_CW C W) {a x y : Nat} (hx : x < 8) (hy : y < 8) : lj_CW (vp_updL C a (C a &&& (((1 : Int64) <<< ((nI (8 * x + y)).toInt64 &&& 63)) ^^^ (-1)))) (upd W (8 * a + x) (W (8 * a + x) &&& (((1 : Int32) <<< (nI y &&& 31)) ^^^ (-1)))) := by
  intro r x' y' hr hx' hy'
  rw [lj_uLcl (by omega) r (by omega), lj_uWcl (by omega) _ (by omega), h r x' y' hr hx' hy', lj_same hx hy hx' hy']
theorem lj_xpair1 {A p : Int32} {C : Nat → Int64} {R F S : Nat → Int32} {a x y : Nat} (ha : a < 3) (hx : x < 8) (hy : y < 8) (hp : ¬ p = 0) {post : Int32 → SX → Prop} (h : post 1 (A, vp_updL C a (C a ||| ((1 : Int64) <<< ((nI (8 * x + y)).toInt64 &&& 63))), R, F, S)) : wpX_pair post (A, C, R, F, S) (nI a) (nI x) (nI y) p := by
  unfold wpX_pair
  dsimp only
  refine lj_relX ha (br_f lj_10 (lj_thX hx (br_f lj_10 (lj_thX hy (br_f lj_10 ?_)))))
  unfold wpX_cell
  rw [lj_8, nI_clamp (n := a) (by omega)]
  exact nm_e (br_f hp ⟨vp_in_nI ha (by omega), vp_in_nI ha (by omega), nm_e h⟩)
theorem lj_xpair0 {A : Int32} {C : Nat → Int64} {R F S : Nat → Int32} {a x y : Nat} (ha : a < 3) (hx : x < 8) (hy : y < 8) {post : Int32 → SX → Prop} (h : post 1 (A, vp_updL C a (C a &&& (((1 : Int64) <<< ((nI (8 * x + y)).toInt64 &&& 63)) ^^^ (-1))), R, F, S)) : wpX_pair post (A, C, R, F, S) (nI a) (nI x) (nI y) 0 := by
  unfold wpX_pair
  dsimp only
  refine lj_relX ha (br_f lj_10 (lj_thX hx (br_f lj_10 (lj_thX hy (br_f lj_10 ?_)))))
  unfold wpX_cell
  rw [lj_8, nI_clamp (n := a) (by omega)]
  exact nm_e (br_t rfl ⟨vp_in_nI ha (by omega), vp_in_nI ha (by omega), nm_e h⟩)
theorem lj_ypair1 {A p : Int32} {W R F S s : Nat → Int32} {a x y : Nat} (ha : a < 3) (hx : x < 8) (hy : y < 8) (hp : ¬ p = 0) {post : Int32 → SY → Prop} (h : post 1 (A, upd W (8 * a + x) (W (8 * a + x) ||| ((1 : Int32) <<< (nI y &&& 31))), R, F, S, s)) : wpY_pair post (A, W, R, F, S, s) (nI a) (nI x) (nI y) p := by
  unfold wpY_pair
  dsimp only
  refine lj_relY ha (br_f lj_10 (lj_thY hx (br_f lj_10 (lj_thY hy (br_f lj_10 ?_)))))
  rw [lj_8, nI_clamp (n := 8 * a + x) (by omega)]
  exact br_f hp ⟨vp_in_nI (by omega) (by omega), vp_in_nI (by omega) (by omega), nm_e h⟩
theorem lj_ypair0 {A : Int32} {W R F S s : Nat → Int32} {a x y : Nat} (ha : a < 3) (hx : x < 8) (hy : y < 8) {post : Int32 → SY → Prop} (h : post 1 (A, upd W (8 * a + x) (W (8 * a + x) &&& (((1 : Int32) <<< (nI y &&& 31)) ^^^ (-1))), R, F, S, s)) : wpY_pair post (A, W, R, F, S, s) (nI a) (nI x) (nI y) 0 := by
  unfold wpY_pair
  dsimp only
  refine lj_relY ha (br_f lj_10 (lj_thY hx (br_f lj_10 (lj_thY hy (br_f lj_10 ?_)))))
  rw [lj_8, nI_clamp (n := 8 * a + x) (by omega)]
  exact br_t rfl ⟨vp_in_nI (by omega) (by omega), vp_in_nI (by omega) (by omega), nm_e h⟩
-- which answers use a cell
def lj_us (R F S : Nat → Int32) (n p c : Int32) : Nat → Nat → Bool
  | 0, _ => false
  | d + 1, i => (decide (R i = p) && decide (nI (lj_c n (F i) (S i)) = c)) || lj_us R F S n p c d (i + 1)
theorem lj_xus {m : Nat} (hm : m ≤ 5) {C : Nat → Int64} {R F S : Nat → Int32} (n p c : Int32) (post : Int32 → Prop) : ∀ d i, i + d = m → post (lj_b (lj_us R F S n p c d i)) → wX_usesCell_3 post n p c (nI m) C R F S (d + 1) (nI i) := by
  intro d
  induction d with
  | zero =>
    intro i hi h
    exact br_t (nI_le (by omega) (by omega)) h
  | succ d ih =>
    intro i hi h
    have h5 : vp_in (nI i) 5 := vp_in_nI (by omega) (by omega)
    rw [wX_usesCell_3]
    dsimp only
    rw [nI_clamp (n := i) (by omega)]
    refine br_f (nI_ge (by omega) (by omega)) ⟨h5, br_c (fun z => ⟨h5, h5, lj_cx (br_c (fun y => ?_) (fun y => nm_r (nI_1 i) (ih (i + 1) (by omega) ?_)))⟩) (fun z => nm_r (nI_1 i) (ih (i + 1) (by omega) ?_))⟩
    · simpa [lj_us, lj_b, z, y] using h
    · simpa [lj_us, y] using h
    · simpa [lj_us, z] using h
theorem lj_xls {f g : Nat → Bool} {A p c : Int32} {C : Nat → Int64} {R F S : Nat → Int32} (H : lj_HX f A C R F S) (HU : ∀ (n : Nat) (post : Int32 → Prop), n < 4096 → post (lj_b (g n)) → wpX_usesCell post (A, C, R, F, S) (nI n) p c) (post : Int32 → Prop) : ∀ d i k, i + d = 4096 → post (nI (k + lj_cn (fun j => f j && g j) d i)) → wX_loss_36 post p c A C R F S (d + 1) (nI k) (nI i) := by
  intro d
  induction d with
  | zero =>
    intro i k hi h
    exact br_t (lj_ge lj_k4096 (by omega) (by omega)) h
  | succ d ih =>
    intro i k hi h
    refine br_f (lj_nge lj_k4096 (by omega) (by omega)) (H i _ (by omega) (lj_sw (fun e => nm_r (nI_1 i) (ih (i + 1) k (by omega) ?_)) (fun e => HU i _ (by omega) (lj_sw (fun e' => nm_r (nI_1 i) (ih (i + 1) k (by omega) ?_)) (fun e' => nm_r (nI_1 k) (nm_r (nI_1 i) (ih (i + 1) (k + 1) (by omega) ?_)))))))
    · rw [lj_cnf (f := fun j => f j && g j) (by simp [e])]; exact h
    · rw [lj_cnf (f := fun j => f j && g j) (by simp [e'])]; exact h
    · rw [lj_cnt (f := fun j => f j && g j) (by simp [e, e'])]; exact h
-- the answers with a pair taken out are those that don't use it
theorem lj_hrc {C D : Nat → Int64} {R F S : Nat → Int32} (hR : ∀ i, ∃ a, a < 3 ∧ R i = nI a) {a c : Nat} (ha : a < 3) (hc : c < 64) (hD : ∀ r i, r < 3 → i < 64 → lj_L (D r) i = (lj_L (C r) i && !(decide (r = a) && decide (i = c)))) (n : Int32) : ∀ d i bd, lj_hr D R F S n d i bd = (lj_hr C R F S n d i bd && !lj_us R F S n (nI a) (nI c) d i) := by
  intro d
  induction d with
  | zero => intro i bd; simp [lj_hr, lj_us]
  | succ d ih =>
    intro i bd
    obtain ⟨b, hb, e⟩ := hR i
    have e1 : lj_q D R F S n i = (lj_q C R F S n i && !(decide (R i = nI a) && decide (nI (lj_c n (F i) (S i)) = nI c))) := by
      have h6 := lj_cl n (F i) (S i)
      unfold lj_q
      rw [e, nI_clamp (by omega), hD b _ hb h6]
      rw [decide_eq_decide.mpr (nI_eq (a := b) (b := a) (by omega) (by omega)), decide_eq_decide.mpr (nI_eq (a := lj_c n (F i) (S i)) (b := c) (by omega) (by omega))]
    rw [lj_hr, lj_hr, lj_us, e1, ih]
    cases lj_q C R F S n i <;> cases (decide (R i = nI a) && decide (nI (lj_c n (F i) (S i)) = nI c)) <;> simp
theorem lj_hre {C D : Nat → Int64} {R F S : Nat → Int32} (hR : ∀ i, ∃ a, a < 3 ∧ R i = nI a) (hD : ∀ r i, r < 3 → i < 64 → lj_L (D r) i = lj_L (C r) i) (n : Int32) : ∀ d i bd, lj_hr D R F S n d i bd = lj_hr C R F S n d i bd := by
  intro d
  induction d with
  | zero => intro i bd; rfl
  | succ d ih =>
    intro i bd
    obtain ⟨b, hb, e⟩ := hR i
    have e1 : lj_q D R F S n i = lj_q C R F S n i := by
      unfold lj_q
      rw [e, nI_clamp (by omega), hD b _ hb (lj_cl _ _ _)]
    rw [lj_hr, lj_hr, e1, ih]
theorem lj_loss {m : Nat} {C : Nat → Int64} {W R F S s : Nat → Int32} (hO : lj_OK m R F S) (hC : lj_CW C W) {a x y : Nat} (ha : a < 3) (hx : x < 8) (hy : y < 8) : ∃ r, (∀ post : Int32 → Prop, post r → wpX_loss post (nI m, C, R, F, S) (nI a) (nI x) (nI y)) ∧ (∀ post : Int32 → SY → Prop, (∀ W', lj_CW C W' → post r (nI m, W', R, F, S, s)) → wpY_loss post (nI m, W, R, F, S, s) (nI a) (nI x) (nI y)) := by
  have hc : 8 * x + y < 64 := by omega
  have hR := hO.2.1
  let f : Nat → Bool := fun n => lj_h C R F S m (nI n)
  let g : Nat → Bool := fun n => lj_us R F S (nI n) (nI a) (nI (8 * x + y)) m 0
  let D : Nat → Int64 := vp_updL C a (C a &&& (((1 : Int64) <<< ((nI (8 * x + y)).toInt64 &&& 63)) ^^^ (-1)))
  let V : Nat → Int32 := upd W (8 * a + x) (W (8 * a + x) &&& (((1 : Int32) <<< (nI y &&& 31)) ^^^ (-1)))
  have hD : ∀ r i, r < 3 → i < 64 → lj_L (D r) i = (lj_L (C r) i && !(decide (r = a) && decide (i = 8 * x + y))) := fun r i _ hi => lj_uLcl hc r hi
  have hf : ∀ n, lj_h D R F S m (nI n) = (f n && !g n) := fun n => lj_hrc hR ha hc hD (nI n) m 0 0
  have hs : lj_cn (fun n => f n && !g n) 4096 0 + lj_cn (fun n => f n && g n) 4096 0 = lj_cn f 4096 0 := lj_cnS 4096 0
  have HX : lj_HX f (nI m) C R F S := fun n post hn h => lj_XH hO hn h
  have HU : ∀ (n : Nat) (post : Int32 → Prop), n < 4096 → post (lj_b (g n)) → wpX_usesCell post (nI m, C, R, F, S) (nI n) (nI a) (nI (8 * x + y)) := fun n post _ h => ⟨m + 1, lj_xus hO.1 (nI n) _ _ post m 0 (by omega) h⟩
  refine ⟨nI (lj_cn (fun n => f n && g n) 4096 0), fun post h => ?_, fun post h => ?_⟩
  · unfold wpX_loss
    dsimp only
    refine lj_relX ha (br_f lj_10 (lj_thX hx (br_f lj_10 (lj_thX hy (br_f lj_10 ?_)))))
    unfold wpX_cell
    rw [lj_8]
    exact ⟨4097, lj_xls HX HU post 4096 0 0 rfl (by rw [Nat.zero_add]; exact h)⟩
  · unfold wpY_loss
    dsimp only
    refine lj_relY ha (br_f lj_10 (lj_thY hx (br_f lj_10 (lj_thY hy (br_f lj_10 (lj_yin ha hx hy ?_))))))
    rw [← hC a x y ha hx hy]
    have HY : lj_HY f (nI m) W R F S s := fun n post hn h => lj_YH hO hC h
    have HV : lj_HY (fun n => f n && !g n) (nI m) V R F S s := fun n post hn h => lj_YH (C := D) hO (lj_CWcl hC hx hy) (by rw [hf]; exact h)
    refine lj_sw (fun e => ?_) (fun e => ?_)
    · have e0 : lj_cn (fun n => f n && g n) 4096 0 = 0 := by
        have e1 : lj_cn (fun n => f n && !g n) 4096 0 = lj_cn f 4096 0 := by
          refine lj_cnC 4096 0 (fun n _ _ => ?_)
          show (f n && !g n) = f n
          rw [← hf n]
          refine lj_hre hR (fun r i hr hi => ?_) (nI n) m 0 0
          rw [hD r i hr hi]
          by_cases z : r = a ∧ i = 8 * x + y
          · rw [z.1, z.2, e]; rfl
          · have z' : (decide (r = a) && decide (i = 8 * x + y)) = false := by
              rw [Bool.and_eq_false_iff]
              by_cases z1 : r = a
              · exact Or.inr (decide_eq_false (fun z2 => z ⟨z1, z2⟩))
              · exact Or.inl (decide_eq_false z1)
            rw [z']; simp
        omega
      rw [e0] at h
      exact h W hC
    · refine lj_YC HY ?_
      refine lj_ypair0 ha hx hy ?_
      refine lj_YC HV ?_
      refine lj_ypair1 ha hx hy lj_10 ?_
      have e1 : nI (lj_cn f 4096 0) - nI (lj_cn (fun n => f n && !g n) 4096 0) = nI (lj_cn (fun n => f n && g n) 4096 0) := by
        rw [pk_sub (by omega)]
        exact congrArg nI (by omega)
      show post (nI (lj_cn f 4096 0) - nI (lj_cn (fun n => f n && !g n) 4096 0)) _
      rw [e1]
      refine h _ ?_
      intro r x' y' hr hx' hy'
      rw [← lj_CWor (C := D) (W := V) (lj_CWcl hC hx hy) (a := a) hx hy r x' y' hr hx' hy', lj_uLor hc r (by omega), hD r _ hr (by omega)]
      by_cases z : r = a ∧ 8 * x' + y' = 8 * x + y
      · rw [z.1, z.2, e]; simp
      · have z' : (decide (r = a) && decide (8 * x' + y' = 8 * x + y)) = false := by
          rw [Bool.and_eq_false_iff]
          by_cases z1 : r = a
          · exact Or.inr (decide_eq_false (fun z2 => z ⟨z1, z2⟩))
          · exact Or.inl (decide_eq_false z1)
        rw [z']; simp
end
section
-- one number of atoms, the same atoms; the same pairs, a long a relation here, an int a row there
def i_Rel (_ : Nat) (u : SX) (v : SY) : Prop := ∃ (m : Nat) (C : Nat → Int64) (W R F S s : Nat → Int32), u = (nI m, C, R, F, S) ∧ v = (nI m, W, R, F, S, s) ∧ lj_OK m R F S ∧ lj_CW C W
theorem i_up {k : Nat} {u : SX} {v : SY} (h : i_Rel k u v) : i_Rel (k + 5) u v := h
theorem i_vc0 : wpX_init (fun u => wpY_init (fun v => i_Rel 0 u v)) := by
  refine ⟨0, fun _ => 0, fun _ => 0, fun _ => 0, fun _ => 0, fun _ => 0, fun _ => 0, rfl, rfl, ⟨by omega, fun _ => ⟨0, by omega, rfl⟩, fun _ => ⟨0, by omega, rfl⟩, fun _ => ⟨0, by omega, rfl⟩⟩, ?_⟩
  intro r x y _ _ _
  rw [lj_L0, b_0]
theorem i_vc_pair {k : Nat} {u : SX} {v : SY} (I : i_Rel k u v) (hk : k + 5 ≤ 2560) (v1 : Int32) (v2 : Int32) (v3 : Int32) (v4 : Int32) : wpX_pair (fun r u' => wpY_pair (fun r' v' => r' = r ∧ i_Rel (k + 5) u' v') v v1 v2 v3 (lw_bz v4)) u v1 v2 v3 (lw_bz v4) := by
  obtain ⟨m, C, W, R, F, S, s, rfl, rfl, hO, hC⟩ := I
  have J : i_Rel (k + 5) (nI m, C, R, F, S) (nI m, W, R, F, S, s) := ⟨m, C, W, R, F, S, s, rfl, rfl, hO, hC⟩
  rcases lj_relO v1 with ⟨a, ha, rfl⟩ | h1
  · rcases lj_thO v2 with ⟨x, hx, rfl⟩ | h2
    · rcases lj_thO v3 with ⟨y, hy, rfl⟩ | h3
      · rcases lw_bz_01 v4 with e | e
        · rw [e]
          exact lj_xpair0 ha hx hy (lj_ypair0 ha hx hy ⟨rfl, m, _, _, R, F, S, s, rfl, rfl, hO, lj_CWcl hC hx hy⟩)
        · rw [e]
          exact lj_xpair1 ha hx hy lj_10 (lj_ypair1 ha hx hy lj_10 ⟨rfl, m, _, _, R, F, S, s, rfl, rfl, hO, lj_CWor hC hx hy⟩)
      · unfold wpX_pair wpY_pair
        dsimp only
        exact lj_relX ha (br_f lj_10 (lj_thX hx (br_f lj_10 (h3.1 _ (br_t rfl (lj_relY ha (br_f lj_10 (lj_thY hx (br_f lj_10 (h3.2 _ _ (br_t rfl ⟨rfl, J⟩)))))))))))
    · unfold wpX_pair wpY_pair
      dsimp only
      exact lj_relX ha (br_f lj_10 (h2.1 _ (br_t rfl (lj_relY ha (br_f lj_10 (h2.2 _ _ (br_t rfl ⟨rfl, J⟩)))))))
  · unfold wpX_pair wpY_pair
    dsimp only
    exact h1.1 _ (br_t rfl (h1.2 _ _ (br_t rfl ⟨rfl, J⟩)))
theorem i_vc_size {k : Nat} {u : SX} {v : SY} (I : i_Rel k u v) (hk : k + 5 ≤ 2560) (v1 : Int32) : wpX_size (fun r => wpY_size (fun r' => r' = r ∧ i_Rel (k + 5) u v) v v1) u v1 := by
  obtain ⟨m, C, W, R, F, S, s, rfl, rfl, hO, hC⟩ := I
  have J : i_Rel (k + 5) (nI m, C, R, F, S) (nI m, W, R, F, S, s) := ⟨m, C, W, R, F, S, s, rfl, rfl, hO, hC⟩
  rcases lj_relO v1 with ⟨a, ha, rfl⟩ | h1
  · unfold wpX_size
    dsimp only
    rw [nI_clamp (n := a) (by omega)]
    exact lj_relX ha (br_f lj_10 ⟨vp_in_nI ha (by omega), lj_XB ⟨65, lj_ysz ha hC _ 64 0 0 rfl ⟨by rw [Nat.zero_add], J⟩⟩⟩)
  · unfold wpX_size
    dsimp only
    refine h1.1 _ (br_t rfl ⟨1, br_f (by decide) (h1.2 _ _ (br_t rfl ?_))⟩)
    unfold wY_size_48
    exact h1.2 _ _ (br_t rfl ⟨rfl, J⟩)
theorem lj_okU {m : Nat} {R F S : Nat → Int32} (hO : lj_OK m R F S) (hm : m < 5) {a b c : Nat} (ha : a < 3) (hb : b < 4) (hc : c < 4) : lj_OK (m + 1) (upd R m (nI a)) (upd F m (nI b)) (upd S m (nI c)) := by
  obtain ⟨h0, h1, h2, h3⟩ := hO
  refine ⟨by omega, fun i => ?_, fun i => ?_, fun i => ?_⟩
  · by_cases e : i = m
    · subst e; rw [pk_us]; exact ⟨a, ha, rfl⟩
    · rw [pk_un e]; exact h1 i
  · by_cases e : i = m
    · subst e; rw [pk_us]; exact ⟨b, hb, rfl⟩
    · rw [pk_un e]; exact h2 i
  · by_cases e : i = m
    · subst e; rw [pk_us]; exact ⟨c, hc, rfl⟩
    · rw [pk_un e]; exact h3 i
theorem i_vc_atom {k : Nat} {u : SX} {v : SY} (I : i_Rel k u v) (hk : k + 5 ≤ 2560) (v1 : Int32) (v2 : Int32) (v3 : Int32) : wpX_atom (fun r u' => wpY_atom (fun r' v' => r' = r ∧ i_Rel (k + 5) u' v') v v1 v2 v3) u v1 v2 v3 := by
  obtain ⟨m, C, W, R, F, S, s, rfl, rfl, hO, hC⟩ := I
  have J : i_Rel (k + 5) (nI m, C, R, F, S) (nI m, W, R, F, S, s) := ⟨m, C, W, R, F, S, s, rfl, rfl, hO, hC⟩
  have hm : m ≤ 5 := hO.1
  unfold wpX_atom wpY_atom
  dsimp only
  rw [nI_clamp (n := m) (by omega)]
  rcases lj_relO v1 with ⟨a, ha, rfl⟩ | h1
  · refine lj_relX ha (br_f lj_10 ?_)
    rcases lj_vaO v2 with ⟨b, hb, rfl⟩ | h2
    · refine lj_vaX hb (br_f lj_10 ?_)
      rcases lj_vaO v3 with ⟨c, hc, rfl⟩ | h3
      · refine lj_vaX hc (br_f lj_10 ?_)
        rcases Nat.lt_or_ge m 5 with h5 | h5
        · have i5 : vp_in (nI m) 5 := vp_in_nI h5 (by omega)
          have l5 : nI m < 5 := by rw [← lj_k5]; exact nI_lt h5 (by omega)
          refine br_t l5 ⟨i5, nm_e ⟨i5, nm_e ⟨i5, nm_e (nm_r (nI_1 m) ?_)⟩⟩⟩
          refine lj_relY ha (br_f lj_10 (lj_vaY hb (br_f lj_10 (lj_vaY hc (br_f lj_10 (br_t l5 ⟨i5, nm_e ⟨i5, nm_e ⟨i5, nm_e (nm_r (nI_1 m) ?_)⟩⟩⟩))))))
          exact ⟨rfl, m + 1, C, W, _, _, _, s, rfl, rfl, lj_okU hO h5 ha hb hc, hC⟩
        · have l5 : ¬ nI m < 5 := by rw [← lj_k5]; exact nI_nlt h5 (by omega)
          exact br_f l5 (lj_relY ha (br_f lj_10 (lj_vaY hb (br_f lj_10 (lj_vaY hc (br_f lj_10 (br_f l5 ⟨rfl, J⟩)))))))
      · exact h3.1 _ (br_t rfl (lj_relY ha (br_f lj_10 (lj_vaY hb (br_f lj_10 (h3.2 _ _ (br_t rfl ⟨rfl, J⟩)))))))
    · exact h2.1 _ (br_t rfl (lj_relY ha (br_f lj_10 (h2.2 _ _ (br_t rfl ⟨rfl, J⟩)))))
  · exact h1.1 _ (br_t rfl (h1.2 _ _ (br_t rfl ⟨rfl, J⟩)))
theorem i_vc_drop {k : Nat} {u : SX} {v : SY} (I : i_Rel k u v) (hk : k + 5 ≤ 2560) : wpX_drop (fun r u' => wpY_drop (fun r' v' => r' = r ∧ i_Rel (k + 5) u' v') v) u := by
  obtain ⟨m, C, W, R, F, S, s, rfl, rfl, hO, hC⟩ := I
  have J : i_Rel (k + 5) (nI m, C, R, F, S) (nI m, W, R, F, S, s) := ⟨m, C, W, R, F, S, s, rfl, rfl, hO, hC⟩
  cases m with
  | zero => exact br_t rfl (br_t rfl ⟨rfl, J⟩)
  | succ m =>
    have h5 : m + 1 ≤ 5 := hO.1
    have h0 : ¬ nI (m + 1) = 0 := nI_ne0 (by omega) (by omega)
    exact br_f h0 (nm_r (nI_pred m) (br_f h0 (nm_r (nI_pred m) ⟨rfl, m, C, W, R, F, S, s, rfl, rfl, ⟨by omega, hO.2⟩, hC⟩)))
theorem i_vc_count {k : Nat} {u : SX} {v : SY} (I : i_Rel k u v) (hk : k + 5 ≤ 2560) : wpX_count (fun r => wpY_count (fun r' => r' = r ∧ i_Rel (k + 5) u v) v) u := by
  obtain ⟨m, C, W, R, F, S, s, rfl, rfl, hO, hC⟩ := I
  have J : i_Rel (k + 5) (nI m, C, R, F, S) (nI m, W, R, F, S, s) := ⟨m, C, W, R, F, S, s, rfl, rfl, hO, hC⟩
  have HX : lj_HX (fun n => lj_h C R F S m (nI n)) (nI m) C R F S := fun n post hn h => lj_XH hO hn h
  have HY : lj_HY (fun n => lj_h C R F S m (nI n)) (nI m) W R F S s := fun n post hn h => lj_YH hO hC h
  exact lj_XC HX (lj_YC HY ⟨rfl, J⟩)
theorem i_vc_answer {k : Nat} {u : SX} {v : SY} (I : i_Rel k u v) (hk : k + 5 ≤ 2560) (v1 : Int32) : wpX_answer (fun r => wpY_answer (fun r' => r' = r ∧ i_Rel (k + 5) u v) v v1) u v1 := by
  obtain ⟨m, C, W, R, F, S, s, rfl, rfl, hO, hC⟩ := I
  have J : i_Rel (k + 5) (nI m, C, R, F, S) (nI m, W, R, F, S, s) := ⟨m, C, W, R, F, S, s, rfl, rfl, hO, hC⟩
  have HX : lj_HX (fun n => lj_h C R F S m (nI n)) (nI m) C R F S := fun n post hn h => lj_XH hO hn h
  have HY : lj_HY (fun n => lj_h C R F S m (nI n)) (nI m) W R F S s := fun n post hn h => lj_YH hO hC h
  exact ⟨4097, lj_xan HX v1 _ 4096 0 0 rfl ⟨4097, lj_yan HY v1 _ 4096 0 0 rfl ⟨rfl, J⟩⟩⟩
theorem i_vc_seek {k : Nat} {u : SX} {v : SY} (I : i_Rel k u v) (hk : k + 5 ≤ 2560) (v1 : Int32) : wpX_seek (fun r => wpY_seek (fun r' => r' = r ∧ i_Rel (k + 5) u v) v v1) u v1 := by
  obtain ⟨m, C, W, R, F, S, s, rfl, rfl, hO, hC⟩ := I
  have J : i_Rel (k + 5) (nI m, C, R, F, S) (nI m, W, R, F, S, s) := ⟨m, C, W, R, F, S, s, rfl, rfl, hO, hC⟩
  have HX : lj_HX (fun n => lj_h C R F S m (nI n)) (nI m) C R F S := fun n post hn h => lj_XH hO hn h
  have HY : lj_HY (fun n => lj_h C R F S m (nI n)) (nI m) W R F S s := fun n post hn h => lj_YH hO hC h
  obtain ⟨r, hx, hy⟩ := lj_seek HX HY v1
  exact hx _ (hy _ ⟨rfl, J⟩)
theorem i_vc_values {k : Nat} {u : SX} {v : SY} (I : i_Rel k u v) (hk : k + 5 ≤ 2560) (v1 : Int32) : wpX_values (fun r => wpY_values (fun r' => r' = r ∧ i_Rel (k + 5) u v) v v1) u v1 := by
  obtain ⟨m, C, W, R, F, S, s, rfl, rfl, hO, hC⟩ := I
  have J : i_Rel (k + 5) (nI m, C, R, F, S) (nI m, W, R, F, S, s) := ⟨m, C, W, R, F, S, s, rfl, rfl, hO, hC⟩
  have HX : lj_HX (fun n => lj_h C R F S m (nI n)) (nI m) C R F S := fun n post hn h => lj_XH hO hn h
  have HY : lj_HY (fun n => lj_h C R F S m (nI n)) (nI m) W R F S s := fun n post hn h => lj_YH hO hC h
  unfold wpX_values
  dsimp only
  rcases lj_vaO v1 with ⟨a, ha, rfl⟩ | h1
  · exact lj_vaX ha (br_f lj_10 ⟨4097, lj_xva HX (nI a) _ 4096 0 0 rfl ⟨4097, lj_yva HY ha _ 4096 0 0 rfl ⟨rfl, J⟩⟩⟩)
  · exact h1.1 _ (br_t rfl ⟨1, br_f (by decide) (h1.2 _ _ (br_t rfl ⟨rfl, J⟩))⟩)
theorem i_vc_countWith {k : Nat} {u : SX} {v : SY} (I : i_Rel k u v) (hk : k + 5 ≤ 2560) (v1 : Int32) (v2 : Int32) : wpX_countWith (fun r => wpY_countWith (fun r' => r' = r ∧ i_Rel (k + 5) u v) v v1 v2) u v1 v2 := by
  obtain ⟨m, C, W, R, F, S, s, rfl, rfl, hO, hC⟩ := I
  have J : i_Rel (k + 5) (nI m, C, R, F, S) (nI m, W, R, F, S, s) := ⟨m, C, W, R, F, S, s, rfl, rfl, hO, hC⟩
  have HX : lj_HX (fun n => lj_h C R F S m (nI n)) (nI m) C R F S := fun n post hn h => lj_XH hO hn h
  have HY : lj_HY (fun n => lj_h C R F S m (nI n)) (nI m) W R F S s := fun n post hn h => lj_YH hO hC h
  unfold wpX_countWith
  dsimp only
  rcases lj_vaO v1 with ⟨a, ha, rfl⟩ | h1
  · exact lj_vaX ha (br_f lj_10 ⟨4097, lj_xcw HX (nI a) v2 _ 4096 0 0 rfl ⟨4097, lj_ycw HY ha v2 _ 4096 0 0 rfl ⟨rfl, J⟩⟩⟩)
  · exact h1.1 _ (br_t rfl ⟨1, br_f (by decide) (h1.2 _ _ (br_t rfl ⟨rfl, J⟩))⟩)
theorem i_vc_holds {k : Nat} {u : SX} {v : SY} (I : i_Rel k u v) (hk : k + 5 ≤ 2560) (v1 : Int32) : wpX_holds (fun r => wpY_holds (fun r' => r' = r ∧ i_Rel (k + 5) u v) v v1) u v1 := by
  obtain ⟨m, C, W, R, F, S, s, rfl, rfl, hO, hC⟩ := I
  have J : i_Rel (k + 5) (nI m, C, R, F, S) (nI m, W, R, F, S, s) := ⟨m, C, W, R, F, S, s, rfl, rfl, hO, hC⟩
  rcases pk_ix v1 (n := 4096) (by omega) with h | h | ⟨n, hn, rfl⟩
  · exact br_t h (br_t h ⟨rfl, J⟩)
  · have hh := lj_in0 (K := 4096) lj_k4096 rfl (by omega) (by omega) h
    exact br_f hh.1 (br_f (Int32.not_lt.mpr hh.2.1) (br_f hh.1 (br_t hh.2.1 ⟨rfl, J⟩)))
  · refine lj_XH hO hn ?_
    refine br_f (nI_pos (by omega)) (br_f (lj_nge lj_k4096 hn (by omega)) (lj_YH hO hC ?_))
    cases lj_h C R F S m (nI n) with
    | false => exact br_t rfl ⟨rfl, J⟩
    | true => exact br_f lj_10 ⟨rfl, J⟩
theorem i_vc_pairs {k : Nat} {u : SX} {v : SY} (I : i_Rel k u v) (hk : k + 5 ≤ 2560) (v1 : Int32) (v2 : Int32) : wpX_pairs (fun r => wpY_pairs (fun r' v' => r' = r ∧ i_Rel (k + 5) u v') v v1 v2) u v1 v2 := by
  obtain ⟨m, C, W, R, F, S, s, rfl, rfl, hO, hC⟩ := I
  have HX : lj_HX (fun n => lj_h C R F S m (nI n)) (nI m) C R F S := fun n post hn h => lj_XH hO hn h
  have HY : ∀ s, lj_HY (fun n => lj_h C R F S m (nI n)) (nI m) W R F S s := fun s n post hn h => lj_YH hO hC h
  obtain ⟨r, hx, hy⟩ := lj_pairs (s := s) HX HY v1 v2
  exact hx _ (hy _ (fun q => ⟨rfl, m, C, W, R, F, S, q, rfl, rfl, hO, hC⟩))
theorem i_vc_loss {k : Nat} {u : SX} {v : SY} (I : i_Rel k u v) (hk : k + 5 ≤ 2560) (v1 : Int32) (v2 : Int32) (v3 : Int32) : wpX_loss (fun r => wpY_loss (fun r' v' => r' = r ∧ i_Rel (k + 5) u v') v v1 v2 v3) u v1 v2 v3 := by
  obtain ⟨m, C, W, R, F, S, s, rfl, rfl, hO, hC⟩ := I
  have J : i_Rel (k + 5) (nI m, C, R, F, S) (nI m, W, R, F, S, s) := ⟨m, C, W, R, F, S, s, rfl, rfl, hO, hC⟩
  rcases lj_relO v1 with ⟨a, ha, rfl⟩ | h1
  · rcases lj_thO v2 with ⟨x, hx, rfl⟩ | h2
    · rcases lj_thO v3 with ⟨y, hy, rfl⟩ | h3
      · obtain ⟨r, hX, hY⟩ := lj_loss (s := s) hO hC ha hx hy
        exact hX _ (hY _ (fun W' hW => ⟨rfl, m, C, W', R, F, S, s, rfl, rfl, hO, hW⟩))
      · unfold wpX_loss wpY_loss
        dsimp only
        exact lj_relX ha (br_f lj_10 (lj_thX hx (br_f lj_10 (h3.1 _ (br_t rfl (lj_relY ha (br_f lj_10 (lj_thY hx (br_f lj_10 (h3.2 _ _ (br_t rfl ⟨rfl, J⟩)))))))))))
    · unfold wpX_loss wpY_loss
      dsimp only
      exact lj_relX ha (br_f lj_10 (h2.1 _ (br_t rfl (lj_relY ha (br_f lj_10 (h2.2 _ _ (br_t rfl ⟨rfl, J⟩)))))))
  · unfold wpX_loss wpY_loss
    dsimp only
    exact h1.1 _ (br_t rfl (h1.2 _ _ (br_t rfl ⟨rfl, J⟩)))
theorem i_vc_partners {k : Nat} {u : SX} {v : SY} (I : i_Rel k u v) (hk : k + 5 ≤ 2560) (v1 : Int32) (v2 : Int32) (v3 : Int32) : wpX_partners (fun r => wpY_partners (fun r' => r' = r ∧ i_Rel (k + 5) u v) v v1 v2 v3) u v1 v2 v3 := by
  obtain ⟨m, C, W, R, F, S, s, rfl, rfl, hO, hC⟩ := I
  have J : i_Rel (k + 5) (nI m, C, R, F, S) (nI m, W, R, F, S, s) := ⟨m, C, W, R, F, S, s, rfl, rfl, hO, hC⟩
  unfold wpX_partners
  dsimp only
  rcases lj_relO v1 with ⟨a, ha, rfl⟩ | h1
  · refine lj_relX ha (br_f lj_10 ?_)
    rcases lj_thO v2 with ⟨x, hx, rfl⟩ | h2
    · refine lj_thX hx (br_f lj_10 ?_)
      rcases pk_ix v3 (n := 2) (by omega) with h | h | ⟨w, hw, rfl⟩
      · refine br_t h ⟨9, lj_ypaO ha hx (fun z => ?_) (fun z => ?_) _ ⟨rfl, J⟩ 8 0 rfl⟩
        · subst z; exact absurd h (by decide)
        · subst z; exact absurd h (by decide)
      · have hh := lj_in0 (K := 2) lj_k2 rfl (by omega) (by omega) h
        refine br_f hh.1 (br_f (Int32.not_le.mpr hh.2.2) ⟨9, lj_ypaO ha hx (fun z => ?_) (fun z => ?_) _ ⟨rfl, J⟩ 8 0 rfl⟩)
        · subst z; exact absurd h (by decide)
        · subst z; exact absurd h (by decide)
      · have hw' : w = 0 ∨ w = 1 := by omega
        rcases hw' with rfl | rfl
        · exact br_f (by decide) (br_t (by decide) ⟨9, lj_xpa0 ha hx _ 8 0 0 rfl ⟨9, lj_ypa0 ha hx hC _ 8 0 0 rfl ⟨rfl, J⟩⟩⟩)
        · exact br_f (by decide) (br_t (by decide) ⟨9, lj_xpa1 ha hx _ 8 0 0 rfl ⟨9, lj_ypa1 ha hx hC _ 8 0 0 rfl ⟨rfl, J⟩⟩⟩)
    · exact h2.1 _ (br_t rfl ⟨1, br_f (by decide) (lj_relY ha (br_f lj_10 (h2.2 _ _ (br_t rfl ⟨rfl, J⟩))))⟩)
  · exact h1.1 _ (br_t rfl ⟨1, br_f (by decide) (h1.2 _ _ (br_t rfl ⟨rfl, J⟩))⟩)
end
