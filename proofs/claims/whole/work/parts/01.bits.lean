-- rows pasted from kit/rows (PURE-ROWS, BITS)
theorem pk_us {f : Nat → Int32} {k : Nat} {x : Int32} : upd f k x k = x := if_pos rfl
theorem pk_un {f : Nat → Int32} {k j : Nat} {x : Int32} (h : j ≠ k) : upd f k x j = f j := if_neg h
theorem pk_uLs {f : Nat → Int64} {k : Nat} {x : Int64} : vp_updL f k x k = x := if_pos rfl
theorem pk_uLn {f : Nat → Int64} {k j : Nat} {x : Int64} (h : j ≠ k) : vp_updL f k x j = f j := if_neg h
theorem pk_sub {a b : Nat} (h : b ≤ a) : nI a - nI b = nI (a - b) := by
  obtain ⟨c, rfl⟩ : ∃ c, a = c + b := ⟨a - b, by omega⟩
  rw [← nI_add, Int32.add_sub_cancel, Nat.add_sub_cancel]
theorem pk_mul (a b : Nat) : nI a * nI b = nI (a * b) := (Int32.ofNat_mul a b).symm
theorem pk_div {a d : Nat} (ha : a < 2 ^ 31) (h0 : 0 < d) (hd : d < 2 ^ 31) : nI a / nI d = nI (a / d) := by
  apply Int32.toInt_inj.mp
  rw [lg_idiv_nonneg (by rw [nI_toInt ha]; omega) (by rw [nI_toInt hd]; omega), nI_toInt ha, nI_toInt hd, nI_toInt (Nat.lt_of_le_of_lt (Nat.div_le_self a d) ha)]
  first | rfl | exact (Int.natCast_ediv _ _).symm
theorem pk_rem {a d : Nat} (ha : a < 2 ^ 31) (h0 : 0 < d) (hd : d < 2 ^ 31) : nI a - nI a / nI d * nI d = nI (a % d) := by
  rw [pk_div ha h0 hd, pk_mul, pk_sub (Nat.div_mul_le_self a d)]
  exact congrArg nI (by have := Nat.div_add_mod' a d; omega)
theorem pk_ix (x : Int32) {n : Nat} (hn : n < 2 ^ 31) : x < 0 ∨ nI n ≤ x ∨ ∃ j : Nat, j < n ∧ x = nI j := by
  by_cases h : x < 0
  · exact Or.inl h
  · obtain ⟨j, hj, rfl⟩ := nI_of h
    by_cases h2 : j < n
    · exact Or.inr (Or.inr ⟨j, h2, rfl⟩)
    · exact Or.inr (Or.inl (nI_le (by omega) hj))
theorem pk_and (x : Int32) {m : Int32} (k : Nat) (hm : m.toBitVec.toNat = 2 ^ k - 1) : x &&& m = nI (x.toBitVec.toNat % 2 ^ k) := by
  apply Int32.toBitVec_inj.mp
  apply BitVec.eq_of_toNat_eq
  rw [Int32.toBitVec_and, BitVec.toNat_and, hm, Nat.and_two_pow_sub_one_eq_mod]
  show _ = (BitVec.ofNat 32 _).toNat
  rw [BitVec.toNat_ofNat]
  exact (Nat.mod_eq_of_lt (Nat.lt_of_le_of_lt (Nat.mod_le _ _) x.toBitVec.isLt)).symm
theorem pk_andE (x : Int32) {m : Int32} (k : Nat) (hm : m.toBitVec.toNat = 2 ^ k - 1) : ∃ j : Nat, j < 2 ^ k ∧ x &&& m = nI j := ⟨_, Nat.mod_lt _ (Nat.two_pow_pos k), pk_and x k hm⟩
def bt (x : Int32) (i : Nat) : Bool := x.toBitVec.getLsbD i
theorem b_ext {x y : Int32} (h : ∀ i, i < 32 → bt x i = bt y i) : x = y := Int32.toBitVec_inj.mp (BitVec.eq_of_getLsbD_eq (fun i hi => h i hi))
theorem b_or (x y : Int32) (i : Nat) : bt (x ||| y) i = (bt x i || bt y i) := by unfold bt; rw [Int32.toBitVec_or, BitVec.getLsbD_or]
theorem b_and (x y : Int32) (i : Nat) : bt (x &&& y) i = (bt x i && bt y i) := by unfold bt; rw [Int32.toBitVec_and, BitVec.getLsbD_and]
theorem b_xor (x y : Int32) (i : Nat) : bt (x ^^^ y) i = (bt x i ^^ bt y i) := by unfold bt; rw [Int32.toBitVec_xor, BitVec.getLsbD_xor]
theorem b_big {x : Int32} {i : Nat} (h : 32 ≤ i) : bt x i = false := BitVec.getLsbD_of_ge _ _ h
theorem b_m1 : ∀ i, i < 32 → bt (-1) i = true := by decide +kernel
theorem b_0 (i : Nat) : bt 0 i = false := BitVec.getLsbD_zero
theorem s_l : ∀ n, n < 32 → ((nI n &&& 31).toBitVec.smod 32).toNat = n := by decide +kernel
theorem b_shl (n : Nat) (hn : n < 32) (x : Int32) {i : Nat} (hi : i < 32) : bt (x <<< (nI n &&& 31)) i = (decide (n ≤ i) && bt x (i - n)) := by
  unfold bt
  rw [Int32.toBitVec_shiftLeft]
  show (x.toBitVec <<< ((nI n &&& 31).toBitVec.smod 32).toNat).getLsbD i = _
  rw [s_l n hn, BitVec.getLsbD_shiftLeft]
  rcases Nat.lt_or_ge i n with h | h
  · simp [h, Nat.not_le.mpr h]
  · simp [hi, h, Nat.not_lt.mpr h]
theorem b_sshr (n : Nat) (hn : n < 32) (x : Int32) {i : Nat} (hi : i < 32) : bt (x >>> (nI n &&& 31)) i = if n + i < 32 then bt x (n + i) else bt x 31 := by
  unfold bt
  rw [Int32.toBitVec_shiftRight]
  show (x.toBitVec.sshiftRight ((nI n &&& 31).toBitVec.smod 32).toNat).getLsbD i = _
  rw [s_l n hn, BitVec.getLsbD_sshiftRight, BitVec.msb_eq_getLsbD_last]
  simp [hi]
theorem ts_nf {x : Bool} (h : ¬ x = false) : x = true := by cases x <;> first | rfl | exact absurd rfl h
theorem ts_nt {x : Bool} (h : ¬ x = true) : x = false := by cases x <;> first | rfl | exact absurd rfl h
theorem ts_bit {w : Int64} {s : UInt64} {j : Nat} (hj : j < 64) (hs : s.toNat = j) : ((w.toUInt64 >>> s).toInt64 &&& 1) = 0 ↔ w.toBitVec.getLsbD j = false := by
  have e : (w.toUInt64 >>> s).toInt64.toBitVec = w.toBitVec >>> j := by
    apply BitVec.eq_of_toNat_eq
    show (w.toUInt64 >>> s).toNat = _
    rw [UInt64.toNat_shiftRight, hs, Nat.mod_eq_of_lt hj, BitVec.toNat_ushiftRight]
    rfl
  rw [← Int64.toBitVec_inj, Int64.toBitVec_and, e]
  show w.toBitVec >>> j &&& 1#64 = 0#64 ↔ _
  constructor
  · intro h
    have t := congrArg (fun x => x.getLsbD 0) h
    simpa using t
  · intro h
    apply BitVec.eq_of_getLsbD_eq
    intro i hi
    cases i with
    | zero => simp [h]
    | succ i => simp
theorem wb_tb (n : Nat) : (lN n).toBitVec = BitVec.ofNat 64 n := rfl
theorem wb_inj {a b : Int64} (h : a.toBitVec = b.toBitVec) : a = b := Int64.toBitVec_inj.mp h
theorem wb_c : ∀ k, k < 64 → ((nI k).toInt64 &&& 63) = lN k := by decide +kernel
theorem wb_cu : ∀ k, k < 64 → ((nI k).toInt64.toUInt64 &&& Int64.toUInt64 63) = UInt64.ofNat k := by decide +kernel
theorem wb_sm : ∀ k, k < 64 → (BitVec.ofNat 64 k).smod 64 = BitVec.ofNat 64 k := by decide +kernel
theorem u_tn {n : Nat} (h : n < 2 ^ 64) : (UInt64.ofNat n).toNat = n := Nat.mod_eq_of_lt h
-- rows of this claim
def lj_b (b : Bool) : Int32 := cond b 1 0
def lj_L (c : Int64) (j : Nat) : Bool := c.toBitVec.getLsbD j
theorem lj_sw {b : Bool} {A B : Prop} (h0 : b = false → A) (h1 : b = true → B) : (lj_b b = 0 → A) ∧ (¬ lj_b b = 0 → B) := by
  cases b with
  | false => exact br_t rfl (h0 rfl)
  | true => exact br_f (by decide) (h1 rfl)
theorem lj_k2 : nI 2 = 2 := by decide +kernel
theorem lj_k3 : nI 3 = 3 := by decide +kernel
theorem lj_k4 : nI 4 = 4 := by decide +kernel
theorem lj_k5 : nI 5 = 5 := by decide +kernel
theorem lj_k7 : nI 7 = 7 := by decide +kernel
theorem lj_k8 : nI 8 = 8 := by decide +kernel
theorem lj_k64 : nI 64 = 64 := by decide +kernel
theorem lj_k4096 : nI 4096 = 4096 := by decide +kernel
theorem lj_ge {K : Nat} {k : Int32} (e : nI K = k) {i : Nat} (h : K ≤ i) (hi : i < 2 ^ 31) : k ≤ nI i := e ▸ nI_le h hi
theorem lj_nge {K : Nat} {k : Int32} (e : nI K = k) {i : Nat} (h : i < K) (hK : K < 2 ^ 31) : ¬ k ≤ nI i := e ▸ nI_ge h hK
theorem lj_8 (a b : Nat) : (8 : Int32) * nI a + nI b = nI (8 * a + b) := by
  rw [← lj_k8, pk_mul, nI_add]
theorem lj_hb {c : Int64} {j : Nat} (hj : j < 64) {post : Int32 → Prop} (h : post (lj_b (lj_L c j))) : wpX_hasBit post c (nI j) := by
  have e := ts_bit (w := c) (s := (nI j).toInt64.toUInt64 &&& Int64.toUInt64 63) hj (by rw [wb_cu j hj]; exact u_tn (by omega))
  unfold wpX_hasBit
  cases hb : lj_L c j with
  | false => rw [hb] at h; exact br_t (e.mpr hb) h
  | true => rw [hb] at h; exact br_f (fun z => by have t := e.mp z; unfold lj_L at hb; rw [hb] at t; cases t) h
theorem lj_b1 : ∀ i, i < 32 → bt 1 i = decide (i = 0) := by decide +kernel
theorem lj_one (x : Int32) {j : Nat} (hj : j < 32) : ((x >>> (nI j &&& 31)) &&& 1) = 1 ↔ bt x j = true := by
  constructor
  · intro h
    have t := congrArg (fun z => bt z 0) h
    have t : bt ((x >>> (nI j &&& 31)) &&& 1) 0 = bt 1 0 := t
    rw [b_and, b_sshr j hj x (by omega), if_pos (by omega), lj_b1 0 (by omega)] at t
    simpa using t
  · intro h
    apply b_ext
    intro i hi
    rw [b_and, lj_b1 i hi]
    by_cases z : i = 0
    · subst z; rw [b_sshr j hj x hi, if_pos (by omega)]; simp [h]
    · simp [z]
theorem lj_yin {f : Int32} {W R F S s : Nat → Int32} {a b c : Nat} (ha : a < 3) (hb : b < 8) (hc : c < 8) {post : Int32 → Prop} (h : post (lj_b (bt (W (8 * a + b)) c))) : wpY_in post (f, W, R, F, S, s) (nI a) (nI b) (nI c) := by
  unfold wpY_in
  dsimp only
  rw [lj_8, nI_clamp (by omega)]
  refine ⟨vp_in_nI (by omega) (by omega), ?_⟩
  have e := lj_one (W (8 * a + b)) (j := c) (by omega)
  cases hb : bt (W (8 * a + b)) c with
  | false => rw [hb] at h; exact br_f (fun z => by rw [e.mp z] at hb; cases hb) h
  | true => rw [hb] at h; exact br_t (e.mpr hb) h
-- a long's bit, set and cleared
theorem lj_sh : ∀ j, j < 64 → ((1 : Int64) <<< ((nI j).toInt64 &&& 63)).toBitVec = BitVec.twoPow 64 j := by decide +kernel
theorem lj_Lor (c : Int64) {j : Nat} (hj : j < 64) {i : Nat} (hi : i < 64) : lj_L (c ||| ((1 : Int64) <<< ((nI j).toInt64 &&& 63))) i = (lj_L c i || decide (i = j)) := by
  unfold lj_L
  rw [Int64.toBitVec_or, lj_sh j hj, BitVec.getLsbD_or, BitVec.getLsbD_twoPow]
  by_cases e : i = j
  · subst e; simp [hi]
  · have e' : ¬ j = i := fun z => e z.symm
    simp [e, e']
theorem lj_Lcl (c : Int64) {j : Nat} (hj : j < 64) {i : Nat} (hi : i < 64) : lj_L (c &&& (((1 : Int64) <<< ((nI j).toInt64 &&& 63)) ^^^ (-1))) i = (lj_L c i && !decide (i = j)) := by
  have ha : (-1 : Int64).toBitVec = BitVec.allOnes 64 := by decide
  unfold lj_L
  rw [Int64.toBitVec_and, Int64.toBitVec_xor, lj_sh j hj, ha, BitVec.getLsbD_and, BitVec.getLsbD_xor, BitVec.getLsbD_twoPow, BitVec.getLsbD_allOnes]
  by_cases e : i = j
  · subst e; simp [hi]
  · have e' : ¬ j = i := fun z => e z.symm
    simp [e, e', hi]
theorem lj_L0 (i : Nat) : lj_L 0 i = false := BitVec.getLsbD_zero
-- an int's bit, set and cleared
theorem lj_bor (x : Int32) {j : Nat} (hj : j < 32) {i : Nat} (hi : i < 32) : bt (x ||| ((1 : Int32) <<< (nI j &&& 31))) i = (bt x i || decide (i = j)) := by
  rw [b_or, b_shl j hj 1 hi]
  by_cases e : i = j
  · subst e; rw [Nat.sub_self, lj_b1 0 (by omega)]; simp
  · rcases Nat.lt_or_ge i j with z | z
    · simp [e, Nat.not_le.mpr z]
    · rw [lj_b1 (i - j) (by omega), decide_eq_false (p := i - j = 0) (by omega)]; simp [e]
theorem lj_bcl (x : Int32) {j : Nat} (hj : j < 32) {i : Nat} (hi : i < 32) : bt (x &&& (((1 : Int32) <<< (nI j &&& 31)) ^^^ (-1))) i = (bt x i && !decide (i = j)) := by
  rw [b_and, b_xor, b_shl j hj 1 hi, b_m1 i hi]
  by_cases e : i = j
  · subst e; rw [Nat.sub_self, lj_b1 0 (by omega)]; simp
  · rcases Nat.lt_or_ge i j with z | z
    · simp [e, Nat.not_le.mpr z]
    · rw [lj_b1 (i - j) (by omega), decide_eq_false (p := i - j = 0) (by omega)]; simp [e]
theorem lj_wide (x : Int32) {j : Nat} (hj : j < 32) : lj_L x.toInt64 j = bt x j := by
  unfold lj_L bt
  rw [Int32.toBitVec_toInt64, BitVec.getLsbD_signExtend]
  simp [hj]; omega
