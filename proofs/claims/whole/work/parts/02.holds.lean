-- the digit of a variable, a cell
def lj_t (n v : Int32) : Int32 := (n >>> ((9 - (3 * v)) &&& 31)) &&& 7
def lj_n (n v : Int32) : Nat := (n >>> ((9 - (3 * v)) &&& 31)).toBitVec.toNat % 8
theorem lj_te (n v : Int32) : lj_t n v = nI (lj_n n v) := pk_and _ 3 (by decide)
theorem lj_tl (n v : Int32) : lj_n n v < 8 := Nat.mod_lt _ (by decide)
theorem lj_93 (v : Int32) : (3 : Int32) * (3 - v) = 9 - (3 * v) := by grind
theorem lj_tx {post : Int32 → Prop} {n v : Int32} (h : post (lj_t n v)) : wpX_thingOf post n v := by
  unfold wpX_thingOf
  rw [lj_93]
  exact h
theorem lj_ty {post : Int32 → Prop} {f : Int32} {W R F S s : Nat → Int32} {n v : Int32} (h : post (lj_t n v)) : wpY_of post (f, W, R, F, S, s) n v := h
def lj_c (n v w : Int32) : Nat := 8 * lj_n n v + lj_n n w
theorem lj_cl (n v w : Int32) : lj_c n v w < 64 := by
  have h1 := lj_tl n v
  have h2 := lj_tl n w
  unfold lj_c
  omega
theorem lj_cx {post : Int32 → Prop} {n v w : Int32} (h : post (nI (lj_c n v w))) : wpX_cellOf post n v w := by
  unfold wpX_cellOf
  refine lj_tx (lj_tx ?_)
  show post ((8 * lj_t n v) + lj_t n w)
  rw [lj_te n v, lj_te n w, lj_8]
  exact h
-- the pure picture: the rest of the variables, the atoms from i on
def lj_oz (n bd : Int32) : Nat → Nat → Bool
  | 0, _ => true
  | d + 1, v => (bt bd v || decide (lj_t n (nI v) = 0)) && lj_oz n bd d (v + 1)
def lj_q (C : Nat → Int64) (R F S : Nat → Int32) (n : Int32) (i : Nat) : Bool := lj_L (C (R i).toNatClampNeg) (lj_c n (F i) (S i))
def lj_nb (F S : Nat → Int32) (bd : Int32) (i : Nat) : Int32 := bd ||| (((1 : Int32) <<< ((F i) &&& 31)) ||| ((1 : Int32) <<< ((S i) &&& 31)))
def lj_hr (C : Nat → Int64) (R F S : Nat → Int32) (n : Int32) : Nat → Nat → Int32 → Bool
  | 0, _, bd => lj_oz n bd 4 0
  | d + 1, i, bd => lj_q C R F S n i && lj_hr C R F S n d (i + 1) (lj_nb F S bd i)
def lj_h (C : Nat → Int64) (R F S : Nat → Int32) (m : Nat) (n : Int32) : Bool := lj_hr C R F S n m 0 0
def lj_OK (m : Nat) (R F S : Nat → Int32) : Prop := m ≤ 5 ∧ (∀ i, ∃ a, a < 3 ∧ R i = nI a) ∧ (∀ i, ∃ a, a < 4 ∧ F i = nI a) ∧ (∀ i, ∃ a, a < 4 ∧ S i = nI a)
def lj_CW (C : Nat → Int64) (W : Nat → Int32) : Prop := ∀ r x y, r < 3 → x < 8 → y < 8 → lj_L (C r) (8 * x + y) = bt (W (8 * r + x)) y
-- X: othersAreZero, holds
theorem lj_xoz (n bd : Int32) (post : Int32 → Prop) : ∀ d v, v + d = 4 → post (lj_b (lj_oz n bd d v)) → wX_othersAreZero_2 post n bd (d + 1) (nI v) := by
  intro d
  induction d with
  | zero =>
    intro v hv h
    exact br_t (lj_ge lj_k4 (by omega) (by omega)) h
  | succ d ih =>
    intro v hv h
    refine br_f (lj_nge lj_k4 (by omega) (by omega)) (lj_hb (by omega) ?_)
    rw [lj_wide bd (by omega)]
    refine lj_sw (fun e => lj_tx (br_c (fun z => nm_r (nI_1 v) (ih (v + 1) (by omega) ?_)) (fun z => ?_))) (fun e => nm_r (nI_1 v) (ih (v + 1) (by omega) ?_))
    · simpa [lj_oz, z] using h
    · simpa [lj_oz, lj_b, z, e] using h
    · simpa [lj_oz, e] using h
theorem lj_nar (b : Bool) : narrow .boolean (.int (lj_b b)) = .int (lj_b b) := by cases b <;> rfl
theorem lj_xh {m : Nat} {C : Nat → Int64} {R F S : Nat → Int32} (hO : lj_OK m R F S) (n : Int32) (post : Int32 → Prop) : ∀ d i bd, i + d = m → post (lj_b (lj_hr C R F S n d i bd)) → wX_holds_17 post n (nI m) C R F S (d + 1) bd (nI i) := by
  have hm : m ≤ 5 := hO.1
  intro d
  induction d with
  | zero =>
    intro i bd hi h
    refine br_t (nI_le (by omega) (by omega)) ?_
    exact ⟨5, lj_xoz n bd _ 4 0 rfl ⟨lj_nar _, h⟩⟩
  | succ d ih =>
    intro i bd hi h
    have h5 : vp_in (nI i) 5 := vp_in_nI (by omega) (by omega)
    obtain ⟨a, ha, hR⟩ := hO.2.1 i
    have h3 : vp_in (R i) 3 := by rw [hR]; exact vp_in_nI ha (by omega)
    rw [wX_holds_17]
    dsimp only
    rw [nI_clamp (n := i) (by omega)]
    refine br_f (nI_ge (by omega) (by omega)) ⟨h5, h5, lj_cx ⟨h5, h3, lj_hb (lj_cl _ _ _) ?_⟩⟩
    refine lj_sw (fun e => ?_) (fun e => ⟨h5, h5, nm_e (nm_r (nI_1 i) (ih (i + 1) _ (by omega) ?_))⟩)
    · have e' : lj_q C R F S n i = false := e
      simpa [lj_hr, lj_b, e'] using h
    · have e' : lj_q C R F S n i = true := e
      simpa [lj_hr, lj_nb, e'] using h
theorem lj_XH {m : Nat} {C : Nat → Int64} {R F S : Nat → Int32} (hO : lj_OK m R F S) {n : Nat} (hn : n < 4096) {post : Int32 → Prop} (h : post (lj_b (lj_h C R F S m (nI n)))) : wpX_holds post (nI m, C, R, F, S) (nI n) := by
  unfold wpX_holds
  dsimp only
  refine br_f (nI_pos (by omega)) (br_t ?_ ⟨m + 1, lj_xh hO (nI n) post m 0 0 (by omega) h⟩)
  rw [← lj_k4096]
  exact nI_lt hn (by omega)
-- Y: isAnswer
theorem lj_y87z (n bd f : Int32) (W R F S s : Nat → Int32) (post : Int32 → Prop) (h : post 0) : ∀ d v, v + d = 4 → wY_isAnswer_87 post n bd f W R F S s (d + 1) 0 (nI v) := by
  intro d
  induction d with
  | zero =>
    intro v hv
    exact br_t (lj_ge lj_k4 (by omega) (by omega)) ⟨lj_nar false, h⟩
  | succ d ih =>
    intro v hv
    exact br_f (lj_nge lj_k4 (by omega) (by omega)) (br_t rfl (nm_r (nI_1 v) (ih (v + 1) (by omega))))
theorem lj_y87 (n bd f : Int32) (W R F S s : Nat → Int32) (post : Int32 → Prop) : ∀ d v, v + d = 4 → post (lj_b (lj_oz n bd d v)) → wY_isAnswer_87 post n bd f W R F S s (d + 1) 1 (nI v) := by
  intro d
  induction d with
  | zero =>
    intro v hv h
    exact br_t (lj_ge lj_k4 (by omega) (by omega)) ⟨lj_nar true, h⟩
  | succ d ih =>
    intro v hv h
    refine br_f (lj_nge lj_k4 (by omega) (by omega)) (br_f (by decide) (br_c (fun z => nm_r (nI_1 v) (ih (v + 1) (by omega) ?_)) (fun z => lj_ty (br_c (fun y => nm_r (nI_1 v) (ih (v + 1) (by omega) ?_)) (fun y => nm_r (nI_1 v) (lj_y87z n bd f W R F S s post ?_ d (v + 1) (by omega)))))))
    · have e : bt bd v = true := (lj_one bd (by omega)).mp z
      simpa [lj_oz, e] using h
    · simpa [lj_oz, y] using h
    · have e : bt bd v = false := ts_nt (fun t => z ((lj_one bd (by omega)).mpr t))
      simpa [lj_oz, lj_b, y, e] using h
theorem lj_y7z (n bd f x : Int32) (W R F S s : Nat → Int32) (post : Int32 → Prop) (h : post 0) (d : Nat) : wY_isAnswer_7 post n f W R F S s (d + 1) bd 0 x :=
  br_c (fun _ => ⟨5, lj_y87z n bd f W R F S s post h 4 0 rfl⟩) (fun _ => br_t rfl ⟨5, lj_y87z n bd f W R F S s post h 4 0 rfl⟩)
theorem lj_yh {m : Nat} {C : Nat → Int64} {W R F S s : Nat → Int32} (hO : lj_OK m R F S) (hC : lj_CW C W) (n : Int32) (post : Int32 → Prop) : ∀ d i bd, i + d = m → post (lj_b (lj_hr C R F S n d i bd)) → wY_isAnswer_7 post n (nI m) W R F S s (d + 1) bd 1 (nI i) := by
  have hm : m ≤ 5 := hO.1
  intro d
  induction d with
  | zero =>
    intro i bd hi h
    exact br_t (nI_le (by omega) (by omega)) ⟨5, lj_y87 n bd (nI m) W R F S s post 4 0 rfl h⟩
  | succ d ih =>
    intro i bd hi h
    have h5 : vp_in (nI i) 5 := vp_in_nI (by omega) (by omega)
    obtain ⟨a, ha, hR⟩ := hO.2.1 i
    have hq : bt (W (8 * a + lj_n n (F i))) (lj_n n (S i)) = lj_q C R F S n i := by
      unfold lj_q lj_c
      rw [hR, nI_clamp (by omega)]
      exact (hC a _ _ ha (lj_tl _ _) (lj_tl _ _)).symm
    rw [wY_isAnswer_7]
    dsimp only
    rw [nI_clamp (n := i) (by omega)]
    refine br_f (nI_ge (by omega) (by omega)) (br_f (by decide) ⟨h5, h5, nm_r (Int32.or_assoc _ _ _) ⟨h5, h5, lj_ty ⟨h5, lj_ty ?_⟩⟩⟩)
    rw [lj_te n (F i), lj_te n (S i), hR]
    refine lj_yin ha (lj_tl _ _) (lj_tl _ _) ?_
    rw [hq]
    refine nm_r (nI_1 i) ?_
    cases e : lj_q C R F S n i with
    | false =>
      have h0 : post 0 := by simpa [lj_hr, lj_b, e] using h
      exact lj_y7z _ _ _ _ _ _ _ _ _ _ h0 d
    | true =>
      refine ih (i + 1) _ (by omega) ?_
      simpa [lj_hr, lj_nb, e] using h
theorem lj_YH {m : Nat} {C : Nat → Int64} {W R F S s : Nat → Int32} (hO : lj_OK m R F S) (hC : lj_CW C W) {n : Int32} {post : Int32 → Prop} (h : post (lj_b (lj_h C R F S m n))) : wpY_isAnswer post (nI m, W, R, F, S, s) n :=
  ⟨m + 1, lj_yh hO hC n post m 0 0 (by omega) h⟩
