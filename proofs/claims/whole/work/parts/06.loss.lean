-- a pair put in or taken out, on both sides
theorem lj_uLor {C : Nat → Int64} {a c : Nat} (hc : c < 64) (r : Nat) {i : Nat} (hi : i < 64) : lj_L (vp_updL C a (C a ||| ((1 : Int64) <<< ((nI c).toInt64 &&& 63))) r) i = (lj_L (C r) i || (decide (r = a) && decide (i = c))) := by
  by_cases e : r = a
  · subst e; rw [pk_uLs, lj_Lor _ hc hi]; simp
  · rw [pk_uLn e]; simp [e]
theorem lj_uLcl {C : Nat → Int64} {a c : Nat} (hc : c < 64) (r : Nat) {i : Nat} (hi : i < 64) : lj_L (vp_updL C a (C a &&& (((1 : Int64) <<< ((nI c).toInt64 &&& 63)) ^^^ (-1))) r) i = (lj_L (C r) i && !(decide (r = a) && decide (i = c))) := by
  by_cases e : r = a
  · subst e; rw [pk_uLs, lj_Lcl _ hc hi]; simp
  · rw [pk_uLn e]; simp [e]
theorem lj_uWor {W : Nat → Int32} {k y : Nat} (hy : y < 32) (k' : Nat) {i : Nat} (hi : i < 32) : bt (upd W k (W k ||| ((1 : Int32) <<< (nI y &&& 31))) k') i = (bt (W k') i || (decide (k' = k) && decide (i = y))) := by
  by_cases e : k' = k
  · subst e; rw [pk_us, lj_bor _ hy hi]; simp
  · rw [pk_un e]; simp [e]
theorem lj_uWcl {W : Nat → Int32} {k y : Nat} (hy : y < 32) (k' : Nat) {i : Nat} (hi : i < 32) : bt (upd W k (W k &&& (((1 : Int32) <<< (nI y &&& 31)) ^^^ (-1))) k') i = (bt (W k') i && !(decide (k' = k) && decide (i = y))) := by
  by_cases e : k' = k
  · subst e; rw [pk_us, lj_bcl _ hy hi]; simp
  · rw [pk_un e]; simp [e]
theorem lj_same {a x y r x' y' : Nat} (hx : x < 8) (hy : y < 8) (hx' : x' < 8) (hy' : y' < 8) : (decide (r = a) && decide (8 * x' + y' = 8 * x + y)) = (decide (8 * r + x' = 8 * a + x) && decide (y' = y)) := by
  rw [Bool.eq_iff_iff]
  simp only [Bool.and_eq_true, decide_eq_true_eq]
  omega
theorem lj_CWor {C : Nat → Int64} {W : Nat → Int32} (h : lj_CW C W) {a x y : Nat} (hx : x < 8) (hy : y < 8) : lj_CW (vp_updL C a (C a ||| ((1 : Int64) <<< ((nI (8 * x + y)).toInt64 &&& 63)))) (upd W (8 * a + x) (W (8 * a + x) ||| ((1 : Int32) <<< (nI y &&& 31)))) := by
  intro r x' y' hr hx' hy'
  rw [lj_uLor (by omega) r (by omega), lj_uWor (by omega) _ (by omega), h r x' y' hr hx' hy', lj_same hx hy hx' hy']
theorem lj_CWcl {C : Nat → Int64} {W : Nat → Int32} (h : lj_CW C W) {a x y : Nat} (hx : x < 8) (hy : y < 8) : lj_CW (vp_updL C a (C a &&& (((1 : Int64) <<< ((nI (8 * x + y)).toInt64 &&& 63)) ^^^ (-1)))) (upd W (8 * a + x) (W (8 * a + x) &&& (((1 : Int32) <<< (nI y &&& 31)) ^^^ (-1)))) := by
  intro r x' y' hr hx' hy'
  rw [lj_uLcl (by omega) r (by omega), lj_uWcl (by omega) _ (by omega), h r x' y' hr hx' hy', lj_same hx hy hx' hy']
theorem lj_xpair1 {A p : Int32} {C : Nat → Int64} {R F S : Nat → Int32} {a x y : Nat} (ha : a < 3) (hx : x < 8) (hy : y < 8) (hp : ¬ p = 0) {post : Int32 → SX → Prop} (h : post 1 (A, vp_updL C a (C a ||| ((1 : Int64) <<< ((nI (8 * x + y)).toInt64 &&& 63))), R, F, S)) : wpX_pair post (A, C, R, F, S) (nI a) (nI x) (nI y) p := by
  unfold wpX_pair
  dsimp only
  refine lj_relX ha (br_f lj_10 (lj_thX hx (br_f lj_10 (lj_thX hy (br_f lj_10 ?_)))))
  unfold wpX_cell
  rw [lj_8, nI_clamp (n := a) (by omega)]
  exact nm_e (br_f hp ⟨vp_in_nI ha (by omega), vp_in_nI ha (by omega), nm_e h⟩)
theorem lj_xpair0 {A : Int32} {C : Nat → Int64} {R F S : Nat → Int32} {a x y : Nat} (ha : a < 3) (hx : x < 8) (hy : y < 8) {post : Int32 → SX → Prop} (h : post 1 (A, vp_updL C a (C a &&& (((1 : Int64) <<< ((nI (8 * x + y)).toInt64 &&& 63)) ^^^ (-1))), R, F, S)) : wpX_pair post (A, C, R, F, S) (nI a) (nI x) (nI y) 0 := by
  unfold wpX_pair
  dsimp only
  refine lj_relX ha (br_f lj_10 (lj_thX hx (br_f lj_10 (lj_thX hy (br_f lj_10 ?_)))))
  unfold wpX_cell
  rw [lj_8, nI_clamp (n := a) (by omega)]
  exact nm_e (br_t rfl ⟨vp_in_nI ha (by omega), vp_in_nI ha (by omega), nm_e h⟩)
theorem lj_ypair1 {A p : Int32} {W R F S s : Nat → Int32} {a x y : Nat} (ha : a < 3) (hx : x < 8) (hy : y < 8) (hp : ¬ p = 0) {post : Int32 → SY → Prop} (h : post 1 (A, upd W (8 * a + x) (W (8 * a + x) ||| ((1 : Int32) <<< (nI y &&& 31))), R, F, S, s)) : wpY_pair post (A, W, R, F, S, s) (nI a) (nI x) (nI y) p := by
  unfold wpY_pair
  dsimp only
  refine lj_relY ha (br_f lj_10 (lj_thY hx (br_f lj_10 (lj_thY hy (br_f lj_10 ?_)))))
  rw [lj_8, nI_clamp (n := 8 * a + x) (by omega)]
  exact br_f hp ⟨vp_in_nI (by omega) (by omega), vp_in_nI (by omega) (by omega), nm_e h⟩
theorem lj_ypair0 {A : Int32} {W R F S s : Nat → Int32} {a x y : Nat} (ha : a < 3) (hx : x < 8) (hy : y < 8) {post : Int32 → SY → Prop} (h : post 1 (A, upd W (8 * a + x) (W (8 * a + x) &&& (((1 : Int32) <<< (nI y &&& 31)) ^^^ (-1))), R, F, S, s)) : wpY_pair post (A, W, R, F, S, s) (nI a) (nI x) (nI y) 0 := by
  unfold wpY_pair
  dsimp only
  refine lj_relY ha (br_f lj_10 (lj_thY hx (br_f lj_10 (lj_thY hy (br_f lj_10 ?_)))))
  rw [lj_8, nI_clamp (n := 8 * a + x) (by omega)]
  exact br_t rfl ⟨vp_in_nI (by omega) (by omega), vp_in_nI (by omega) (by omega), nm_e h⟩
-- which answers use a cell
def lj_us (R F S : Nat → Int32) (n p c : Int32) : Nat → Nat → Bool
  | 0, _ => false
  | d + 1, i => (decide (R i = p) && decide (nI (lj_c n (F i) (S i)) = c)) || lj_us R F S n p c d (i + 1)
theorem lj_xus {m : Nat} (hm : m ≤ 5) {C : Nat → Int64} {R F S : Nat → Int32} (n p c : Int32) (post : Int32 → Prop) : ∀ d i, i + d = m → post (lj_b (lj_us R F S n p c d i)) → wX_usesCell_3 post n p c (nI m) C R F S (d + 1) (nI i) := by
  intro d
  induction d with
  | zero =>
    intro i hi h
    exact br_t (nI_le (by omega) (by omega)) h
  | succ d ih =>
    intro i hi h
    have h5 : vp_in (nI i) 5 := vp_in_nI (by omega) (by omega)
    rw [wX_usesCell_3]
    dsimp only
    rw [nI_clamp (n := i) (by omega)]
    refine br_f (nI_ge (by omega) (by omega)) ⟨h5, br_c (fun z => ⟨h5, h5, lj_cx (br_c (fun y => ?_) (fun y => nm_r (nI_1 i) (ih (i + 1) (by omega) ?_)))⟩) (fun z => nm_r (nI_1 i) (ih (i + 1) (by omega) ?_))⟩
    · simpa [lj_us, lj_b, z, y] using h
    · simpa [lj_us, y] using h
    · simpa [lj_us, z] using h
theorem lj_xls {f g : Nat → Bool} {A p c : Int32} {C : Nat → Int64} {R F S : Nat → Int32} (H : lj_HX f A C R F S) (HU : ∀ (n : Nat) (post : Int32 → Prop), n < 4096 → post (lj_b (g n)) → wpX_usesCell post (A, C, R, F, S) (nI n) p c) (post : Int32 → Prop) : ∀ d i k, i + d = 4096 → post (nI (k + lj_cn (fun j => f j && g j) d i)) → wX_loss_36 post p c A C R F S (d + 1) (nI k) (nI i) := by
  intro d
  induction d with
  | zero =>
    intro i k hi h
    exact br_t (lj_ge lj_k4096 (by omega) (by omega)) h
  | succ d ih =>
    intro i k hi h
    refine br_f (lj_nge lj_k4096 (by omega) (by omega)) (H i _ (by omega) (lj_sw (fun e => nm_r (nI_1 i) (ih (i + 1) k (by omega) ?_)) (fun e => HU i _ (by omega) (lj_sw (fun e' => nm_r (nI_1 i) (ih (i + 1) k (by omega) ?_)) (fun e' => nm_r (nI_1 k) (nm_r (nI_1 i) (ih (i + 1) (k + 1) (by omega) ?_)))))))
    · rw [lj_cnf (f := fun j => f j && g j) (by simp [e])]; exact h
    · rw [lj_cnf (f := fun j => f j && g j) (by simp [e'])]; exact h
    · rw [lj_cnt (f := fun j => f j && g j) (by simp [e, e'])]; exact h
-- the answers with a pair taken out are those that don't use it
theorem lj_hrc {C D : Nat → Int64} {R F S : Nat → Int32} (hR : ∀ i, ∃ a, a < 3 ∧ R i = nI a) {a c : Nat} (ha : a < 3) (hc : c < 64) (hD : ∀ r i, r < 3 → i < 64 → lj_L (D r) i = (lj_L (C r) i && !(decide (r = a) && decide (i = c)))) (n : Int32) : ∀ d i bd, lj_hr D R F S n d i bd = (lj_hr C R F S n d i bd && !lj_us R F S n (nI a) (nI c) d i) := by
  intro d
  induction d with
  | zero => intro i bd; simp [lj_hr, lj_us]
  | succ d ih =>
    intro i bd
    obtain ⟨b, hb, e⟩ := hR i
    have e1 : lj_q D R F S n i = (lj_q C R F S n i && !(decide (R i = nI a) && decide (nI (lj_c n (F i) (S i)) = nI c))) := by
      have h6 := lj_cl n (F i) (S i)
      unfold lj_q
      rw [e, nI_clamp (by omega), hD b _ hb h6]
      rw [decide_eq_decide.mpr (nI_eq (a := b) (b := a) (by omega) (by omega)), decide_eq_decide.mpr (nI_eq (a := lj_c n (F i) (S i)) (b := c) (by omega) (by omega))]
    rw [lj_hr, lj_hr, lj_us, e1, ih]
    cases lj_q C R F S n i <;> cases (decide (R i = nI a) && decide (nI (lj_c n (F i) (S i)) = nI c)) <;> simp
theorem lj_hre {C D : Nat → Int64} {R F S : Nat → Int32} (hR : ∀ i, ∃ a, a < 3 ∧ R i = nI a) (hD : ∀ r i, r < 3 → i < 64 → lj_L (D r) i = lj_L (C r) i) (n : Int32) : ∀ d i bd, lj_hr D R F S n d i bd = lj_hr C R F S n d i bd := by
  intro d
  induction d with
  | zero => intro i bd; rfl
  | succ d ih =>
    intro i bd
    obtain ⟨b, hb, e⟩ := hR i
    have e1 : lj_q D R F S n i = lj_q C R F S n i := by
      unfold lj_q
      rw [e, nI_clamp (by omega), hD b _ hb (lj_cl _ _ _)]
    rw [lj_hr, lj_hr, e1, ih]
theorem lj_loss {m : Nat} {C : Nat → Int64} {W R F S s : Nat → Int32} (hO : lj_OK m R F S) (hC : lj_CW C W) {a x y : Nat} (ha : a < 3) (hx : x < 8) (hy : y < 8) : ∃ r, (∀ post : Int32 → Prop, post r → wpX_loss post (nI m, C, R, F, S) (nI a) (nI x) (nI y)) ∧ (∀ post : Int32 → SY → Prop, (∀ W', lj_CW C W' → post r (nI m, W', R, F, S, s)) → wpY_loss post (nI m, W, R, F, S, s) (nI a) (nI x) (nI y)) := by
  have hc : 8 * x + y < 64 := by omega
  have hR := hO.2.1
  let f : Nat → Bool := fun n => lj_h C R F S m (nI n)
  let g : Nat → Bool := fun n => lj_us R F S (nI n) (nI a) (nI (8 * x + y)) m 0
  let D : Nat → Int64 := vp_updL C a (C a &&& (((1 : Int64) <<< ((nI (8 * x + y)).toInt64 &&& 63)) ^^^ (-1)))
  let V : Nat → Int32 := upd W (8 * a + x) (W (8 * a + x) &&& (((1 : Int32) <<< (nI y &&& 31)) ^^^ (-1)))
  have hD : ∀ r i, r < 3 → i < 64 → lj_L (D r) i = (lj_L (C r) i && !(decide (r = a) && decide (i = 8 * x + y))) := fun r i _ hi => lj_uLcl hc r hi
  have hf : ∀ n, lj_h D R F S m (nI n) = (f n && !g n) := fun n => lj_hrc hR ha hc hD (nI n) m 0 0
  have hs : lj_cn (fun n => f n && !g n) 4096 0 + lj_cn (fun n => f n && g n) 4096 0 = lj_cn f 4096 0 := lj_cnS 4096 0
  have HX : lj_HX f (nI m) C R F S := fun n post hn h => lj_XH hO hn h
  have HU : ∀ (n : Nat) (post : Int32 → Prop), n < 4096 → post (lj_b (g n)) → wpX_usesCell post (nI m, C, R, F, S) (nI n) (nI a) (nI (8 * x + y)) := fun n post _ h => ⟨m + 1, lj_xus hO.1 (nI n) _ _ post m 0 (by omega) h⟩
  refine ⟨nI (lj_cn (fun n => f n && g n) 4096 0), fun post h => ?_, fun post h => ?_⟩
  · unfold wpX_loss
    dsimp only
    refine lj_relX ha (br_f lj_10 (lj_thX hx (br_f lj_10 (lj_thX hy (br_f lj_10 ?_)))))
    unfold wpX_cell
    rw [lj_8]
    exact ⟨4097, lj_xls HX HU post 4096 0 0 rfl (by rw [Nat.zero_add]; exact h)⟩
  · unfold wpY_loss
    dsimp only
    refine lj_relY ha (br_f lj_10 (lj_thY hx (br_f lj_10 (lj_thY hy (br_f lj_10 (lj_yin ha hx hy ?_))))))
    rw [← hC a x y ha hx hy]
    have HY : lj_HY f (nI m) W R F S s := fun n post hn h => lj_YH hO hC h
    have HV : lj_HY (fun n => f n && !g n) (nI m) V R F S s := fun n post hn h => lj_YH (C := D) hO (lj_CWcl hC hx hy) (by rw [hf]; exact h)
    refine lj_sw (fun e => ?_) (fun e => ?_)
    · have e0 : lj_cn (fun n => f n && g n) 4096 0 = 0 := by
        have e1 : lj_cn (fun n => f n && !g n) 4096 0 = lj_cn f 4096 0 := by
          refine lj_cnC 4096 0 (fun n _ _ => ?_)
          show (f n && !g n) = f n
          rw [← hf n]
          refine lj_hre hR (fun r i hr hi => ?_) (nI n) m 0 0
          rw [hD r i hr hi]
          by_cases z : r = a ∧ i = 8 * x + y
          · rw [z.1, z.2, e]; rfl
          · have z' : (decide (r = a) && decide (i = 8 * x + y)) = false := by
              rw [Bool.and_eq_false_iff]
              by_cases z1 : r = a
              · exact Or.inr (decide_eq_false (fun z2 => z ⟨z1, z2⟩))
              · exact Or.inl (decide_eq_false z1)
            rw [z']; simp
        omega
      rw [e0] at h
      exact h W hC
    · refine lj_YC HY ?_
      refine lj_ypair0 ha hx hy ?_
      refine lj_YC HV ?_
      refine lj_ypair1 ha hx hy lj_10 ?_
      have e1 : nI (lj_cn f 4096 0) - nI (lj_cn (fun n => f n && !g n) 4096 0) = nI (lj_cn (fun n => f n && g n) 4096 0) := by
        rw [pk_sub (by omega)]
        exact congrArg nI (by omega)
      show post (nI (lj_cn f 4096 0) - nI (lj_cn (fun n => f n && !g n) 4096 0)) _
      rw [e1]
      refine h _ ?_
      intro r x' y' hr hx' hy'
      rw [← lj_CWor (C := D) (W := V) (lj_CWcl hC hx hy) (a := a) hx hy r x' y' hr hx' hy', lj_uLor hc r (by omega), hD r _ hr (by omega)]
      by_cases z : r = a ∧ 8 * x' + y' = 8 * x + y
      · rw [z.1, z.2, e]; simp
      · have z' : (decide (r = a) && decide (8 * x' + y' = 8 * x + y)) = false := by
          rw [Bool.and_eq_false_iff]
          by_cases z1 : r = a
          · exact Or.inr (decide_eq_false (fun z2 => z ⟨z1, z2⟩))
          · exact Or.inl (decide_eq_false z1)
        rw [z']; simp
