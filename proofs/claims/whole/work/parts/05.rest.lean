-- pairs
def lj_ps (f : Nat → Bool) (v w : Int32) : Nat → Nat → Int64 → Int64
  | 0, _, z => z
  | d + 1, i, z => cond (f i) (lj_ps f v w d (i + 1) (z ||| ((1 : Int64) <<< ((nI (lj_c (nI i) v w)).toInt64 &&& 63)))) (lj_ps f v w d (i + 1) z)
theorem lj_xps {f : Nat → Bool} {A : Int32} {C : Nat → Int64} {R F S : Nat → Int32} (H : lj_HX f A C R F S) (v w : Int32) (post : Int32 → Prop) : ∀ d i z, i + d = 4096 → post (nI (lj_cn (lj_L (lj_ps f v w d i z)) 64 0)) → wX_pairs_21 post v w A C R F S (d + 1) z (nI i) := by
  intro d
  induction d with
  | zero =>
    intro i z hi h
    exact br_t (lj_ge lj_k4096 (by omega) (by omega)) (lj_XB h)
  | succ d ih =>
    intro i z hi h
    refine br_f (lj_nge lj_k4096 (by omega) (by omega)) (H i _ (by omega) (lj_sw (fun e => nm_r (nI_1 i) (ih (i + 1) z (by omega) ?_)) (fun e => lj_cx (nm_e (nm_r (nI_1 i) (ih (i + 1) _ (by omega) ?_))))))
    · rw [lj_ps, e] at h; exact h
    · rw [lj_ps, e] at h; exact h
theorem lj_nb1 : ¬ vp_nar .boolean 1 = 0 := by decide
theorem lj_nb0 : vp_nar .boolean 0 = 0 := by decide
theorem lj_yps {f : Nat → Bool} {A : Int32} {W R F S : Nat → Int32} (H : ∀ s, lj_HY f A W R F S s) {v w : Nat} (hv : v < 4) (hw : w < 4) (post : Int32 → SY → Prop) : ∀ d i z q, i + d = 4096 → (∀ c, c < 64 → (q c = 0 ↔ lj_L z c = false)) → (∀ q', post (nI (lj_cn (lj_L (lj_ps f (nI v) (nI w) d i z)) 64 0)) (A, W, R, F, S, q')) → wY_pairs_26 post (nI v) (nI w) A (d + 1) (nI (lj_cn (lj_L z) 64 0)) (nI i) W R F S q := by
  intro d
  induction d with
  | zero =>
    intro i z q hi hq h
    exact br_t (lj_ge lj_k4096 (by omega) (by omega)) (h q)
  | succ d ih =>
    intro i z q hi hq h
    have hc : lj_c (nI i) (nI v) (nI w) < 64 := lj_cl _ _ _
    have h6 : vp_in (nI (lj_c (nI i) (nI v) (nI w))) 64 := vp_in_nI hc (by omega)
    have e0 : 8 * lj_t (nI i) (nI v) + lj_t (nI i) (nI w) = nI (lj_c (nI i) (nI v) (nI w)) := by
      rw [lj_te (nI i) (nI v), lj_te (nI i) (nI w), lj_8]
      rfl
    refine br_f (lj_nge lj_k4096 (by omega) (by omega)) (lj_vaY hv (br_f lj_10 (lj_vaY hw (br_f lj_10 (lj_ty (lj_ty (nm_r e0 (H q i _ (by omega) (lj_sw (fun e => nm_r (nI_1 i) (ih (i + 1) z q (by omega) hq ?_)) (fun e => ⟨h6, ?_⟩))))))))))
    · rw [lj_ps, e] at h; exact h
    · rw [lj_ps, e, cond_true] at h
      generalize lj_c (nI i) (nI v) (nI w) = c at hc h6 h e0
      rw [nI_clamp (n := c) (by omega)]
      refine br_c (fun y => ⟨h6, nm_e (nm_r (nI_1 _) (nm_r (nI_1 i) ?_))⟩) (fun y => nm_r (nI_1 i) ?_)
      · have y' : lj_L z c = false := (hq c hc).mp y
        have e2 : lj_cn (lj_L z) 64 0 + 1 = lj_cn (lj_L (z ||| ((1 : Int64) <<< ((nI c).toInt64 &&& 63)))) 64 0 := by
          rw [lj_cnC (g := fun j => lj_L z j || decide (j = c)) 64 0 (fun j h1 h2 => lj_Lor z hc (by omega)), lj_cn1 y', if_pos (by omega)]
        rw [e2]
        refine ih (i + 1) _ _ (by omega) (fun j hj => ?_) h
        rw [lj_Lor z hc hj]
        by_cases ej : j = c
        · subst ej; rw [pk_us]; exact ⟨fun t => absurd t lj_nb1, fun t => by simp at t⟩
        · rw [pk_un ej, hq j hj]; simp [ej]
      · have y' : lj_L z c = true := ts_nf (fun t => y ((hq c hc).mpr t))
        have e2 : lj_cn (lj_L z) 64 0 = lj_cn (lj_L (z ||| ((1 : Int64) <<< ((nI c).toInt64 &&& 63)))) 64 0 := by
          refine lj_cnC 64 0 (fun j h1 h2 => ?_)
          rw [lj_Lor z hc (by omega)]
          by_cases ej : j = c
          · subst ej; simp [y']
          · simp [ej]
        rw [e2]
        refine ih (i + 1) _ _ (by omega) (fun j hj => ?_) h
        rw [lj_Lor z hc hj, hq j hj]
        by_cases ej : j = c
        · subst ej; simp [y']
        · simp [ej]
theorem lj_yclr {A v w : Int32} {W R F S : Nat → Int32} (post : Int32 → SY → Prop) (k : Nat) (H : ∀ q : Nat → Int32, (∀ c, c < 64 → q c = 0) → wY_pairs_26 post v w A k 0 0 W R F S q) : ∀ d i q, i + d = 64 → (∀ c, c < i → q c = 0) → wY_pairs_2 post v w A (d + 1) (nI i) W R F S q := by
  intro d
  induction d with
  | zero =>
    intro i q hi h
    exact br_t (lj_ge lj_k64 (by omega) (by omega)) ⟨k, H q (fun c hc => h c (by omega))⟩
  | succ d ih =>
    intro i q hi h
    rw [wY_pairs_2]
    dsimp only
    rw [nI_clamp (n := i) (by omega)]
    refine br_f (lj_nge lj_k64 (by omega) (by omega)) ⟨vp_in_nI (by omega) (by omega), nm_e (nm_r (nI_1 i) (ih (i + 1) _ (by omega) (fun c hc => ?_)))⟩
    by_cases e : c = i
    · subst e; rw [pk_us]; exact lj_nb0
    · rw [pk_un e]; exact h c (by omega)
-- where v or w is none of 0 .. 3, Y's scan ends at its first step
theorem lj_pairsO {A v w : Int32} {W R F S s : Nat → Int32} (hvw : ∀ (post : Int32 → SY → Prop) (q : Nat → Int32), post 0 (A, W, R, F, S, q) → wY_pairs_26 post v w A 1 0 0 W R F S q) (post : Int32 → SY → Prop) (h : ∀ q, post 0 (A, W, R, F, S, q)) : wpY_pairs post (A, W, R, F, S, s) v w :=
  ⟨65, lj_yclr post 1 (fun q _ => hvw post q (h q)) 64 0 s rfl (fun c hc => absurd hc (by omega))⟩
theorem lj_pairs {f : Nat → Bool} {A : Int32} {C : Nat → Int64} {W R F S s : Nat → Int32} (HX : lj_HX f A C R F S) (HY : ∀ s, lj_HY f A W R F S s) (v w : Int32) : ∃ r, (∀ post : Int32 → Prop, post r → wpX_pairs post (A, C, R, F, S) v w) ∧ (∀ post : Int32 → SY → Prop, (∀ q, post r (A, W, R, F, S, q)) → wpY_pairs post (A, W, R, F, S, s) v w) := by
  rcases lj_vaO v with ⟨a, ha, rfl⟩ | hv
  · rcases lj_vaO w with ⟨b, hb, rfl⟩ | hw
    · refine ⟨nI (lj_cn (lj_L (lj_ps f (nI a) (nI b) 4096 0 0)) 64 0), fun post h => ?_, fun post h => ?_⟩
      · unfold wpX_pairs
        dsimp only
        exact lj_vaX ha (br_f lj_10 (lj_vaX hb (br_f lj_10 ⟨4097, lj_xps HX (nI a) (nI b) post 4096 0 0 rfl h⟩)))
      · refine ⟨65, lj_yclr post 4097 (fun q hq => ?_) 64 0 s rfl (fun c hc => absurd hc (by omega))⟩
        have e : lj_cn (lj_L 0) 64 0 = 0 := by
          rw [lj_cnC (g := fun _ => false) 64 0 (fun j _ _ => lj_L0 j)]
          rfl
        have t := lj_yps HY ha hb post 4096 0 0 q rfl (fun c hc => by rw [hq c hc, lj_L0]; simp) h
        rw [e] at t
        exact t
    · refine ⟨0, fun post h => ?_, fun post h => lj_pairsO (fun post q h => ?_) post h⟩
      · unfold wpX_pairs
        dsimp only
        exact lj_vaX ha (br_f lj_10 (hw.1 _ (br_t rfl h)))
      · exact br_f (by decide) (lj_vaY ha (br_f lj_10 (hw.2 _ _ (br_t rfl h))))
  · refine ⟨0, fun post h => ?_, fun post h => lj_pairsO (fun post q h => ?_) post h⟩
    · unfold wpX_pairs
      dsimp only
      exact hv.1 _ (br_t rfl h)
    · exact br_f (by decide) (hv.2 _ _ (br_t rfl h))
-- partners
def lj_pa (f : Nat → Bool) : Nat → Nat → Int32 → Int32
  | 0, _, z => z
  | d + 1, i, z => cond (f i) (lj_pa f d (i + 1) (z ||| ((1 : Int32) <<< (nI i &&& 31)))) (lj_pa f d (i + 1) z)
theorem lj_xpa0 {a x : Nat} (ha : a < 3) (hx : x < 8) {A : Int32} {C : Nat → Int64} {R F S : Nat → Int32} (post : Int32 → Prop) : ∀ d i z, i + d = 8 → post (lj_pa (fun y => lj_L (C a) (8 * x + y)) d i z) → wX_partners_31 post (nI a) (nI x) 0 A C R F S (d + 1) z (nI i) := by
  intro d
  induction d with
  | zero =>
    intro i z hi h
    exact br_t (lj_ge lj_k8 (by omega) (by omega)) h
  | succ d ih =>
    intro i z hi h
    refine br_f (lj_nge lj_k8 (by omega) (by omega)) (br_t rfl ?_)
    unfold wpX_cell wX_partners_57
    rw [lj_8, nI_clamp (n := a) (by omega)]
    refine ⟨vp_in_nI ha (by omega), lj_hb (by omega) (lj_sw (fun e => nm_r (nI_1 i) (ih (i + 1) z (by omega) ?_)) (fun e => nm_e (nm_r (nI_1 i) (ih (i + 1) _ (by omega) ?_))))⟩
    · rw [lj_pa, e] at h; exact h
    · rw [lj_pa, e] at h; exact h
theorem lj_xpa1 {a x : Nat} (ha : a < 3) (hx : x < 8) {A : Int32} {C : Nat → Int64} {R F S : Nat → Int32} (post : Int32 → Prop) : ∀ d i z, i + d = 8 → post (lj_pa (fun y => lj_L (C a) (8 * y + x)) d i z) → wX_partners_31 post (nI a) (nI x) 1 A C R F S (d + 1) z (nI i) := by
  intro d
  induction d with
  | zero =>
    intro i z hi h
    exact br_t (lj_ge lj_k8 (by omega) (by omega)) h
  | succ d ih =>
    intro i z hi h
    refine br_f (lj_nge lj_k8 (by omega) (by omega)) (br_f (by decide) ?_)
    unfold wpX_cell wX_partners_57
    rw [lj_8, nI_clamp (n := a) (by omega)]
    refine ⟨vp_in_nI ha (by omega), lj_hb (by omega) (lj_sw (fun e => nm_r (nI_1 i) (ih (i + 1) z (by omega) ?_)) (fun e => nm_e (nm_r (nI_1 i) (ih (i + 1) _ (by omega) ?_))))⟩
    · rw [lj_pa, e] at h; exact h
    · rw [lj_pa, e] at h; exact h
theorem lj_ypa0 {a x : Nat} (ha : a < 3) (hx : x < 8) {A : Int32} {C : Nat → Int64} {W R F S s : Nat → Int32} (hC : lj_CW C W) (post : Int32 → Prop) : ∀ d i z, i + d = 8 → post (lj_pa (fun y => lj_L (C a) (8 * x + y)) d i z) → wY_partners_6 post (nI a) (nI x) 0 A W R F S s (d + 1) z (nI i) := by
  intro d
  induction d with
  | zero =>
    intro i z hi h
    exact br_t (lj_ge lj_k8 (by omega) (by omega)) h
  | succ d ih =>
    intro i z hi h
    refine br_f (lj_nge lj_k8 (by omega) (by omega)) (lj_relY ha (br_f lj_10 (lj_thY hx (br_f lj_10 (br_t rfl (lj_yin ha hx (by omega) ?_))))))
    rw [← hC a x i ha hx (by omega)]
    refine lj_sw (fun e => br_f (by decide) ?_) (fun e => ?_)
    · refine br_t rfl (nm_r (nI_1 i) (ih (i + 1) z (by omega) ?_))
      rw [lj_pa, e] at h; exact h
    · refine br_f lj_10 (nm_e (nm_r (nI_1 i) (ih (i + 1) _ (by omega) ?_)))
      rw [lj_pa, e] at h; exact h
theorem lj_ypa1 {a x : Nat} (ha : a < 3) (hx : x < 8) {A : Int32} {C : Nat → Int64} {W R F S s : Nat → Int32} (hC : lj_CW C W) (post : Int32 → Prop) : ∀ d i z, i + d = 8 → post (lj_pa (fun y => lj_L (C a) (8 * y + x)) d i z) → wY_partners_6 post (nI a) (nI x) 1 A W R F S s (d + 1) z (nI i) := by
  intro d
  induction d with
  | zero =>
    intro i z hi h
    exact br_t (lj_ge lj_k8 (by omega) (by omega)) h
  | succ d ih =>
    intro i z hi h
    refine br_f (lj_nge lj_k8 (by omega) (by omega)) (lj_relY ha (br_f lj_10 (lj_thY hx (br_f lj_10 (br_f lj_10 (br_t rfl (lj_yin ha (by omega) hx ?_)))))))
    rw [← hC a i x ha (by omega) hx]
    refine lj_sw (fun e => ?_) (fun e => ?_)
    · refine br_t rfl (nm_r (nI_1 i) (ih (i + 1) z (by omega) ?_))
      rw [lj_pa, e] at h; exact h
    · refine br_f lj_10 (nm_e (nm_r (nI_1 i) (ih (i + 1) _ (by omega) ?_)))
      rw [lj_pa, e] at h; exact h
theorem lj_ypaO {a x : Nat} (ha : a < 3) (hx : x < 8) {A p : Int32} {W R F S s : Nat → Int32} (h0 : ¬ p = 0) (h1 : ¬ p = 1) (post : Int32 → Prop) (h : post 0) : ∀ d i, i + d = 8 → wY_partners_6 post (nI a) (nI x) p A W R F S s (d + 1) 0 (nI i) := by
  intro d
  induction d with
  | zero =>
    intro i hi
    exact br_t (lj_ge lj_k8 (by omega) (by omega)) h
  | succ d ih =>
    intro i hi
    refine br_f (lj_nge lj_k8 (by omega) (by omega)) (lj_relY ha (br_f lj_10 (lj_thY hx (br_f lj_10 (br_f h0 (br_f h1 ?_))))))
    exact br_t rfl (nm_r (nI_1 i) (ih (i + 1) (by omega)))
