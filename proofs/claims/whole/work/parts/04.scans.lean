-- X's holds and Y's isAnswer, each against one Boolean function of the number
def lj_HX (f : Nat → Bool) (A : Int32) (C : Nat → Int64) (R F S : Nat → Int32) : Prop := ∀ (n : Nat) (post : Int32 → Prop), n < 4096 → post (lj_b (f n)) → wpX_holds post (A, C, R, F, S) (nI n)
def lj_HY (f : Nat → Bool) (A : Int32) (W R F S s : Nat → Int32) : Prop := ∀ (n : Nat) (post : Int32 → Prop), n < 4096 → post (lj_b (f n)) → wpY_isAnswer post (A, W, R, F, S, s) (nI n)
theorem lj_cnt {f : Nat → Bool} {d i k : Nat} (e : f i = true) : k + 1 + lj_cn f d (i + 1) = k + lj_cn f (d + 1) i := by
  rw [lj_cn, e]; simp; omega
theorem lj_cnf {f : Nat → Bool} {d i k : Nat} (e : f i = false) : k + lj_cn f d (i + 1) = k + lj_cn f (d + 1) i := by
  rw [lj_cn, e]; simp
-- count
theorem lj_xcnt {f : Nat → Bool} {A : Int32} {C : Nat → Int64} {R F S : Nat → Int32} (H : lj_HX f A C R F S) (post : Int32 → Prop) : ∀ d i k, i + d = 4096 → post (nI (k + lj_cn f d i)) → wX_count_4 post A C R F S (d + 1) (nI k) (nI i) := by
  intro d
  induction d with
  | zero =>
    intro i k hi h
    exact br_t (lj_ge lj_k4096 (by omega) (by omega)) h
  | succ d ih =>
    intro i k hi h
    refine br_f (lj_nge lj_k4096 (by omega) (by omega)) (H i _ (by omega) (lj_sw (fun e => nm_r (nI_1 i) (ih (i + 1) k (by omega) ?_)) (fun e => nm_r (nI_1 k) (nm_r (nI_1 i) (ih (i + 1) (k + 1) (by omega) ?_)))))
    · rw [lj_cnf e]; exact h
    · rw [lj_cnt e]; exact h
theorem lj_ycnt {f : Nat → Bool} {A : Int32} {W R F S s : Nat → Int32} (H : lj_HY f A W R F S s) (post : Int32 → Prop) : ∀ d i k, i + d = 4096 → post (nI (k + lj_cn f d i)) → wY_count_4 post A W R F S s (d + 1) (nI k) (nI i) := by
  intro d
  induction d with
  | zero =>
    intro i k hi h
    exact br_t (lj_ge lj_k4096 (by omega) (by omega)) h
  | succ d ih =>
    intro i k hi h
    refine br_f (lj_nge lj_k4096 (by omega) (by omega)) (H i _ (by omega) (lj_sw (fun e => nm_r (nI_1 i) (ih (i + 1) k (by omega) ?_)) (fun e => nm_r (nI_1 k) (nm_r (nI_1 i) (ih (i + 1) (k + 1) (by omega) ?_)))))
    · rw [lj_cnf e]; exact h
    · rw [lj_cnt e]; exact h
theorem lj_XC {f : Nat → Bool} {A : Int32} {C : Nat → Int64} {R F S : Nat → Int32} (H : lj_HX f A C R F S) {post : Int32 → Prop} (h : post (nI (lj_cn f 4096 0))) : wpX_count post (A, C, R, F, S) := ⟨4097, lj_xcnt H post 4096 0 0 rfl (by rw [Nat.zero_add]; exact h)⟩
theorem lj_YC {f : Nat → Bool} {A : Int32} {W R F S s : Nat → Int32} (H : lj_HY f A W R F S s) {post : Int32 → Prop} (h : post (nI (lj_cn f 4096 0))) : wpY_count post (A, W, R, F, S, s) := ⟨4097, lj_ycnt H post 4096 0 0 rfl (by rw [Nat.zero_add]; exact h)⟩
-- answer
def lj_an (f : Nat → Bool) (k : Int32) : Nat → Nat → Int32 → Int32
  | 0, _, _ => -1
  | d + 1, i, c => cond (f i) (if c = k then nI i else lj_an f k d (i + 1) (c + 1)) (lj_an f k d (i + 1) c)
theorem lj_xan {f : Nat → Bool} {A : Int32} {C : Nat → Int64} {R F S : Nat → Int32} (H : lj_HX f A C R F S) (k : Int32) (post : Int32 → Prop) : ∀ d i c, i + d = 4096 → post (lj_an f k d i c) → wX_answer_4 post k A C R F S (d + 1) c (nI i) := by
  intro d
  induction d with
  | zero =>
    intro i c hi h
    exact br_t (lj_ge lj_k4096 (by omega) (by omega)) h
  | succ d ih =>
    intro i c hi h
    refine br_f (lj_nge lj_k4096 (by omega) (by omega)) (H i _ (by omega) (lj_sw (fun e => nm_r (nI_1 i) (ih (i + 1) c (by omega) ?_)) (fun e => br_c (fun z => ?_) (fun z => nm_e (nm_r (nI_1 i) (ih (i + 1) (c + 1) (by omega) ?_))))))
    · rw [lj_an, e] at h; exact h
    · rw [lj_an, e, cond_true, if_pos z] at h; exact h
    · rw [lj_an, e, cond_true, if_neg z] at h; exact h
theorem lj_yan {f : Nat → Bool} {A : Int32} {W R F S s : Nat → Int32} (H : lj_HY f A W R F S s) (k : Int32) (post : Int32 → Prop) : ∀ d i c, i + d = 4096 → post (lj_an f k d i c) → wY_answer_4 post k A W R F S s (d + 1) c (nI i) := by
  intro d
  induction d with
  | zero =>
    intro i c hi h
    exact br_t (lj_ge lj_k4096 (by omega) (by omega)) h
  | succ d ih =>
    intro i c hi h
    refine br_f (lj_nge lj_k4096 (by omega) (by omega)) (H i _ (by omega) (lj_sw (fun e => nm_r (nI_1 i) (ih (i + 1) c (by omega) ?_)) (fun e => br_c (fun z => ?_) (fun z => nm_e (nm_r (nI_1 i) (ih (i + 1) (c + 1) (by omega) ?_))))))
    · rw [lj_an, e] at h; exact h
    · rw [lj_an, e, cond_true, if_pos z] at h; exact h
    · rw [lj_an, e, cond_true, if_neg z] at h; exact h
-- seek
def lj_sk (f : Nat → Bool) : Nat → Nat → Int32
  | 0, _ => -1
  | d + 1, i => cond (f i) (nI i) (lj_sk f d (i + 1))
theorem lj_xsk {f : Nat → Bool} {A : Int32} {C : Nat → Int64} {R F S : Nat → Int32} (H : lj_HX f A C R F S) (post : Int32 → Prop) : ∀ d i, i + d = 4096 → post (lj_sk f d i) → wX_seek_12 post A C R F S (d + 1) (nI i) := by
  intro d
  induction d with
  | zero =>
    intro i hi h
    exact br_t (lj_ge lj_k4096 (by omega) (by omega)) h
  | succ d ih =>
    intro i hi h
    refine br_f (lj_nge lj_k4096 (by omega) (by omega)) (H i _ (by omega) (lj_sw (fun e => nm_r (nI_1 i) (ih (i + 1) (by omega) ?_)) (fun e => ?_)))
    · rw [lj_sk, e] at h; exact h
    · rw [lj_sk, e] at h; exact h
theorem lj_ysk {f : Nat → Bool} {A : Int32} {W R F S s : Nat → Int32} (H : lj_HY f A W R F S s) (n : Int32) (post : Int32 → Prop) : ∀ d i, i + d = 4096 → (∀ j, i ≤ j → j < 4096 → ¬ nI j < n) → post (lj_sk f d i) → wY_seek_2 post n A W R F S s (d + 1) (nI i) := by
  intro d
  induction d with
  | zero =>
    intro i hi hn h
    exact br_t (lj_ge lj_k4096 (by omega) (by omega)) h
  | succ d ih =>
    intro i hi hn h
    refine br_f (lj_nge lj_k4096 (by omega) (by omega)) (br_f (hn i (by omega) (by omega)) (H i _ (by omega) (lj_sw (fun e => nm_r (nI_1 i) (ih (i + 1) (by omega) (fun j h1 h2 => hn j (by omega) h2) ?_)) (fun e => ?_))))
    · rw [lj_sk, e] at h; exact h
    · rw [lj_sk, e] at h; exact h
theorem lj_yskip {A : Int32} {W R F S s : Nat → Int32} (n : Nat) (hn : n < 2 ^ 31) (post : Int32 → Prop) (k t : Nat) (ht : t ≤ n) (h4 : t ≤ 4096) (h : wY_seek_2 post (nI n) A W R F S s k (nI t)) : ∀ d i, i + d = t → wY_seek_2 post (nI n) A W R F S s (k + d) (nI i) := by
  intro d
  induction d with
  | zero =>
    intro i hi
    have e : i = t := by omega
    subst e
    exact h
  | succ d ih =>
    intro i hi
    exact br_f (lj_nge lj_k4096 (by omega) (by omega)) (br_t (nI_lt (by omega) hn) (nm_r (nI_1 i) (ih (i + 1) (by omega))))
theorem lj_seek {f : Nat → Bool} {A : Int32} {C : Nat → Int64} {W R F S s : Nat → Int32} (HX : lj_HX f A C R F S) (HY : lj_HY f A W R F S s) (n : Int32) : ∃ r, (∀ post : Int32 → Prop, post r → wpX_seek post (A, C, R, F, S) n) ∧ (∀ post : Int32 → Prop, post r → wpY_seek post (A, W, R, F, S, s) n) := by
  by_cases h0 : n < 0
  · have h0' : ¬ 0 ≤ n := Int32.not_le.mpr h0
    refine ⟨lj_sk f 4096 0, fun post h => br_f h0' ⟨4097, lj_xsk HX post 4096 0 rfl h⟩, fun post h => ⟨4097, lj_ysk HY n post 4096 0 rfl (fun j h1 h2 => ?_) h⟩⟩
    intro z
    exact nI_pos (n := j) (by omega) (Int32.lt_trans z h0)
  · have h0' : 0 ≤ n := Int32.not_lt.mp h0
    obtain ⟨j, hj, rfl⟩ := nI_of h0
    by_cases h4 : j < 4096
    · refine ⟨lj_sk f (4096 - j) j, fun post h => br_t h0' ⟨4096 - j + 1, lj_xsk HX post (4096 - j) j (by omega) h⟩, fun post h => ⟨4096 - j + 1 + j, lj_yskip j hj post (4096 - j + 1) j (by omega) (by omega) (lj_ysk HY (nI j) post (4096 - j) j (by omega) (fun i h1 h2 => nI_nlt h1 (by omega)) h) j 0 (by omega)⟩⟩
    · refine ⟨-1, fun post h => br_t h0' ⟨1, br_t (lj_ge lj_k4096 (by omega) hj) h⟩, fun post h => ⟨1 + 4096, lj_yskip j hj post 1 4096 (by omega) (by omega) (br_t (lj_ge lj_k4096 (by omega) (by omega)) h) 4096 0 (by omega)⟩⟩
-- values
def lj_va (f : Nat → Bool) (v : Int32) : Nat → Nat → Int32 → Int32
  | 0, _, z => z
  | d + 1, i, z => cond (f i) (lj_va f v d (i + 1) (z ||| ((1 : Int32) <<< (lj_t (nI i) v &&& 31)))) (lj_va f v d (i + 1) z)
theorem lj_xva {f : Nat → Bool} {A : Int32} {C : Nat → Int64} {R F S : Nat → Int32} (H : lj_HX f A C R F S) (v : Int32) (post : Int32 → Prop) : ∀ d i z, i + d = 4096 → post (lj_va f v d i z) → wX_values_13 post v A C R F S (d + 1) z (nI i) := by
  intro d
  induction d with
  | zero =>
    intro i z hi h
    exact br_t (lj_ge lj_k4096 (by omega) (by omega)) h
  | succ d ih =>
    intro i z hi h
    refine br_f (lj_nge lj_k4096 (by omega) (by omega)) (H i _ (by omega) (lj_sw (fun e => nm_r (nI_1 i) (ih (i + 1) z (by omega) ?_)) (fun e => lj_tx (nm_e (nm_r (nI_1 i) (ih (i + 1) _ (by omega) ?_))))))
    · rw [lj_va, e] at h; exact h
    · rw [lj_va, e] at h; exact h
theorem lj_yva {f : Nat → Bool} {A : Int32} {W R F S s : Nat → Int32} (H : lj_HY f A W R F S s) {v : Nat} (hv : v < 4) (post : Int32 → Prop) : ∀ d i z, i + d = 4096 → post (lj_va f (nI v) d i z) → wY_values_4 post (nI v) A W R F S s (d + 1) z (nI i) := by
  intro d
  induction d with
  | zero =>
    intro i z hi h
    exact br_t (lj_ge lj_k4096 (by omega) (by omega)) h
  | succ d ih =>
    intro i z hi h
    refine br_f (lj_nge lj_k4096 (by omega) (by omega)) (lj_vaY hv (br_f lj_10 (H i _ (by omega) (lj_sw (fun e => nm_r (nI_1 i) (ih (i + 1) z (by omega) ?_)) (fun e => lj_ty (nm_e (nm_r (nI_1 i) (ih (i + 1) _ (by omega) ?_))))))))
    · rw [lj_va, e] at h; exact h
    · rw [lj_va, e] at h; exact h
-- countWith
def lj_w (f : Nat → Bool) (v x : Int32) (i : Nat) : Bool := decide (lj_t (nI i) v = x) && f i
theorem lj_xcw {f : Nat → Bool} {A : Int32} {C : Nat → Int64} {R F S : Nat → Int32} (H : lj_HX f A C R F S) (v x : Int32) (post : Int32 → Prop) : ∀ d i k, i + d = 4096 → post (nI (k + lj_cn (lj_w f v x) d i)) → wX_countWith_14 post v x A C R F S (d + 1) (nI k) (nI i) := by
  intro d
  induction d with
  | zero =>
    intro i k hi h
    exact br_t (lj_ge lj_k4096 (by omega) (by omega)) h
  | succ d ih =>
    intro i k hi h
    refine br_f (lj_nge lj_k4096 (by omega) (by omega)) (lj_tx (br_c (fun z => H i _ (by omega) (lj_sw (fun e => nm_r (nI_1 i) (ih (i + 1) k (by omega) ?_)) (fun e => nm_r (nI_1 k) (nm_r (nI_1 i) (ih (i + 1) (k + 1) (by omega) ?_))))) (fun z => nm_r (nI_1 i) (ih (i + 1) k (by omega) ?_))))
    · rw [lj_cnf (f := lj_w f v x) (by simp [lj_w, e])]; exact h
    · rw [lj_cnt (f := lj_w f v x) (by simp [lj_w, e, z])]; exact h
    · rw [lj_cnf (f := lj_w f v x) (by simp [lj_w, z])]; exact h
theorem lj_ycw {f : Nat → Bool} {A : Int32} {W R F S s : Nat → Int32} (H : lj_HY f A W R F S s) {v : Nat} (hv : v < 4) (x : Int32) (post : Int32 → Prop) : ∀ d i k, i + d = 4096 → post (nI (k + lj_cn (lj_w f (nI v) x) d i)) → wY_countWith_5 post (nI v) x A W R F S s (d + 1) (nI k) (nI i) := by
  intro d
  induction d with
  | zero =>
    intro i k hi h
    exact br_t (lj_ge lj_k4096 (by omega) (by omega)) h
  | succ d ih =>
    intro i k hi h
    refine br_f (lj_nge lj_k4096 (by omega) (by omega)) (lj_vaY hv (br_f lj_10 (lj_ty (br_c (fun z => H i _ (by omega) (lj_sw (fun e => nm_r (nI_1 i) (ih (i + 1) k (by omega) ?_)) (fun e => nm_r (nI_1 k) (nm_r (nI_1 i) (ih (i + 1) (k + 1) (by omega) ?_))))) (fun z => nm_r (nI_1 i) (ih (i + 1) k (by omega) ?_))))))
    · rw [lj_cnf (f := lj_w f (nI v) x) (by simp [lj_w, e])]; exact h
    · rw [lj_cnt (f := lj_w f (nI v) x) (by simp [lj_w, e, z])]; exact h
    · rw [lj_cnf (f := lj_w f (nI v) x) (by simp [lj_w, z])]; exact h
