-- range checks: X and Y alike
theorem lj_in0 {K : Nat} {k k1 p : Int32} (hk : nI K = k) (hp : nI (K - 1) = k1) (h0 : 0 < K) (hK : K < 2 ^ 31) (h : nI K ≤ p) : ¬ p < 0 ∧ k ≤ p ∧ k1 < p := by
  have h1 : (nI K).toInt = K := nI_toInt hK
  have h2 : (nI (K - 1)).toInt = (K - 1 : Nat) := nI_toInt (by omega)
  have h3 : (0 : Int32).toInt = 0 := by decide
  subst hk hp
  rw [Int32.le_iff_toInt_le] at h
  refine ⟨?_, ?_, ?_⟩
  · rw [Int32.lt_iff_toInt_lt]; omega
  · rw [Int32.le_iff_toInt_le]; omega
  · rw [Int32.lt_iff_toInt_lt]; omega
theorem lj_relO (p : Int32) : (∃ a, a < 3 ∧ p = nI a) ∨ ((∀ post : Int32 → Prop, post 0 → wpX_isRelation post p) ∧ (∀ (post : Int32 → Prop) (v : SY), post 0 → wpY_relation post v p)) := by
  rcases pk_ix p (n := 3) (by omega) with h | h | h
  · exact Or.inr ⟨fun post hp => br_t h hp, fun post v hp => by rcases v with ⟨a, b, c, d, e, f⟩; exact br_t h hp⟩
  · have hh := lj_in0 lj_k3 lj_k2 (by omega) (by omega) h
    exact Or.inr ⟨fun post hp => br_f hh.1 (br_t hh.2.1 hp), fun post v hp => by rcases v with ⟨a, b, c, d, e, f⟩; exact br_f hh.1 (br_t hh.2.2 hp)⟩
  · exact Or.inl h
theorem lj_thO (p : Int32) : (∃ a, a < 8 ∧ p = nI a) ∨ ((∀ post : Int32 → Prop, post 0 → wpX_isThing post p) ∧ (∀ (post : Int32 → Prop) (v : SY), post 0 → wpY_thing post v p)) := by
  rcases pk_ix p (n := 8) (by omega) with h | h | h
  · exact Or.inr ⟨fun post hp => br_t h hp, fun post v hp => by rcases v with ⟨a, b, c, d, e, f⟩; exact br_t h hp⟩
  · have hh := lj_in0 lj_k8 lj_k7 (by omega) (by omega) h
    exact Or.inr ⟨fun post hp => br_f hh.1 (br_t hh.2.1 hp), fun post v hp => by rcases v with ⟨a, b, c, d, e, f⟩; exact br_f hh.1 (br_t hh.2.2 hp)⟩
  · exact Or.inl h
theorem lj_vaO (p : Int32) : (∃ a, a < 4 ∧ p = nI a) ∨ ((∀ post : Int32 → Prop, post 0 → wpX_isVariable post p) ∧ (∀ (post : Int32 → Prop) (v : SY), post 0 → wpY_variable post v p)) := by
  rcases pk_ix p (n := 4) (by omega) with h | h | h
  · exact Or.inr ⟨fun post hp => br_t h hp, fun post v hp => by rcases v with ⟨a, b, c, d, e, f⟩; exact br_t h hp⟩
  · have hh := lj_in0 lj_k4 lj_k3 (by omega) (by omega) h
    exact Or.inr ⟨fun post hp => br_f hh.1 (br_t hh.2.1 hp), fun post v hp => by rcases v with ⟨a, b, c, d, e, f⟩; exact br_f hh.1 (br_t hh.2.2 hp)⟩
  · exact Or.inl h
theorem lj_relX {a : Nat} (ha : a < 3) {post : Int32 → Prop} (h : post 1) : wpX_isRelation post (nI a) := br_f (nI_pos (by omega)) (br_f (lj_nge lj_k3 ha (by omega)) h)
theorem lj_thX {a : Nat} (ha : a < 8) {post : Int32 → Prop} (h : post 1) : wpX_isThing post (nI a) := br_f (nI_pos (by omega)) (br_f (lj_nge lj_k8 ha (by omega)) h)
theorem lj_vaX {a : Nat} (ha : a < 4) {post : Int32 → Prop} (h : post 1) : wpX_isVariable post (nI a) := br_f (nI_pos (by omega)) (br_f (lj_nge lj_k4 ha (by omega)) h)
theorem lj_nlt {K : Nat} {k : Int32} (e : nI K = k) {i : Nat} (h : i ≤ K) (hK : K < 2 ^ 31) : ¬ k < nI i := by
  subst e
  exact nI_nlt h hK
theorem lj_relY {a : Nat} (ha : a < 3) {post : Int32 → Prop} {v : SY} (h : post 1) : wpY_relation post v (nI a) := by
  rcases v with ⟨f, W, R, F, S, s⟩
  exact br_f (nI_pos (by omega)) (br_f (lj_nlt lj_k2 (by omega) (by omega)) h)
theorem lj_thY {a : Nat} (ha : a < 8) {post : Int32 → Prop} {v : SY} (h : post 1) : wpY_thing post v (nI a) := by
  rcases v with ⟨f, W, R, F, S, s⟩
  exact br_f (nI_pos (by omega)) (br_f (lj_nlt lj_k7 (by omega) (by omega)) h)
theorem lj_vaY {a : Nat} (ha : a < 4) {post : Int32 → Prop} {v : SY} (h : post 1) : wpY_variable post v (nI a) := by
  rcases v with ⟨f, W, R, F, S, s⟩
  exact br_f (nI_pos (by omega)) (br_f (lj_nlt lj_k3 (by omega) (by omega)) h)
theorem lj_10 : ¬ (1 : Int32) = 0 := by decide
-- counting
def lj_cn (f : Nat → Bool) : Nat → Nat → Nat
  | 0, _ => 0
  | d + 1, i => cond (f i) 1 0 + lj_cn f d (i + 1)
theorem lj_cnC {f g : Nat → Bool} : ∀ d i, (∀ j, i ≤ j → j < i + d → f j = g j) → lj_cn f d i = lj_cn g d i := by
  intro d
  induction d with
  | zero => intro i h; rfl
  | succ d ih =>
    intro i h
    rw [lj_cn, lj_cn, h i (by omega) (by omega), ih (i + 1) (fun j h1 h2 => h j (by omega) (by omega))]
theorem lj_cnS {f g : Nat → Bool} : ∀ d i, lj_cn (fun j => f j && !g j) d i + lj_cn (fun j => f j && g j) d i = lj_cn f d i := by
  intro d
  induction d with
  | zero => intro i; rfl
  | succ d ih =>
    intro i
    have := ih (i + 1)
    simp only [lj_cn]
    cases f i <;> cases g i <;> simp <;> omega
theorem lj_cn1 {f : Nat → Bool} {c : Nat} (hc : f c = false) : ∀ d i, lj_cn (fun j => f j || decide (j = c)) d i = lj_cn f d i + (if i ≤ c ∧ c < i + d then 1 else 0) := by
  intro d
  induction d with
  | zero => intro i; rw [if_neg (by omega)]; rfl
  | succ d ih =>
    intro i
    rw [lj_cn, lj_cn, ih (i + 1)]
    by_cases e : i = c
    · subst e
      rw [hc, if_neg (by omega), if_pos (by omega)]
      simp; omega
    · by_cases z : i ≤ c ∧ c < i + (d + 1)
      · rw [if_pos z, if_pos (by omega)]; simp [e]; omega
      · rw [if_neg z, if_neg (by omega)]; simp [e]
theorem lj_cnle (f : Nat → Bool) : ∀ d i, lj_cn f d i ≤ d := by
  intro d
  induction d with
  | zero => intro i; exact Nat.le_refl _
  | succ d ih =>
    intro i
    have := ih (i + 1)
    rw [lj_cn]
    cases f i <;> simp <;> omega
-- bitsIn, size
theorem lj_xbits (c : Int64) (post : Int32 → Prop) : ∀ d i k, i + d = 64 → post (nI (k + lj_cn (lj_L c) d i)) → wX_bitsIn_4 post c (d + 1) (nI k) (nI i) := by
  intro d
  induction d with
  | zero =>
    intro i k hi h
    exact br_t (lj_ge lj_k64 (by omega) (by omega)) h
  | succ d ih =>
    intro i k hi h
    refine br_f (lj_nge lj_k64 (by omega) (by omega)) (lj_hb (by omega) (lj_sw (fun e => nm_r (nI_1 i) (ih (i + 1) k (by omega) ?_)) (fun e => nm_r (nI_1 k) (nm_r (nI_1 i) (ih (i + 1) (k + 1) (by omega) ?_)))))
    · rw [lj_cn, e] at h; simpa using h
    · rw [lj_cn, e] at h
      rw [show k + 1 + lj_cn (lj_L c) d (i + 1) = k + (cond true 1 0 + lj_cn (lj_L c) d (i + 1)) from by simp; omega]
      exact h
theorem lj_XB {c : Int64} {post : Int32 → Prop} (h : post (nI (lj_cn (lj_L c) 64 0))) : wpX_bitsIn post c := ⟨65, lj_xbits c post 64 0 0 rfl (by rw [Nat.zero_add]; exact h)⟩
theorem lj_ysz {a : Nat} (ha : a < 3) {C : Nat → Int64} {A : Int32} {W R F S s : Nat → Int32} (hC : lj_CW C W) (post : Int32 → Prop) : ∀ d i k, i + d = 64 → post (nI (k + lj_cn (lj_L (C a)) d i)) → wY_size_4 post (nI a) A W R F S s (d + 1) (nI k) (nI i) := by
  intro d
  induction d with
  | zero =>
    intro i k hi h
    refine br_t (lj_ge lj_k64 (by omega) (by omega)) ?_
    unfold wY_size_48
    exact lj_relY ha (br_f lj_10 h)
  | succ d ih =>
    intro i k hi h
    have e1 : nI i / 8 = nI (i / 8) := by rw [← lj_k8]; exact pk_div (by omega) (by omega) (by omega)
    have e2 : nI i - nI (i / 8) * 8 = nI (i % 8) := by rw [← e1, ← lj_k8]; exact pk_rem (by omega) (by omega) (by omega)
    have hq : bt (W (8 * a + i / 8)) (i % 8) = lj_L (C a) i := by
      rw [← hC a (i / 8) (i % 8) ha (by omega) (by omega), show 8 * (i / 8) + i % 8 = i from by omega]
    rw [wY_size_4]
    dsimp only
    rw [e1, e2]
    refine br_f (lj_nge lj_k64 (by omega) (by omega)) (lj_relY ha (br_f lj_10 ⟨by decide, by decide, lj_yin ha (by omega) (by omega) ?_⟩))
    rw [hq]
    refine lj_sw (fun e => nm_r (nI_1 i) (ih (i + 1) k (by omega) ?_)) (fun e => nm_r (nI_1 k) (nm_r (nI_1 i) (ih (i + 1) (k + 1) (by omega) ?_)))
    · rw [lj_cn, e] at h; simpa using h
    · rw [lj_cn, e] at h
      rw [show k + 1 + lj_cn (lj_L (C a)) d (i + 1) = k + (cond true 1 0 + lj_cn (lj_L (C a)) d (i + 1)) from by simp; omega]
      exact h
