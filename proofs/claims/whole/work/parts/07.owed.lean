-- one number of atoms, the same atoms; the same pairs, a long a relation here, an int a row there
def i_Rel (_ : Nat) (u : SX) (v : SY) : Prop := ∃ (m : Nat) (C : Nat → Int64) (W R F S s : Nat → Int32), u = (nI m, C, R, F, S) ∧ v = (nI m, W, R, F, S, s) ∧ lj_OK m R F S ∧ lj_CW C W
theorem i_up {k : Nat} {u : SX} {v : SY} (h : i_Rel k u v) : i_Rel (k + 5) u v := h
theorem i_vc0 : wpX_init (fun u => wpY_init (fun v => i_Rel 0 u v)) := by
  refine ⟨0, fun _ => 0, fun _ => 0, fun _ => 0, fun _ => 0, fun _ => 0, fun _ => 0, rfl, rfl, ⟨by omega, fun _ => ⟨0, by omega, rfl⟩, fun _ => ⟨0, by omega, rfl⟩, fun _ => ⟨0, by omega, rfl⟩⟩, ?_⟩
  intro r x y _ _ _
  rw [lj_L0, b_0]
theorem i_vc_pair {k : Nat} {u : SX} {v : SY} (I : i_Rel k u v) (hk : k + 5 ≤ 2560) (v1 : Int32) (v2 : Int32) (v3 : Int32) (v4 : Int32) : wpX_pair (fun r u' => wpY_pair (fun r' v' => r' = r ∧ i_Rel (k + 5) u' v') v v1 v2 v3 (lw_bz v4)) u v1 v2 v3 (lw_bz v4) := by
  obtain ⟨m, C, W, R, F, S, s, rfl, rfl, hO, hC⟩ := I
  have J : i_Rel (k + 5) (nI m, C, R, F, S) (nI m, W, R, F, S, s) := ⟨m, C, W, R, F, S, s, rfl, rfl, hO, hC⟩
  rcases lj_relO v1 with ⟨a, ha, rfl⟩ | h1
  · rcases lj_thO v2 with ⟨x, hx, rfl⟩ | h2
    · rcases lj_thO v3 with ⟨y, hy, rfl⟩ | h3
      · rcases lw_bz_01 v4 with e | e
        · rw [e]
          exact lj_xpair0 ha hx hy (lj_ypair0 ha hx hy ⟨rfl, m, _, _, R, F, S, s, rfl, rfl, hO, lj_CWcl hC hx hy⟩)
        · rw [e]
          exact lj_xpair1 ha hx hy lj_10 (lj_ypair1 ha hx hy lj_10 ⟨rfl, m, _, _, R, F, S, s, rfl, rfl, hO, lj_CWor hC hx hy⟩)
      · unfold wpX_pair wpY_pair
        dsimp only
        exact lj_relX ha (br_f lj_10 (lj_thX hx (br_f lj_10 (h3.1 _ (br_t rfl (lj_relY ha (br_f lj_10 (lj_thY hx (br_f lj_10 (h3.2 _ _ (br_t rfl ⟨rfl, J⟩)))))))))))
    · unfold wpX_pair wpY_pair
      dsimp only
      exact lj_relX ha (br_f lj_10 (h2.1 _ (br_t rfl (lj_relY ha (br_f lj_10 (h2.2 _ _ (br_t rfl ⟨rfl, J⟩)))))))
  · unfold wpX_pair wpY_pair
    dsimp only
    exact h1.1 _ (br_t rfl (h1.2 _ _ (br_t rfl ⟨rfl, J⟩)))
theorem i_vc_size {k : Nat} {u : SX} {v : SY} (I : i_Rel k u v) (hk : k + 5 ≤ 2560) (v1 : Int32) : wpX_size (fun r => wpY_size (fun r' => r' = r ∧ i_Rel (k + 5) u v) v v1) u v1 := by
  obtain ⟨m, C, W, R, F, S, s, rfl, rfl, hO, hC⟩ := I
  have J : i_Rel (k + 5) (nI m, C, R, F, S) (nI m, W, R, F, S, s) := ⟨m, C, W, R, F, S, s, rfl, rfl, hO, hC⟩
  rcases lj_relO v1 with ⟨a, ha, rfl⟩ | h1
  · unfold wpX_size
    dsimp only
    rw [nI_clamp (n := a) (by omega)]
    exact lj_relX ha (br_f lj_10 ⟨vp_in_nI ha (by omega), lj_XB ⟨65, lj_ysz ha hC _ 64 0 0 rfl ⟨by rw [Nat.zero_add], J⟩⟩⟩)
  · unfold wpX_size
    dsimp only
    refine h1.1 _ (br_t rfl ⟨1, br_f (by decide) (h1.2 _ _ (br_t rfl ?_))⟩)
    unfold wY_size_48
    exact h1.2 _ _ (br_t rfl ⟨rfl, J⟩)
theorem lj_okU {m : Nat} {R F S : Nat → Int32} (hO : lj_OK m R F S) (hm : m < 5) {a b c : Nat} (ha : a < 3) (hb : b < 4) (hc : c < 4) : lj_OK (m + 1) (upd R m (nI a)) (upd F m (nI b)) (upd S m (nI c)) := by
  obtain ⟨h0, h1, h2, h3⟩ := hO
  refine ⟨by omega, fun i => ?_, fun i => ?_, fun i => ?_⟩
  · by_cases e : i = m
    · subst e; rw [pk_us]; exact ⟨a, ha, rfl⟩
    · rw [pk_un e]; exact h1 i
  · by_cases e : i = m
    · subst e; rw [pk_us]; exact ⟨b, hb, rfl⟩
    · rw [pk_un e]; exact h2 i
  · by_cases e : i = m
    · subst e; rw [pk_us]; exact ⟨c, hc, rfl⟩
    · rw [pk_un e]; exact h3 i
theorem i_vc_atom {k : Nat} {u : SX} {v : SY} (I : i_Rel k u v) (hk : k + 5 ≤ 2560) (v1 : Int32) (v2 : Int32) (v3 : Int32) : wpX_atom (fun r u' => wpY_atom (fun r' v' => r' = r ∧ i_Rel (k + 5) u' v') v v1 v2 v3) u v1 v2 v3 := by
  obtain ⟨m, C, W, R, F, S, s, rfl, rfl, hO, hC⟩ := I
  have J : i_Rel (k + 5) (nI m, C, R, F, S) (nI m, W, R, F, S, s) := ⟨m, C, W, R, F, S, s, rfl, rfl, hO, hC⟩
  have hm : m ≤ 5 := hO.1
  unfold wpX_atom wpY_atom
  dsimp only
  rw [nI_clamp (n := m) (by omega)]
  rcases lj_relO v1 with ⟨a, ha, rfl⟩ | h1
  · refine lj_relX ha (br_f lj_10 ?_)
    rcases lj_vaO v2 with ⟨b, hb, rfl⟩ | h2
    · refine lj_vaX hb (br_f lj_10 ?_)
      rcases lj_vaO v3 with ⟨c, hc, rfl⟩ | h3
      · refine lj_vaX hc (br_f lj_10 ?_)
        rcases Nat.lt_or_ge m 5 with h5 | h5
        · have i5 : vp_in (nI m) 5 := vp_in_nI h5 (by omega)
          have l5 : nI m < 5 := by rw [← lj_k5]; exact nI_lt h5 (by omega)
          refine br_t l5 ⟨i5, nm_e ⟨i5, nm_e ⟨i5, nm_e (nm_r (nI_1 m) ?_)⟩⟩⟩
          refine lj_relY ha (br_f lj_10 (lj_vaY hb (br_f lj_10 (lj_vaY hc (br_f lj_10 (br_t l5 ⟨i5, nm_e ⟨i5, nm_e ⟨i5, nm_e (nm_r (nI_1 m) ?_)⟩⟩⟩))))))
          exact ⟨rfl, m + 1, C, W, _, _, _, s, rfl, rfl, lj_okU hO h5 ha hb hc, hC⟩
        · have l5 : ¬ nI m < 5 := by rw [← lj_k5]; exact nI_nlt h5 (by omega)
          exact br_f l5 (lj_relY ha (br_f lj_10 (lj_vaY hb (br_f lj_10 (lj_vaY hc (br_f lj_10 (br_f l5 ⟨rfl, J⟩)))))))
      · exact h3.1 _ (br_t rfl (lj_relY ha (br_f lj_10 (lj_vaY hb (br_f lj_10 (h3.2 _ _ (br_t rfl ⟨rfl, J⟩)))))))
    · exact h2.1 _ (br_t rfl (lj_relY ha (br_f lj_10 (h2.2 _ _ (br_t rfl ⟨rfl, J⟩)))))
  · exact h1.1 _ (br_t rfl (h1.2 _ _ (br_t rfl ⟨rfl, J⟩)))
theorem i_vc_drop {k : Nat} {u : SX} {v : SY} (I : i_Rel k u v) (hk : k + 5 ≤ 2560) : wpX_drop (fun r u' => wpY_drop (fun r' v' => r' = r ∧ i_Rel (k + 5) u' v') v) u := by
  obtain ⟨m, C, W, R, F, S, s, rfl, rfl, hO, hC⟩ := I
  have J : i_Rel (k + 5) (nI m, C, R, F, S) (nI m, W, R, F, S, s) := ⟨m, C, W, R, F, S, s, rfl, rfl, hO, hC⟩
  cases m with
  | zero => exact br_t rfl (br_t rfl ⟨rfl, J⟩)
  | succ m =>
    have h5 : m + 1 ≤ 5 := hO.1
    have h0 : ¬ nI (m + 1) = 0 := nI_ne0 (by omega) (by omega)
    exact br_f h0 (nm_r (nI_pred m) (br_f h0 (nm_r (nI_pred m) ⟨rfl, m, C, W, R, F, S, s, rfl, rfl, ⟨by omega, hO.2⟩, hC⟩)))
theorem i_vc_count {k : Nat} {u : SX} {v : SY} (I : i_Rel k u v) (hk : k + 5 ≤ 2560) : wpX_count (fun r => wpY_count (fun r' => r' = r ∧ i_Rel (k + 5) u v) v) u := by
  obtain ⟨m, C, W, R, F, S, s, rfl, rfl, hO, hC⟩ := I
  have J : i_Rel (k + 5) (nI m, C, R, F, S) (nI m, W, R, F, S, s) := ⟨m, C, W, R, F, S, s, rfl, rfl, hO, hC⟩
  have HX : lj_HX (fun n => lj_h C R F S m (nI n)) (nI m) C R F S := fun n post hn h => lj_XH hO hn h
  have HY : lj_HY (fun n => lj_h C R F S m (nI n)) (nI m) W R F S s := fun n post hn h => lj_YH hO hC h
  exact lj_XC HX (lj_YC HY ⟨rfl, J⟩)
theorem i_vc_answer {k : Nat} {u : SX} {v : SY} (I : i_Rel k u v) (hk : k + 5 ≤ 2560) (v1 : Int32) : wpX_answer (fun r => wpY_answer (fun r' => r' = r ∧ i_Rel (k + 5) u v) v v1) u v1 := by
  obtain ⟨m, C, W, R, F, S, s, rfl, rfl, hO, hC⟩ := I
  have J : i_Rel (k + 5) (nI m, C, R, F, S) (nI m, W, R, F, S, s) := ⟨m, C, W, R, F, S, s, rfl, rfl, hO, hC⟩
  have HX : lj_HX (fun n => lj_h C R F S m (nI n)) (nI m) C R F S := fun n post hn h => lj_XH hO hn h
  have HY : lj_HY (fun n => lj_h C R F S m (nI n)) (nI m) W R F S s := fun n post hn h => lj_YH hO hC h
  exact ⟨4097, lj_xan HX v1 _ 4096 0 0 rfl ⟨4097, lj_yan HY v1 _ 4096 0 0 rfl ⟨rfl, J⟩⟩⟩
theorem i_vc_seek {k : Nat} {u : SX} {v : SY} (I : i_Rel k u v) (hk : k + 5 ≤ 2560) (v1 : Int32) : wpX_seek (fun r => wpY_seek (fun r' => r' = r ∧ i_Rel (k + 5) u v) v v1) u v1 := by
  obtain ⟨m, C, W, R, F, S, s, rfl, rfl, hO, hC⟩ := I
  have J : i_Rel (k + 5) (nI m, C, R, F, S) (nI m, W, R, F, S, s) := ⟨m, C, W, R, F, S, s, rfl, rfl, hO, hC⟩
  have HX : lj_HX (fun n => lj_h C R F S m (nI n)) (nI m) C R F S := fun n post hn h => lj_XH hO hn h
  have HY : lj_HY (fun n => lj_h C R F S m (nI n)) (nI m) W R F S s := fun n post hn h => lj_YH hO hC h
  obtain ⟨r, hx, hy⟩ := lj_seek HX HY v1
  exact hx _ (hy _ ⟨rfl, J⟩)
theorem i_vc_values {k : Nat} {u : SX} {v : SY} (I : i_Rel k u v) (hk : k + 5 ≤ 2560) (v1 : Int32) : wpX_values (fun r => wpY_values (fun r' => r' = r ∧ i_Rel (k + 5) u v) v v1) u v1 := by
  obtain ⟨m, C, W, R, F, S, s, rfl, rfl, hO, hC⟩ := I
  have J : i_Rel (k + 5) (nI m, C, R, F, S) (nI m, W, R, F, S, s) := ⟨m, C, W, R, F, S, s, rfl, rfl, hO, hC⟩
  have HX : lj_HX (fun n => lj_h C R F S m (nI n)) (nI m) C R F S := fun n post hn h => lj_XH hO hn h
  have HY : lj_HY (fun n => lj_h C R F S m (nI n)) (nI m) W R F S s := fun n post hn h => lj_YH hO hC h
  unfold wpX_values
  dsimp only
  rcases lj_vaO v1 with ⟨a, ha, rfl⟩ | h1
  · exact lj_vaX ha (br_f lj_10 ⟨4097, lj_xva HX (nI a) _ 4096 0 0 rfl ⟨4097, lj_yva HY ha _ 4096 0 0 rfl ⟨rfl, J⟩⟩⟩)
  · exact h1.1 _ (br_t rfl ⟨1, br_f (by decide) (h1.2 _ _ (br_t rfl ⟨rfl, J⟩))⟩)
theorem i_vc_countWith {k : Nat} {u : SX} {v : SY} (I : i_Rel k u v) (hk : k + 5 ≤ 2560) (v1 : Int32) (v2 : Int32) : wpX_countWith (fun r => wpY_countWith (fun r' => r' = r ∧ i_Rel (k + 5) u v) v v1 v2) u v1 v2 := by
  obtain ⟨m, C, W, R, F, S, s, rfl, rfl, hO, hC⟩ := I
  have J : i_Rel (k + 5) (nI m, C, R, F, S) (nI m, W, R, F, S, s) := ⟨m, C, W, R, F, S, s, rfl, rfl, hO, hC⟩
  have HX : lj_HX (fun n => lj_h C R F S m (nI n)) (nI m) C R F S := fun n post hn h => lj_XH hO hn h
  have HY : lj_HY (fun n => lj_h C R F S m (nI n)) (nI m) W R F S s := fun n post hn h => lj_YH hO hC h
  unfold wpX_countWith
  dsimp only
  rcases lj_vaO v1 with ⟨a, ha, rfl⟩ | h1
  · exact lj_vaX ha (br_f lj_10 ⟨4097, lj_xcw HX (nI a) v2 _ 4096 0 0 rfl ⟨4097, lj_ycw HY ha v2 _ 4096 0 0 rfl ⟨rfl, J⟩⟩⟩)
  · exact h1.1 _ (br_t rfl ⟨1, br_f (by decide) (h1.2 _ _ (br_t rfl ⟨rfl, J⟩))⟩)
theorem i_vc_holds {k : Nat} {u : SX} {v : SY} (I : i_Rel k u v) (hk : k + 5 ≤ 2560) (v1 : Int32) : wpX_holds (fun r => wpY_holds (fun r' => r' = r ∧ i_Rel (k + 5) u v) v v1) u v1 := by
  obtain ⟨m, C, W, R, F, S, s, rfl, rfl, hO, hC⟩ := I
  have J : i_Rel (k + 5) (nI m, C, R, F, S) (nI m, W, R, F, S, s) := ⟨m, C, W, R, F, S, s, rfl, rfl, hO, hC⟩
  rcases pk_ix v1 (n := 4096) (by omega) with h | h | ⟨n, hn, rfl⟩
  · exact br_t h (br_t h ⟨rfl, J⟩)
  · have hh := lj_in0 (K := 4096) lj_k4096 rfl (by omega) (by omega) h
    exact br_f hh.1 (br_f (Int32.not_lt.mpr hh.2.1) (br_f hh.1 (br_t hh.2.1 ⟨rfl, J⟩)))
  · refine lj_XH hO hn ?_
    refine br_f (nI_pos (by omega)) (br_f (lj_nge lj_k4096 hn (by omega)) (lj_YH hO hC ?_))
    cases lj_h C R F S m (nI n) with
    | false => exact br_t rfl ⟨rfl, J⟩
    | true => exact br_f lj_10 ⟨rfl, J⟩
theorem i_vc_pairs {k : Nat} {u : SX} {v : SY} (I : i_Rel k u v) (hk : k + 5 ≤ 2560) (v1 : Int32) (v2 : Int32) : wpX_pairs (fun r => wpY_pairs (fun r' v' => r' = r ∧ i_Rel (k + 5) u v') v v1 v2) u v1 v2 := by
  obtain ⟨m, C, W, R, F, S, s, rfl, rfl, hO, hC⟩ := I
  have HX : lj_HX (fun n => lj_h C R F S m (nI n)) (nI m) C R F S := fun n post hn h => lj_XH hO hn h
  have HY : ∀ s, lj_HY (fun n => lj_h C R F S m (nI n)) (nI m) W R F S s := fun s n post hn h => lj_YH hO hC h
  obtain ⟨r, hx, hy⟩ := lj_pairs (s := s) HX HY v1 v2
  exact hx _ (hy _ (fun q => ⟨rfl, m, C, W, R, F, S, q, rfl, rfl, hO, hC⟩))
theorem i_vc_loss {k : Nat} {u : SX} {v : SY} (I : i_Rel k u v) (hk : k + 5 ≤ 2560) (v1 : Int32) (v2 : Int32) (v3 : Int32) : wpX_loss (fun r => wpY_loss (fun r' v' => r' = r ∧ i_Rel (k + 5) u v') v v1 v2 v3) u v1 v2 v3 := by
  obtain ⟨m, C, W, R, F, S, s, rfl, rfl, hO, hC⟩ := I
  have J : i_Rel (k + 5) (nI m, C, R, F, S) (nI m, W, R, F, S, s) := ⟨m, C, W, R, F, S, s, rfl, rfl, hO, hC⟩
  rcases lj_relO v1 with ⟨a, ha, rfl⟩ | h1
  · rcases lj_thO v2 with ⟨x, hx, rfl⟩ | h2
    · rcases lj_thO v3 with ⟨y, hy, rfl⟩ | h3
      · obtain ⟨r, hX, hY⟩ := lj_loss (s := s) hO hC ha hx hy
        exact hX _ (hY _ (fun W' hW => ⟨rfl, m, C, W', R, F, S, s, rfl, rfl, hO, hW⟩))
      · unfold wpX_loss wpY_loss
        dsimp only
        exact lj_relX ha (br_f lj_10 (lj_thX hx (br_f lj_10 (h3.1 _ (br_t rfl (lj_relY ha (br_f lj_10 (lj_thY hx (br_f lj_10 (h3.2 _ _ (br_t rfl ⟨rfl, J⟩)))))))))))
    · unfold wpX_loss wpY_loss
      dsimp only
      exact lj_relX ha (br_f lj_10 (h2.1 _ (br_t rfl (lj_relY ha (br_f lj_10 (h2.2 _ _ (br_t rfl ⟨rfl, J⟩)))))))
  · unfold wpX_loss wpY_loss
    dsimp only
    exact h1.1 _ (br_t rfl (h1.2 _ _ (br_t rfl ⟨rfl, J⟩)))
theorem i_vc_partners {k : Nat} {u : SX} {v : SY} (I : i_Rel k u v) (hk : k + 5 ≤ 2560) (v1 : Int32) (v2 : Int32) (v3 : Int32) : wpX_partners (fun r => wpY_partners (fun r' => r' = r ∧ i_Rel (k + 5) u v) v v1 v2 v3) u v1 v2 v3 := by
  obtain ⟨m, C, W, R, F, S, s, rfl, rfl, hO, hC⟩ := I
  have J : i_Rel (k + 5) (nI m, C, R, F, S) (nI m, W, R, F, S, s) := ⟨m, C, W, R, F, S, s, rfl, rfl, hO, hC⟩
  unfold wpX_partners
  dsimp only
  rcases lj_relO v1 with ⟨a, ha, rfl⟩ | h1
  · refine lj_relX ha (br_f lj_10 ?_)
    rcases lj_thO v2 with ⟨x, hx, rfl⟩ | h2
    · refine lj_thX hx (br_f lj_10 ?_)
      rcases pk_ix v3 (n := 2) (by omega) with h | h | ⟨w, hw, rfl⟩
      · refine br_t h ⟨9, lj_ypaO ha hx (fun z => ?_) (fun z => ?_) _ ⟨rfl, J⟩ 8 0 rfl⟩
        · subst z; exact absurd h (by decide)
        · subst z; exact absurd h (by decide)
      · have hh := lj_in0 (K := 2) lj_k2 rfl (by omega) (by omega) h
        refine br_f hh.1 (br_f (Int32.not_le.mpr hh.2.2) ⟨9, lj_ypaO ha hx (fun z => ?_) (fun z => ?_) _ ⟨rfl, J⟩ 8 0 rfl⟩)
        · subst z; exact absurd h (by decide)
        · subst z; exact absurd h (by decide)
      · have hw' : w = 0 ∨ w = 1 := by omega
        rcases hw' with rfl | rfl
        · exact br_f (by decide) (br_t (by decide) ⟨9, lj_xpa0 ha hx _ 8 0 0 rfl ⟨9, lj_ypa0 ha hx hC _ 8 0 0 rfl ⟨rfl, J⟩⟩⟩)
        · exact br_f (by decide) (br_t (by decide) ⟨9, lj_xpa1 ha hx _ 8 0 0 rfl ⟨9, lj_ypa1 ha hx hC _ 8 0 0 rfl ⟨rfl, J⟩⟩⟩)
    · exact h2.1 _ (br_t rfl ⟨1, br_f (by decide) (lj_relY ha (br_f lj_10 (h2.2 _ _ (br_t rfl ⟨rfl, J⟩))))⟩)
  · exact h1.1 _ (br_t rfl ⟨1, br_f (by decide) (h1.2 _ _ (br_t rfl ⟨rfl, J⟩))⟩)
