/-! what is owed: the rest -/
theorem i_vc_longest {k : Nat} {u : SX} {v : SY} (I : i_Rel k u v) (hk : k + 3 ≤ 1538) (v1 : Int32) : wpX_longest (fun r u' => wpY_longest (fun r' => r' = r ∧ i_Rel (k + 3) u' v) v v1) u v1 := by
  obtain ⟨w, h, sf, tl, ti, un, be, mu, pa, ne, ask, wy, ct, O, rfl, rfl⟩ := I
  have hw := O.1.2.1
  have hh := O.1.2.2.2
  unfold wpX_longest wpY_longest
  dsimp only
  refine cx_isThread hw hh (fun a => br_f cg_10 ?_) (fun a => br_t rfl (cy_isThread hw hh (fun b => absurd b a) (fun b => br_t rfl ⟨rfl, cz_rel O⟩)))
  obtain ⟨t, ht16, ht, rfl⟩ := ci_t_16 hw hh a
  refine cx_findUnder O (fun un' U => ?_)
  try dsimp only
  have tq := cd_th_iff.mp ht
  have h8 := cy_cr8 O t
  refine cx_isWarp hw (fun b => br_f cg_10 ⟨vp_in_nI ht16 (by omega), ?_⟩) (fun b => br_t rfl ⟨vp_in_nI ht16 (by omega), ?_⟩)
  · obtain ⟨j, hj, ej⟩ := b
    rw [nI_eq (by omega) (by omega)] at ej
    have e : cf_cr w h t = h := if_pos (by omega)
    rw [nI_clamp (n := t) (by omega)]
    refine cx_longestRun hh ?_
    refine cy_isThread hw hh (fun _ => br_f cg_10 ⟨cf_cr w h t + 1, cy_lg O ht16 ⟨?_, cz_rel O⟩ (cf_cr w h t + 1) 0 (by omega) (by omega)⟩) (fun q => absurd a q)
    rw [e]
    exact ci_run (fun i hi => (cj_lw hw hh U (by omega) hi).symm)
  · have ht8 : 8 ≤ t ∧ t < 8 + h := by
      rcases tq with q | q
      · exact absurd ⟨t, q, rfl⟩ b
      · exact q
    have e : cf_cr w h t = w := if_neg (by omega)
    rw [nI_clamp (n := t) (by omega)]
    refine cx_longestRun hw ?_
    refine cy_isThread hw hh (fun _ => br_f cg_10 ⟨cf_cr w h t + 1, cy_lg O ht16 ⟨?_, cz_rel O⟩ (cf_cr w h t + 1) 0 (by omega) (by omega)⟩) (fun q => absurd a q)
    rw [e]
    exact ci_run (fun i hi => (cj_lf hw hh U ht8.1 ht8.2 hi).symm)
theorem i_vc_over {k : Nat} {u : SX} {v : SY} (I : i_Rel k u v) (hk : k + 3 ≤ 1538) (v1 : Int32) : wpX_over (fun r u' => wpY_over (fun r' => r' = r ∧ i_Rel (k + 3) u' v) v v1) u v1 := by
  obtain ⟨w, h, sf, tl, ti, un, be, mu, pa, ne, ask, wy, ct, O, rfl, rfl⟩ := I
  have hw := O.1.2.1
  have hh := O.1.2.2.2
  unfold wpX_over wpY_over
  dsimp only
  refine cx_isThread hw hh (fun a => br_f cg_10 ?_) (fun a => br_t rfl (cy_isThread hw hh (fun b => absurd b a) (fun b => br_t rfl ⟨rfl, cz_rel O⟩)))
  obtain ⟨t, ht16, ht, rfl⟩ := ci_t_16 hw hh a
  refine cx_findUnder O (fun un' U => ?_)
  try dsimp only
  refine ⟨vp_in_nI ht16 (by omega), ?_⟩
  rw [nI_clamp (n := t) (by omega)]
  refine cx_sizeOf ?_
  refine cy_isThread hw hh (fun _ => br_f cg_10 ⟨cf_cr w h t + 1, cy_ov O ht16 ⟨?_, cz_rel O⟩ (cf_cr w h t + 1) 0 (by omega) (by omega)⟩) (fun q => absurd a q)
  rw [cj_over hw hh U ht]
theorem i_vc_shafts {k : Nat} {u : SX} {v : SY} (I : i_Rel k u v) (hk : k + 3 ≤ 1538) : wpX_shafts (fun r u' => wpY_shafts (fun r' => r' = r ∧ i_Rel (k + 3) u' v) v) u := by
  obtain ⟨w, h, sf, tl, ti, un, be, mu, pa, ne, ask, wy, ct, O, rfl, rfl⟩ := I
  have hw := O.1.2.1
  have hh := O.1.2.2.2
  unfold wpX_shafts wpY_shafts
  dsimp only
  refine cx_findUnder O (fun un' U => ?_)
  try dsimp only
  refine cx_countDifferent (f := 0) (m := w) (by omega) ?_
  refine cy_different (f := 0) (m := w) O (by omega) ⟨?_, cz_rel O⟩
  apply congrArg nI
  apply cd_cn_c
  intro j hj
  refine cf_nw_c (fun s hs _ => ?_)
  exact (cj_eq hw hh U (cd_th_iff.mpr (Or.inl (by omega))) (cd_th_iff.mpr (Or.inl (by omega))) (by omega)).symm
theorem i_vc_treadles {k : Nat} {u : SX} {v : SY} (I : i_Rel k u v) (hk : k + 3 ≤ 1538) : wpX_treadles (fun r u' => wpY_treadles (fun r' => r' = r ∧ i_Rel (k + 3) u' v) v) u := by
  obtain ⟨w, h, sf, tl, ti, un, be, mu, pa, ne, ask, wy, ct, O, rfl, rfl⟩ := I
  have hw := O.1.2.1
  have hh := O.1.2.2.2
  unfold wpX_treadles wpY_treadles
  dsimp only
  refine cx_findUnder O (fun un' U => ?_)
  try dsimp only
  refine cx_countDifferent (f := 8) (m := h) (by omega) ?_
  refine cy_different (f := 8) (m := h) O (by omega) ⟨?_, cz_rel O⟩
  apply congrArg nI
  apply cd_cn_c
  intro j hj
  refine cf_nw_c (fun s hs _ => ?_)
  exact (cj_eq hw hh U (cd_th_iff.mpr (Or.inr (by omega))) (cd_th_iff.mpr (Or.inr (by omega))) (by omega)).symm
theorem i_vc_liftable {k : Nat} {u : SX} {v : SY} (I : i_Rel k u v) (hk : k + 3 ≤ 1538) (v1 : Int32) : wpX_liftable (fun r u' => wpY_liftable (fun r' => r' = r ∧ i_Rel (k + 3) u' v) v v1) u v1 := by
  obtain ⟨w, h, sf, tl, ti, un, be, mu, pa, ne, ask, wy, ct, O, rfl, rfl⟩ := I
  unfold wpX_liftable
  dsimp only
  refine cx_findUnder O (fun un' U => ?_)
  try dsimp only
  refine ⟨17, cx_li O U (fun a => ?_) (fun a => ?_) 17 0 (by omega) (by omega) (fun s hs => absurd hs (Nat.not_lt_zero s))⟩
  · exact cy_liftable O (fun _ => ⟨rfl, cz_rel O⟩) (fun b => (cd_tf b a).elim)
  · exact cy_liftable O (fun b => (cd_tf a b).elim) (fun _ => ⟨rfl, cz_rel O⟩)
theorem i_vc_hangs {k : Nat} {u : SX} {v : SY} (I : i_Rel k u v) (hk : k + 3 ≤ 1538) : wpX_hangs (fun r u' => wpY_hangs (fun r' v' => r' = r ∧ i_Rel (k + 3) u' v') v) u := by
  obtain ⟨w, h, sf, tl, ti, un, be, mu, pa, ne, ask, wy, ct, O, rfl, rfl⟩ := I
  have hw := O.1.2.1
  have C := cd_rr_Cl (ci_A sf tl ti) (h := h) hw
  unfold wpX_hangs wpY_hangs
  dsimp only
  refine cx_findBeneath O (fun un' be' B => ?_)
  try dsimp only
  refine cx_countKnots C B ?_
  refine br_c (fun a => ?_) (fun a => ?_)
  · refine cy_work O (fun mu' pa' ne' M P => ?_)
    try dsimp only
    exact br_t a ⟨rfl, cz_rel O⟩
  · refine cy_work O (fun mu' pa' ne' M P => ?_)
    try dsimp only
    exact br_f a ⟨rfl, cz_rel O⟩
theorem i_vc_layers {k : Nat} {u : SX} {v : SY} (I : i_Rel k u v) (hk : k + 3 ≤ 1538) : wpX_layers (fun r u' => wpY_layers (fun r' v' => r' = r ∧ i_Rel (k + 3) u' v') v) u := by
  obtain ⟨w, h, sf, tl, ti, un, be, mu, pa, ne, ask, wy, ct, O, rfl, rfl⟩ := I
  have hw := O.1.2.1
  have C := cd_rr_Cl (ci_A sf tl ti) (h := h) hw
  unfold wpX_layers wpY_layers
  dsimp only
  refine cx_findBeneath O (fun un' be' B => ?_)
  try dsimp only
  refine cx_countKnots C B ?_
  refine cy_work O (fun mu' pa' ne' M P => ?_)
  try dsimp only
  exact ⟨rfl, cz_rel O⟩
theorem i_vc_together {k : Nat} {u : SX} {v : SY} (I : i_Rel k u v) (hk : k + 3 ≤ 1538) (v1 : Int32) (v2 : Int32) : wpX_together (fun r u' => wpY_together (fun r' v' => r' = r ∧ i_Rel (k + 3) u' v') v v1 v2) u v1 v2 := by
  obtain ⟨w, h, sf, tl, ti, un, be, mu, pa, ne, ask, wy, ct, O, rfl, rfl⟩ := I
  have hw := O.1.2.1
  have hh := O.1.2.2.2
  have C := cd_rr_Cl (ci_A sf tl ti) (h := h) hw
  unfold wpX_together wpY_together
  dsimp only
  refine cx_isThread hw hh (fun a => br_f cg_10 ?_) (fun a => br_t rfl (cy_isThread hw hh (fun b => absurd b a) (fun b => br_t rfl ⟨rfl, cz_rel O⟩)))
  refine cx_isThread hw hh (fun b => br_f cg_10 ?_) (fun b => br_t rfl (cy_isThread hw hh (fun _ => br_f cg_10 (cy_isThread hw hh (fun d => absurd d b) (fun d => br_t rfl ⟨rfl, cz_rel O⟩))) (fun c => absurd a c)))
  obtain ⟨s, hs16, hs, rfl⟩ := ci_t_16 hw hh a
  obtain ⟨t, ht16, ht, rfl⟩ := ci_t_16 hw hh b
  refine cx_findBeneath O (fun un' be' B => ⟨vp_in_nI hs16 (by omega), vp_in_nI ht16 (by omega), ?_⟩)
  rw [nI_clamp (n := s) (by omega), nI_clamp (n := t) (by omega)]
  have rs : (cd_rr (ci_A sf tl ti) w h) s s = true := by rw [cd_rr_th]; exact hs
  have rt : (cd_rr (ci_A sf tl ti) w h) t t = true := by rw [cd_rr_th]; exact ht
  refine cg_if (cg_be_eq C B hs16 ht16 rt) (fun e => ?_) (fun e => ?_)
  · refine cy_isThread hw hh (fun _ => br_f cg_10 (cy_isThread hw hh (fun _ => br_f cg_10 (cy_work O (fun mu' pa' ne' M P => ?_))) (fun q => absurd b q))) (fun q => absurd a q)
    exact cy_held M hs16 ht16 rs rt (fun _ => br_f cg_10 ⟨rfl, cz_rel O⟩) (fun e' => (cd_tf e' e).elim)
  · refine cy_isThread hw hh (fun _ => br_f cg_10 (cy_isThread hw hh (fun _ => br_f cg_10 (cy_work O (fun mu' pa' ne' M P => ?_))) (fun q => absurd b q))) (fun q => absurd a q)
    exact cy_held M hs16 ht16 rs rt (fun e' => (cd_tf e e').elim) (fun _ => br_t rfl ⟨rfl, cz_rel O⟩)
theorem i_vc_lifts {k : Nat} {u : SX} {v : SY} (I : i_Rel k u v) (hk : k + 3 ≤ 1538) : wpX_lifts (fun r u' => wpY_lifts (fun r' v' => r' = r ∧ i_Rel (k + 3) u' v') v) u := by
  obtain ⟨w, h, sf, tl, ti, un, be, mu, pa, ne, ask, wy, ct, O, rfl, rfl⟩ := I
  have hw := O.1.2.1
  have hh := O.1.2.2.2
  have C := cd_rr_Cl (ci_A sf tl ti) (h := h) hw
  have hr : ∀ i, (cd_rr (ci_A sf tl ti) w h) i i = true → i < 16 := fun i hi => ce_th16 hw hh (by rw [← cd_rr_th (A := ci_A sf tl ti)]; exact hi)
  unfold wpX_lifts wpY_lifts
  dsimp only
  refine cx_findBeneath O (fun un' be' B => ⟨17, cx_lf C B ?_ 17 0 (by omega) (by omega)⟩)
  refine cy_work O (fun mu' pa' ne' M P => ?_)
  try dsimp only
  refine cy_sweep C hr M P (fun ask' a _ => ?_)
  try dsimp only
  exact ⟨cj_m2 _, cz_rel O⟩
theorem i_vc_divisions {k : Nat} {u : SX} {v : SY} (I : i_Rel k u v) (hk : k + 3 ≤ 1538) : wpX_divisions (fun r u' => wpY_divisions (fun r' v' => r' = r ∧ i_Rel (k + 3) u' v') v) u := by
  obtain ⟨w, h, sf, tl, ti, un, be, mu, pa, ne, ask, wy, ct, O, rfl, rfl⟩ := I
  have hw := O.1.2.1
  have hh := O.1.2.2.2
  have C := cd_rr_Cl (ci_A sf tl ti) (h := h) hw
  have hr : ∀ i, (cd_rr (ci_A sf tl ti) w h) i i = true → i < 16 := fun i hi => ce_th16 hw hh (by rw [← cd_rr_th (A := ci_A sf tl ti)]; exact hi)
  unfold wpX_divisions wpY_divisions
  dsimp only
  refine cx_findBeneath O (fun un' be' B => ⟨17, cx_dv C B ?_ 17 0 (by omega) (by omega)⟩)
  refine cy_work O (fun mu' pa' ne' M P => ?_)
  try dsimp only
  refine cy_sweep C hr M P (fun ask' a V => ?_)
  try dsimp only
  have hn : cd_cn (cd_fst (cd_rr (ci_A sf tl ti) w h)) 16 ≤ 16 := cd_cn_le _ _
  have hp := cj_pw hn
  have hp1 : 1 ≤ 2 ^ cd_cn (cd_fst (cd_rr (ci_A sf tl ti) w h)) 16 := Nat.two_pow_pos _
  have e1 : nI (2 ^ cd_cn (cd_fst (cd_rr (ci_A sf tl ti) w h)) 16) - 1 = nI (2 ^ cd_cn (cd_fst (cd_rr (ci_A sf tl ti) w h)) 16 - 1) := pk_sub (b := 1) hp1
  rw [ce_sh _ (by omega), e1, nI_clamp (n := 2 ^ cd_cn (cd_fst (cd_rr (ci_A sf tl ti) w h)) 16 - 1) (by omega), V _ (by omega), cd_v_full]
  exact ⟨vp_in_nI (by omega) (by omega), rfl, cz_rel O⟩
