/-! the reference: what can be lifted off, its closure, its knots -/
section
variable {w h nw : Nat} {ct : Int32} {sf tl ti mu pa ne ask wy : Nat → Int32}
theorem cy_covers {post : Int32 → Prop} (O : ci_Ok w h sf tl ti) {u t : Nat} (hu : cd_th w h u = true) (ht : cd_th w h t = true) (h1 : cd_ab (ci_A sf tl ti) w h u t = true → post 1) (h0 : cd_ab (ci_A sf tl ti) w h u t = false → post 0) : wpY_covers post (nI w, nI h, ct, sf, tl, ti, mu, pa, ne, ask, wy, nw) (nI u) (nI t) := by
  have hw := O.1.2.1
  have hh := O.1.2.2.2
  have u16 := ce_th16 hw hh hu
  have t16 := ce_th16 hw hh ht
  have tq := cd_th_iff.mp ht
  rw [ch_cov hw hu ht] at h1 h0
  unfold wpY_covers
  try dsimp only
  refine pk_le 8 u (fun a => pk_le 8 t (fun b => ?_) (fun b => ?_)) (fun a => pk_le 8 t (fun b => ?_) (fun b => ?_))
  · exact br_t rfl (h0 (if_pos (by omega)))
  · rw [if_neg (by omega), if_pos (by omega)] at h1 h0
    exact br_f cg_01 (br_f (nI_ge (b := 8) (by omega) (by omega)) (cy_shows O u16 (by omega) (fun z => ⟨rfl, h1 z⟩) (fun z => ⟨rfl, h0 z⟩)))
  · rw [if_neg (by omega), if_neg (by omega)] at h1 h0
    have e8 : nI t - 8 = nI (t - 8) := pk_sub (b := 8) b
    refine br_f cg_10 (br_t (nI_le (a := 8) b (by omega)) ?_)
    rw [e8]
    exact cy_shows O u16 (by omega) (fun z => ⟨rfl, h1 z⟩) (fun z => ⟨rfl, h0 z⟩)
  · exact br_t rfl (h0 (if_pos (by omega)))
theorem cy_li18 {post : Int32 → Prop} {J : Int32 → Prop} {x own : Int32} (O : ci_Ok w h sf tl ti) (hown : ∀ i, i < 32 → bt own i = (bt x i && cd_th w h i)) {t : Nat} (ht : t < 16)
    (h0 : cf_lift (ci_A sf tl ti) w h (bt x) = false → post 0) (K : (∀ u, u < 16 → bt x t = true → bt x u = false → cd_ab (ci_A sf tl ti) w h u t = false) → J (nI (t + 1))) :
    ∀ n u, u ≤ 16 → 16 - u < n → (∀ u', u' < u → bt x t = true → bt x u' = false → cd_ab (ci_A sf tl ti) w h u' t = false) → wY_liftable_18 post J own (nI t) (nI w) (nI h) ct sf tl ti mu pa ne ask wy nw n (nI u) := by
  have hw := O.1.2.1
  have hh := O.1.2.2.2
  intro n
  induction n with
  | zero => intro u _ hn; omega
  | succ n ih =>
    intro u hu hn I
    refine pk_le 16 u (fun z y ey => ?_) (fun z => ?_)
    · have e : u = 16 := by omega
      rw [e] at I
      rw [ey, nI_1]
      exact K I
    · have nx : (bt x t = true → bt x u = false → cd_ab (ci_A sf tl ti) w h u t = false) → ∀ y, y = nI u + 1 → wY_liftable_18 post J own (nI t) (nI w) (nI h) ct sf tl ti mu pa ne ask wy nw n y := by
        intro q y ey
        rw [ey, nI_1]
        refine ih (u + 1) (by omega) (by omega) (fun u' hu' a b => ?_)
        by_cases e : u' = u
        · rw [e] at b ⊢
          exact q a b
        · exact I u' (by omega) a b
      have noT : ∀ {s v : Nat}, cd_th w h v = false → cd_ab (ci_A sf tl ti) w h s v = false := fun {s v} hf => cd_nt (fun q => cd_tf hf (cd_ab_th q).2)
      have noU : ∀ {s v : Nat}, cd_th w h s = false → cd_ab (ci_A sf tl ti) w h s v = false := fun {s v} hf => cd_nt (fun q => cd_tf hf (cd_ab_th q).1)
      refine cg_if (ce_bit1 own (by omega)) (fun b1 => cg_fi (ce_bit0 own (by omega)) (fun b2 => ?_) (fun b2 => ?_)) (fun b1 => ?_)
      · rw [hown u (by omega), Bool.and_eq_true] at b2
        exact br_t rfl (nx (fun _ b => (cd_tf b b2.1).elim))
      · rw [hown t (by omega), Bool.and_eq_true] at b1
        refine cy_isThread hw hh (fun q => br_f cg_10 (br_f cg_10 ?_)) (fun q => br_t rfl (br_t rfl (nx (fun _ _ => noU (cd_nt (fun p => q ((ci_t_nI hw hh (by omega)).mpr p)))))))
        have hu' : cd_th w h u = true := (ci_t_nI hw hh (by omega)).mp q
        have hxu : bt x u = false := by
          rw [hown u (by omega), hu', Bool.and_true] at b2
          exact b2
        refine cy_covers O hu' b1.2 (fun c => br_f cg_10 (h0 (cd_nt (fun p => ?_)))) (fun c => br_t rfl (nx (fun _ _ => c)))
        exact cd_tf (cf_lift_iff.mp p u (by omega) hxu t ht b1.1) c
      · refine br_t rfl (nx (fun a _ => noT (cd_nt (fun p => ?_))))
        rw [hown t (by omega), a, p] at b1
        exact Bool.noConfusion b1
theorem cy_li9 {post : Int32 → Prop} {x own : Int32} (O : ci_Ok w h sf tl ti) (hown : ∀ i, i < 32 → bt own i = (bt x i && cd_th w h i))
    (h1 : cf_lift (ci_A sf tl ti) w h (bt x) = true → post 1) (h0 : cf_lift (ci_A sf tl ti) w h (bt x) = false → post 0) :
    ∀ n t, t ≤ 16 → 16 - t < n → (∀ t', t' < t → ∀ u, u < 16 → bt x t' = true → bt x u = false → cd_ab (ci_A sf tl ti) w h u t' = false) → wY_liftable_9 post own (nI w) (nI h) ct sf tl ti mu pa ne ask wy nw n (nI t) := by
  intro n
  induction n with
  | zero => intro t _ hn; omega
  | succ n ih =>
    intro t ht hn I
    refine pk_le 16 t (fun z => h1 ?_) (fun z => ?_)
    · have e : t = 16 := by omega
      rw [e] at I
      exact cf_lift_iff.mpr (fun u hu hxu t' ht' hxt => I t' ht' u hu hxt hxu)
    · refine ⟨17, cy_li18 O hown (by omega) h0 (fun q => ?_) 17 0 (by omega) (by omega) (fun u' hu' => absurd hu' (Nat.not_lt_zero u'))⟩
      refine ih (t + 1) (by omega) (by omega) (fun t' ht' u hu a b => ?_)
      by_cases e : t' = t
      · rw [e] at a ⊢
        exact q u hu a b
      · exact I t' (by omega) u hu a b
theorem cy_liftable {post : Int32 → Prop} {x : Int32} (O : ci_Ok w h sf tl ti) (h1 : cf_lift (ci_A sf tl ti) w h (bt x) = true → post 1) (h0 : cf_lift (ci_A sf tl ti) w h (bt x) = false → post 0) : wpY_liftable post (nI w, nI h, ct, sf, tl, ti, mu, pa, ne, ask, wy, nw) x := by
  unfold wpY_liftable wpY_everything
  try dsimp only
  intro y ey
  rw [ey]
  exact ⟨17, cy_li9 O (fun i hi => cj_own O.1.2.1 O.1.2.2.2 x hi) h1 h0 17 0 (by omega) (by omega) (fun t' ht' => absurd ht' (Nat.not_lt_zero t'))⟩
variable {r : Nat → Nat → Bool}
theorem cy_held {post : Int32 → Prop} {a b : Nat} (M : ch_Mf r mu) (ha : a < 16) (hb : b < 16) (ra : r a a = true) (rb : r b b = true) (h1 : cd_eq r a b = true → post 1) (h0 : cd_eq r a b = false → post 0) : wpY_held post (nI w, nI h, ct, sf, tl, ti, mu, pa, ne, ask, wy, nw) (nI a) (nI b) := by
  unfold wpY_held
  try dsimp only
  refine ⟨vp_in_nI ha (by omega), ?_⟩
  rw [nI_clamp (n := a) (by omega), nI_clamp (n := b) (by omega)]
  refine cg_if (ce_bit1 _ (by omega)) (fun c => ⟨vp_in_nI hb (by omega), cg_if (ce_bit1 _ (by omega)) (fun d => h1 ?_) (fun d => h0 ?_)⟩) (fun c => h0 ?_)
  · rw [M a b ra] at c
    rw [M b a rb] at d
    exact cd_eq_iff.mpr ⟨d, c⟩
  · rw [M b a rb] at d
    exact cd_nt (fun q => cd_tf d (cd_eq_iff.mp q).1)
  · rw [M a b ra] at c
    exact cd_nt (fun q => cd_tf c (cd_eq_iff.mp q).2)
theorem cy_sp22 {post : SY → Prop} {J : Int32 → Int32 → (Nat → Int32) → (Nat → Int32) → (Nat → Int32) → (Nat → Int32) → (Nat → Int32) → (Nat → Int32) → (Nat → Int32) → (Nat → Int32) → Prop} {c : Nat}
    (hw : w ≤ 8) (hh : h ≤ 8) (hr : ∀ s, r s s = cd_th w h s) (C : cd_Cl r) (M : ch_Mf r mu) {t : Nat} (ht : t < 16) (hc : c < 16)
    (K1 : cd_fst r t = true → ∀ s, (∀ i, i < 32 → bt s i = cd_eq r t i) → J (nI (t + 1)) (nI (c + 1)) sf tl ti mu (upd pa c s) (upd ne c (mu t)) ask wy)
    (K0 : cd_fst r t = false → J (nI (t + 1)) (nI c) sf tl ti mu pa ne ask wy) :
    ∀ j s l, j ≤ 16 → ch_Sp r t j s l → wY_split_22 post J (nI t) (nI w) (nI h) (nI c) sf tl ti mu pa ne ask wy nw (j + 1) s (nI l) (nI j + (-1)) := by
  intro j
  induction j with
  | zero =>
    intro s l _ I
    have hl : l ≤ 16 := by
      rcases I.2 with q | q <;> omega
    have hr16 : ∀ i, r i i = true → i < 16 := fun i hi => ce_th16 hw hh (by rw [← hr i]; exact hi)
    have key := ch_Sp_l I ht
    refine br_t (by decide) (pk_eq l t (fun e => ?_) (fun e => ?_))
    · refine ⟨vp_in_nI hc (by omega), fun a1 e1 => ⟨vp_in_nI ht (by omega), vp_in_nI hc (by omega), fun a2 e2 y ey z ez => ?_⟩⟩
      rw [ey, ez, e1, e2, nI_1, nI_1, nI_clamp (n := c) (by omega), nI_clamp (n := t) (by omega)]
      exact K1 (key.mp e) s (ch_Sp_b hr16 C I)
    · intro y ey
      rw [ey, nI_1]
      exact K0 (cd_nt (fun q => e (key.mpr q)))
  | succ j ih =>
    intro s l hj I
    rw [pk_m1]
    have no : cd_eq r t j = false → ∀ y, y = nI j + (-1) → wY_split_22 post J (nI t) (nI w) (nI h) (nI c) sf tl ti mu pa ne ask wy nw (j + 1) s (nI l) y := by
      intro q y ey
      rw [ey]
      exact ih s l (by omega) (ch_Sp_n I q)
    refine br_f (nI_pos (by omega)) ?_
    refine cy_isThread hw hh (fun q => br_f cg_10 ?_) (fun q => br_t rfl (no (cd_nt (fun p => q ((ci_t_nI hw hh (by omega)).mpr ?_)))))
    · refine cy_isThread hw hh (fun p => br_f cg_10 ?_) (fun p => br_t rfl (no (cd_nt (fun a => p ((ci_t_nI hw hh (by omega)).mpr ?_)))))
      · have q' := (ci_t_nI hw hh (by omega)).mp q
        have p' := (ci_t_nI hw hh (by omega)).mp p
        refine cy_held M ht (by omega) (by rw [hr]; exact q') (by rw [hr]; exact p') (fun a => br_f cg_10 (fun x ex y ey => ?_)) (fun a => br_t rfl (no a))
        rw [ex, ey]
        exact ih _ j (by omega) (ch_Sp_y I (by omega) a)
      · rw [← hr]
        exact (C.1 t j (cd_eq_iff.mp a).1).2
    · rw [← hr]
      exact (C.1 t j (cd_eq_iff.mp p).1).1
theorem cy_sp7 {post : SY → Prop} (hw : w ≤ 8) (hh : h ≤ 8) (hr : ∀ s, r s s = cd_th w h s) (C : cd_Cl r) (M : ch_Mf r mu)
    (K : ∀ pa' ne', ch_Pn r mu 16 pa' ne' → post (nI w, nI h, nI (cd_cn (cd_fst r) 16), sf, tl, ti, mu, pa', ne', ask, wy, nw)) :
    ∀ n t pa ne, t ≤ 16 → 16 - t < n → ch_Pn r mu t pa ne → wY_split_7 post (nI w) (nI h) nw n (nI t) (nI (cd_cn (cd_fst r) t)) sf tl ti mu pa ne ask wy := by
  intro n
  induction n with
  | zero => intro t pa ne _ hn; omega
  | succ n ih =>
    intro t pa ne ht hn I
    refine pk_le 16 t (fun z => ?_) (fun z => ?_)
    · have e : t = 16 := by omega
      rw [e] at I ⊢
      exact K pa ne I
    · have hc := cd_cn_le (cd_fst r) t
      refine ⟨17, cy_sp22 (c := cd_cn (cd_fst r) t) hw hh hr C M (by omega) (by omega) (fun b s hs => ?_) (fun b => ?_) 16 0 16 (by omega) (ch_Sp_0 r t)⟩
      · have q := ih (t + 1) _ _ (by omega) (by omega) (ch_Pn_y I b hs)
        rw [cd_cn_s, b] at q
        exact q
      · have q := ih (t + 1) _ _ (by omega) (by omega) (ch_Pn_n I b)
        rw [cd_cn_s, b] at q
        exact q
theorem cy_split {post : SY → Prop} (hw : w ≤ 8) (hh : h ≤ 8) (hr : ∀ s, r s s = cd_th w h s) (C : cd_Cl r) (M : ch_Mf r mu)
    (K : ∀ pa' ne', ch_Pn r mu 16 pa' ne' → post (nI w, nI h, nI (cd_cn (cd_fst r) 16), sf, tl, ti, mu, pa', ne', ask, wy, nw)) : wpY_split post (nI w, nI h, ct, sf, tl, ti, mu, pa, ne, ask, wy, nw) :=
  ⟨17, cy_sp7 hw hh hr C M K 17 0 pa ne (by omega) (by omega) (fun s hs => absurd hs (Nat.not_lt_zero s))⟩
theorem cy_wk41 {post : SY → Prop} {J25 : Int32 → (Nat → Int32) → (Nat → Int32) → (Nat → Int32) → (Nat → Int32) → (Nat → Int32) → (Nat → Int32) → (Nat → Int32) → (Nat → Int32) → Prop}
    {J33 : Int32 → Int32 → (Nat → Int32) → (Nat → Int32) → (Nat → Int32) → (Nat → Int32) → (Nat → Int32) → (Nat → Int32) → (Nat → Int32) → (Nat → Int32) → Prop} (O : ci_Ok w h sf tl ti) {m0 : Nat → Int32} {t : Nat} (ht : t < 16)
    (K : ∀ m b, ch_Pa (ci_A sf tl ti) w h m0 t 16 m b → J33 (nI b.toNat) (nI (t + 1)) sf tl ti m pa ne ask wy) :
    ∀ n u m b, u ≤ 16 → 16 - u < n → ch_Pa (ci_A sf tl ti) w h m0 t u m b → wY_work_41 post J25 J33 (nI t) (nI w) (nI h) ct nw n (nI b.toNat) (nI u) sf tl ti m pa ne ask wy := by
  have hw := O.1.2.1
  have hh := O.1.2.2.2
  intro n
  induction n with
  | zero => intro u m b _ hn; omega
  | succ n ih =>
    intro u m b hu hn I
    refine pk_le 16 u (fun z y ey => ?_) (fun z => ?_)
    · have e : u = 16 := by omega
      rw [e] at I
      rw [ey, nI_1]
      exact K m b I
    · have nx : (cd_ab (ci_A sf tl ti) w h u t = true → m u &&& (m t ^^^ (-1)) = 0) → ∀ y, y = nI u + 1 → wY_work_41 post J25 J33 (nI t) (nI w) (nI h) ct nw n (nI b.toNat) y sf tl ti m pa ne ask wy := by
        intro q y ey
        rw [ey, nI_1]
        exact ih (u + 1) m b (by omega) (by omega) (ch_Pa_n I q)
      refine cy_isThread hw hh (fun q => br_f cg_10 ?_) (fun q => br_t rfl (br_t rfl (nx (fun a => absurd ((ci_t_nI hw hh (by omega)).mpr (cd_ab_th a).2) q))))
      refine cy_isThread hw hh (fun p => br_f cg_10 ?_) (fun p => br_t rfl (br_t rfl (nx (fun a => absurd ((ci_t_nI hw hh (by omega)).mpr (cd_ab_th a).1) p))))
      refine cy_covers O ((ci_t_nI hw hh (by omega)).mp p) ((ci_t_nI hw hh (by omega)).mp q) (fun a => br_f cg_10 (br_f cg_10 ⟨vp_in_nI (by omega) (by omega), vp_in_nI (by omega) (by omega), ?_⟩)) (fun a => br_t rfl (br_t rfl (nx (fun a' => (cd_tf a a').elim))))
      rw [nI_clamp (n := u) (by omega), nI_clamp (n := t) (by omega)]
      refine br_c (fun e => nx (fun _ => e)) (fun e => ⟨vp_in_nI (by omega) (by omega), vp_in_nI (by omega) (by omega), vp_in_nI (by omega) (by omega), fun m' em y ey => ?_⟩)
      rw [em, ey, nI_1]
      exact ih (u + 1) _ true (by omega) (by omega) (ch_Pa_y hw I ht (by omega) a e)
theorem cy_wk33 {post : SY → Prop} {J25 : Int32 → (Nat → Int32) → (Nat → Int32) → (Nat → Int32) → (Nat → Int32) → (Nat → Int32) → (Nat → Int32) → (Nat → Int32) → (Nat → Int32) → Prop} (O : ci_Ok w h sf tl ti) {m0 : Nat → Int32}
    (K : ∀ m b, ch_Pa (ci_A sf tl ti) w h m0 16 0 m b → J25 (nI b.toNat) sf tl ti m pa ne ask wy) :
    ∀ n t m b, t ≤ 16 → 16 - t < n → ch_Pa (ci_A sf tl ti) w h m0 t 0 m b → wY_work_33 post J25 (nI w) (nI h) ct nw n (nI b.toNat) (nI t) sf tl ti m pa ne ask wy := by
  intro n
  induction n with
  | zero => intro t m b _ hn; omega
  | succ n ih =>
    intro t m b ht hn I
    refine pk_le 16 t (fun z => ?_) (fun z => ?_)
    · have e : t = 16 := by omega
      rw [e] at I
      exact K m b I
    · exact ⟨17, cy_wk41 O (by omega) (fun m' b' I' => ih (t + 1) m' b' (by omega) (by omega) (ch_Pa_r I')) 17 0 m b (by omega) (by omega) I⟩
theorem cy_wk25 {post : SY → Prop} (O : ci_Ok w h sf tl ti) (K : ∀ mu' pa' ne', ch_Mf (cd_rr (ci_A sf tl ti) w h) mu' → ch_Pn (cd_rr (ci_A sf tl ti) w h) mu' 16 pa' ne' → post (nI w, nI h, nI (cd_cn (cd_fst (cd_rr (ci_A sf tl ti) w h)) 16), sf, tl, ti, mu', pa', ne', ask, wy, nw)) :
    ∀ N m0, ce_mu m0 < N → ch_Mu (ci_A sf tl ti) w h m0 → wY_work_25 post (nI w) (nI h) ct nw (N + 1) 1 sf tl ti m0 pa ne ask wy := by
  have hw := O.1.2.1
  have hh := O.1.2.2.2
  intro N
  induction N with
  | zero => intro m0 hN; omega
  | succ N ih =>
    intro m0 hN I
    refine br_f cg_10 ⟨17, cy_wk33 O (fun m b I' => ?_) 17 0 m0 false (by omega) (by omega) (ch_Pa_0 I)⟩
    cases b with
    | false => exact br_t ce_n01.2.2.1 (cy_split hw hh (fun s => cd_rr_th) (cd_rr_Cl _ hw) (ch_Pa_e hw hh I') (fun pa' ne' P => K m pa' ne' (ch_Pa_e hw hh I') P))
    | true => exact ih m (by have := I'.2.2 rfl; omega) I'.1
theorem cy_wk2 {post : SY → Prop} (O : ci_Ok w h sf tl ti) (K : ∀ mu' pa' ne', ch_Mf (cd_rr (ci_A sf tl ti) w h) mu' → ch_Pn (cd_rr (ci_A sf tl ti) w h) mu' 16 pa' ne' → post (nI w, nI h, nI (cd_cn (cd_fst (cd_rr (ci_A sf tl ti) w h)) 16), sf, tl, ti, mu', pa', ne', ask, wy, nw)) :
    ∀ n t, t ≤ 16 → 16 - t < n → wY_work_2 post (nI w) (nI h) ct nw n (nI t) sf tl ti (ci_fill mu (fun t => (1 : Int32) <<< (nI t &&& 31)) t) pa ne ask wy := by
  intro n
  induction n with
  | zero => intro t _ hn; omega
  | succ n ih =>
    intro t ht hn
    have I := ih (t + 1)
    refine pk_le 16 t (fun z => ?_) (fun z => ⟨vp_in_nI (by omega) (by omega), fun a ea y ey => ?_⟩)
    · have e : t = 16 := by omega
      exact ⟨_, cy_wk25 O K _ _ (Nat.lt_succ_self _) (ch_Mu_0 (fun s hs => by rw [e]; exact ci_fill_lt _ _ hs))⟩
    · rw [ea, ey, nI_1, nI_clamp (n := t) (by omega), ci_fill_s mu (fun t => (1 : Int32) <<< (nI t &&& 31)) t rfl]
      exact I (by omega) (by omega)
theorem cy_work {post : SY → Prop} (O : ci_Ok w h sf tl ti) (K : ∀ mu' pa' ne', ch_Mf (cd_rr (ci_A sf tl ti) w h) mu' → ch_Pn (cd_rr (ci_A sf tl ti) w h) mu' 16 pa' ne' → post (nI w, nI h, nI (cd_cn (cd_fst (cd_rr (ci_A sf tl ti) w h)) 16), sf, tl, ti, mu', pa', ne', ask, wy, nw)) : wpY_work post (nI w, nI h, ct, sf, tl, ti, mu, pa, ne, ask, wy, nw) := by
  have q := cy_wk2 (mu := mu) (ct := ct) (pa := pa) (ne := ne) O K 17 0 (by omega) (by omega)
  rw [ci_fill_0] at q
  exact ⟨17, q⟩
end
