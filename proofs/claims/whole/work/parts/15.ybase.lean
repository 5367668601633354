/-! the reference: its small methods, and what it reads off the crossings -/
section
variable {w h nw : Nat} {ct : Int32} {sf tl ti mu pa ne ask wy : Nat → Int32}
theorem cy_isWarp {post : Int32 → Prop} {x : Int32} (hw : w ≤ 8) (h1 : ci_r x w → post 1) (h0 : ¬ ci_r x w → post 0) : wpY_isWarp post (nI w, nI h, ct, sf, tl, ti, mu, pa, ne, ask, wy, nw) x := by
  unfold wpY_isWarp
  try dsimp only
  exact br_c (fun z => h0 (ci_r_lo (by omega) z)) (fun z => br_c (fun q => h0 (ci_r_hi (by omega) q)) (fun q => h1 (ci_r_in (by omega) z q)))
theorem cy_isWeft {post : Int32 → Prop} {x : Int32} (hh : h ≤ 8) (h1 : ci_r x h → post 1) (h0 : ¬ ci_r x h → post 0) : wpY_isWeft post (nI w, nI h, ct, sf, tl, ti, mu, pa, ne, ask, wy, nw) x := by
  unfold wpY_isWeft
  try dsimp only
  exact br_c (fun z => h0 (ci_r_lo (by omega) z)) (fun z => br_c (fun q => h0 (ci_r_hi (by omega) q)) (fun q => h1 (ci_r_in (by omega) z q)))
theorem cy_small {post : Int32 → Prop} {x : Int32} (h1 : ci_r x 4 → post 1) (h0 : ¬ ci_r x 4 → post 0) : wpY_small post (nI w, nI h, ct, sf, tl, ti, mu, pa, ne, ask, wy, nw) x := by
  unfold wpY_small
  try dsimp only
  refine br_c (fun z => h0 (ci_r_lo (by omega) z)) (fun z => ?_)
  obtain ⟨t, ht, rfl⟩ := nI_of z
  refine pk_lt 3 t (fun q => h0 ?_) (fun q => h1 ⟨t, by omega, rfl⟩)
  rintro ⟨j, hj, e⟩
  rw [nI_eq ht (by omega)] at e
  omega
theorem cy_isThread {post : Int32 → Prop} {x : Int32} (hw : w ≤ 8) (hh : h ≤ 8) (h1 : ci_t w h x → post 1) (h0 : ¬ ci_t w h x → post 0) : wpY_isThread post (nI w, nI h, ct, sf, tl, ti, mu, pa, ne, ask, wy, nw) x := by
  unfold wpY_isThread
  try dsimp only
  by_cases hx : x < 0
  · have h8 : ¬ (8 : Int32) ≤ x := by
      have := cx_lt8 hx
      exact Int32.not_le.mpr this
    refine br_f h8 (cy_isWarp hw (fun z => ?_) (fun z => ⟨rfl, h0 ?_⟩))
    · exact absurd z (ci_r_lo (by omega) hx)
    · rintro ⟨t, ht, rfl⟩
      exact nI_pos (by have := ce_th16 hw hh ht; omega) hx
  · obtain ⟨t, ht, rfl⟩ := nI_of hx
    rw [ci_t_nI hw hh ht, cd_th_iff] at h1 h0
    refine pk_le 8 t (fun q => ?_) (fun q => ?_)
    · have e : nI t - 8 = nI (t - 8) := pk_sub (b := 8) q
      rw [e]
      refine cy_isWeft hh (fun z => ⟨rfl, h1 ?_⟩) (fun z => ⟨rfl, h0 (fun a => z ⟨t - 8, by omega, rfl⟩)⟩)
      obtain ⟨j, hj, ej⟩ := z
      rw [nI_eq (by omega) (by omega)] at ej
      omega
    · refine cy_isWarp hw (fun z => ⟨rfl, h1 ?_⟩) (fun z => ⟨rfl, h0 (fun a => z ⟨t, by omega, rfl⟩)⟩)
      obtain ⟨j, hj, ej⟩ := z
      rw [nI_eq (by omega) (by omega)] at ej
      omega
theorem cy_isAbove {post : Int32 → Prop} (O : ci_Ok w h sf tl ti) {c r : Nat} (hc : c < 8) (hr : r < 8) (h1 : ci_A sf tl ti c r = true → post 1) (h0 : ci_A sf tl ti c r = false → post 0) : wpY_isAbove post (nI w, nI h, ct, sf, tl, ti, mu, pa, ne, ask, wy, nw) (nI c) (nI r) := by
  obtain ⟨s, hs, es⟩ := O.2.1 c hc
  obtain ⟨q, hq, eq⟩ := O.2.2.1 r hr
  have e : ci_A sf tl ti c r = bt (ti (nI q).toNatClampNeg) s := by
    unfold ci_A
    rw [es, eq, nI_clamp (n := s) (by omega)]
  rw [e] at h1 h0
  unfold wpY_isAbove
  try dsimp only
  rw [nI_clamp (n := c) (by omega), nI_clamp (n := r) (by omega), es, eq]
  exact ⟨vp_in_nI (by omega) (by omega), vp_in_nI (by omega) (by omega), vp_in_nI (by omega) (by omega), cg_if (ce_bit1 _ (by omega)) h1 h0⟩
theorem cy_crossings {post : Int32 → Prop} {t : Nat} (ht : t < 2 ^ 31) (K : post (nI (cf_cr w h t))) : wpY_crossings post (nI w, nI h, ct, sf, tl, ti, mu, pa, ne, ask, wy, nw) (nI t) := by
  unfold wpY_crossings
  try dsimp only
  refine pk_le 8 t (fun z => ?_) (fun z => ?_)
  · have e : cf_cr w h t = w := if_neg (by omega)
    rw [e] at K
    exact K
  · have e : cf_cr w h t = h := if_pos (by omega)
    rw [e] at K
    exact K
theorem cy_shows {post : Int32 → Prop} (O : ci_Ok w h sf tl ti) {t k : Nat} (ht : t < 16) (hk : k < 8) (h1 : cf_sh (ci_A sf tl ti) t k = true → post 1) (h0 : cf_sh (ci_A sf tl ti) t k = false → post 0) : wpY_shows post (nI w, nI h, ct, sf, tl, ti, mu, pa, ne, ask, wy, nw) (nI t) (nI k) := by
  unfold wpY_shows
  try dsimp only
  refine pk_le 8 t (fun z => ?_) (fun z => ?_)
  · have e : cf_sh (ci_A sf tl ti) t k = !ci_A sf tl ti k (t - 8) := if_neg (by omega)
    have e8 : nI t - 8 = nI (t - 8) := pk_sub (b := 8) z
    rw [e8]
    refine cy_isAbove O hk (by omega) (fun b => br_f cg_10 (h0 ?_)) (fun b => br_t rfl (h1 ?_))
    · rw [e, b]
      try rfl
    · rw [e, b]
      try rfl
  · have e : cf_sh (ci_A sf tl ti) t k = ci_A sf tl ti t k := if_pos (by omega)
    refine cy_isAbove O (by omega) hk (fun b => ⟨rfl, h1 ?_⟩) (fun b => ⟨rfl, h0 ?_⟩)
    · rw [e, b]
    · rw [e, b]
theorem cy_cr8 (O : ci_Ok w h sf tl ti) (t : Nat) : cf_cr w h t ≤ 8 := by
  unfold cf_cr
  have hw := O.1.2.1
  have hh := O.1.2.2.2
  split <;> omega
theorem cy_lg {post : Int32 → Prop} (O : ci_Ok w h sf tl ti) {t : Nat} (ht : t < 16) (K : post (nI (cf_rb (cf_sh (ci_A sf tl ti) t) (cf_cr w h t)).2)) : ∀ n i, i ≤ cf_cr w h t → cf_cr w h t - i < n → wY_longest_17 post (nI t) (nI w) (nI h) ct sf tl ti mu pa ne ask wy nw n (nI (cf_rb (cf_sh (ci_A sf tl ti) t) i).2) (nI (cf_rb (cf_sh (ci_A sf tl ti) t) i).1) (nI i) := by
  have h8 := cy_cr8 O t
  intro n
  induction n with
  | zero => intro i _ hn; omega
  | succ n ih =>
    intro i hi hn
    have hb := cf_rb_le (cf_sh (ci_A sf tl ti) t) i
    have go : ∀ run, run ≤ i + 1 → cond (decide (0 < i) && (cf_sh (ci_A sf tl ti) t i == cf_sh (ci_A sf tl ti) t (i - 1))) ((cf_rb (cf_sh (ci_A sf tl ti) t) i).1 + 1) 1 = run → i < cf_cr w h t → wY_longest_58 post (wY_longest_17 post (nI t) (nI w) (nI h) ct sf tl ti mu pa ne ask wy nw n) (nI t) (nI (cf_rb (cf_sh (ci_A sf tl ti) t) i).2) (nI i) (nI run) (nI w) (nI h) ct sf tl ti mu pa ne ask wy nw := by
      intro run hr e hil
      have e2 : cf_rb (cf_sh (ci_A sf tl ti) t) (i + 1) = (run, if (cf_rb (cf_sh (ci_A sf tl ti) t) i).2 < run then run else (cf_rb (cf_sh (ci_A sf tl ti) t) i).2) := by
        rw [cf_rb_s]
        unfold cf_st
        rw [e]
      have I := ih (i + 1) (by omega) (by omega)
      rw [e2] at I
      dsimp only at I
      refine pk_le run (cf_rb (cf_sh (ci_A sf tl ti) t) i).2 (fun z y ey => ?_) (fun z y ey => ?_)
      · rw [if_neg (by omega)] at I
        rw [ey, nI_1]
        exact I
      · rw [if_pos (by omega)] at I
        rw [ey, nI_1]
        exact I
    rw [wY_longest_17]
    refine cy_crossings (t := t) (by omega) ?_
    refine pk_le (cf_cr w h t) i (fun z => ?_) (fun z => pk_le i 0 (fun q => ?_) (fun q => ?_))
    · have e : i = cf_cr w h t := by omega
      rw [e]
      exact K
    · refine go 1 (by omega) ?_ z
      rw [decide_eq_false (by omega), Bool.false_and]
      try rfl
    · have em : nI i - 1 = nI (i - 1) := pk_sub (b := 1) (by omega)
      rw [em]
      refine cy_shows O ht (by omega) (fun b1 => ?_) (fun b1 => ?_)
      · refine cy_shows O ht (by omega) (fun b2 => ?_) (fun b2 => ?_)
        · refine br_t rfl ?_
          rw [nI_1]
          refine go _ (by omega) ?_ z
          rw [b1, b2, decide_eq_true q]
          try rfl
        · refine br_f cg_10 (go 1 (by omega) ?_ z)
          rw [b1, b2, decide_eq_true q]
          try rfl
      · refine cy_shows O ht (by omega) (fun b2 => ?_) (fun b2 => ?_)
        · refine br_f cg_01 (go 1 (by omega) ?_ z)
          rw [b1, b2, decide_eq_true q]
          try rfl
        · refine br_t rfl ?_
          rw [nI_1]
          refine go _ (by omega) ?_ z
          rw [b1, b2, decide_eq_true q]
          try rfl
theorem cy_ov {post : Int32 → Prop} (O : ci_Ok w h sf tl ti) {t : Nat} (ht : t < 16) (K : post (nI (cd_cn (cf_sh (ci_A sf tl ti) t) (cf_cr w h t)))) : ∀ n i, i ≤ cf_cr w h t → cf_cr w h t - i < n → wY_over_14 post (nI t) (nI w) (nI h) ct sf tl ti mu pa ne ask wy nw n (nI (cd_cn (cf_sh (ci_A sf tl ti) t) i)) (nI i) := by
  have h8 := cy_cr8 O t
  intro n
  induction n with
  | zero => intro i _ hn; omega
  | succ n ih =>
    intro i hi hn
    have I := ih (i + 1)
    rw [wY_over_14]
    refine cy_crossings (t := t) (by omega) ?_
    refine pk_le (cf_cr w h t) i (fun z => ?_) (fun z => ?_)
    · have e : i = cf_cr w h t := by omega
      rw [e]
      exact K
    · rw [cd_cn_s] at I
      refine cy_shows O ht (by omega) (fun b => br_f cg_10 (fun x ex y ey => ?_)) (fun b => br_t rfl (fun y ey => ?_))
      · rw [b] at I
        rw [ex, ey, nI_1, nI_1]
        exact I (by omega) (by omega)
      · rw [b] at I
        rw [ey, nI_1]
        exact I (by omega) (by omega)
theorem cy_al {post : Int32 → Prop} (O : ci_Ok w h sf tl ti) {t u : Nat} (ht : t < 16) (hu : u < 16) (h1 : cf_al (ci_A sf tl ti) w h t u = true → post 1) (h0 : cf_al (ci_A sf tl ti) w h t u = false → post 0) : ∀ n i, i ≤ cf_cr w h t → cf_cr w h t - i < n → (∀ k, k < i → cf_sh (ci_A sf tl ti) t k = cf_sh (ci_A sf tl ti) u k) → wY_alike_2 post (nI t) (nI u) (nI w) (nI h) ct sf tl ti mu pa ne ask wy nw n (nI i) := by
  have h8 := cy_cr8 O t
  intro n
  induction n with
  | zero => intro i _ hn; omega
  | succ n ih =>
    intro i hi hn I
    rw [wY_alike_2]
    refine cy_crossings (t := t) (by omega) ?_
    refine pk_le (cf_cr w h t) i (fun z => h1 ?_) (fun z => ?_)
    · have e : i = cf_cr w h t := by omega
      rw [e] at I
      exact cf_al_iff.mpr I
    · have go : cf_sh (ci_A sf tl ti) t i = cf_sh (ci_A sf tl ti) u i → ∀ y, y = nI i + 1 → wY_alike_2 post (nI t) (nI u) (nI w) (nI h) ct sf tl ti mu pa ne ask wy nw n y := by
        intro e y ey
        rw [ey, nI_1]
        refine ih (i + 1) (by omega) (by omega) (fun k hk => ?_)
        by_cases ek : k = i
        · rw [ek]
          exact e
        · exact I k (by omega)
      have no : cf_sh (ci_A sf tl ti) t i ≠ cf_sh (ci_A sf tl ti) u i → post 0 := fun e => h0 (cd_nt (fun q => e (cf_al_iff.mp q i z)))
      refine cy_shows O ht (by omega) (fun b1 => ?_) (fun b1 => ?_)
      · refine cy_shows O hu (by omega) (fun b2 => br_t rfl (go (by rw [b1, b2]))) (fun b2 => br_f cg_10 (no (by rw [b1, b2]; decide)))
      · refine cy_shows O hu (by omega) (fun b2 => br_f cg_01 (no (by rw [b1, b2]; decide))) (fun b2 => br_t rfl (go (by rw [b1, b2])))
theorem cy_alike {post : Int32 → Prop} (O : ci_Ok w h sf tl ti) {t u : Nat} (ht : t < 16) (hu : u < 16) (h1 : cf_al (ci_A sf tl ti) w h t u = true → post 1) (h0 : cf_al (ci_A sf tl ti) w h t u = false → post 0) : wpY_alike post (nI w, nI h, ct, sf, tl, ti, mu, pa, ne, ask, wy, nw) (nI t) (nI u) :=
  ⟨cf_cr w h t + 1, cy_al O ht hu h1 h0 (cf_cr w h t + 1) 0 (by omega) (by omega) (fun k hk => absurd hk (Nat.not_lt_zero k))⟩
theorem cy_df19 {post : Int32 → Prop} {J : Int32 → Int32 → Prop} (O : ci_Ok w h sf tl ti) {f t : Nat} {x1 x2 x3 : Int32} (ht : t < 16)
    (h1 : cf_nw (fun s t => cf_al (ci_A sf tl ti) w h t s) f t = true → J (x3 + 1) (nI (t + 1))) (h0 : cf_nw (fun s t => cf_al (ci_A sf tl ti) w h t s) f t = false → J x3 (nI (t + 1))) :
    ∀ n s (b : Bool), f ≤ s → s ≤ t → t - s < n → (b = true → ∀ s', s' < s → f ≤ s' → cf_al (ci_A sf tl ti) w h t s' = false) → (b = false → cf_nw (fun s t => cf_al (ci_A sf tl ti) w h t s) f t = false) → wY_different_19 post J x1 x2 x3 (nI t) (nI w) (nI h) ct sf tl ti mu pa ne ask wy nw n (nI b.toNat) (nI s) := by
  intro n
  induction n with
  | zero => intro s b _ _ hn; omega
  | succ n ih =>
    intro s b hf hs hn I1 I0
    refine pk_le t s (fun z => ?_) (fun z => ?_)
    · have e : s = t := by omega
      cases b with
      | false =>
        refine br_t ce_n01.2.2.1 (fun y ey => ?_)
        rw [ey, nI_1]
        exact h0 (I0 rfl)
      | true =>
        refine br_f ce_n01.2.2.2 (fun x ex y ey => ?_)
        rw [ex, ey, nI_1]
        rw [e] at I1
        exact h1 (cf_nw_iff.mpr (I1 rfl))
    · cases b with
      | false =>
        refine br_t ce_n01.2.2.1 (fun y ey => ?_)
        rw [ey, nI_1]
        exact ih (s + 1) false (by omega) (by omega) (by omega) (fun q => Bool.noConfusion q) I0
      | true =>
        refine br_f ce_n01.2.2.2 (cy_alike O ht (by omega) (fun a => br_f cg_10 (fun y ey => ?_)) (fun a => br_t rfl (fun y ey => ?_)))
        · rw [ey, nI_1]
          refine ih (s + 1) false (by omega) (by omega) (by omega) (fun q => Bool.noConfusion q) (fun _ => cd_nt (fun q => ?_))
          exact cd_tf (cf_nw_iff.mp q s z hf) a
        · rw [ey, nI_1]
          refine ih (s + 1) true (by omega) (by omega) (by omega) (fun _ s' hs' hf' => ?_) (fun q => Bool.noConfusion q)
          by_cases e : s' = s
          · rw [e]
            exact a
          · exact I1 rfl s' (by omega) hf'
theorem cy_df5 {post : Int32 → Prop} (O : ci_Ok w h sf tl ti) {f m : Nat} (hm : f + m ≤ 16) (K : post (nI (cd_cn (fun j => cf_nw (fun s t => cf_al (ci_A sf tl ti) w h t s) f (f + j)) m))) :
    ∀ n j, j ≤ m → m - j < n → wY_different_5 post (nI f) (nI m) (nI w) (nI h) ct sf tl ti mu pa ne ask wy nw n (nI (cd_cn (fun j => cf_nw (fun s t => cf_al (ci_A sf tl ti) w h t s) f (f + j)) j)) (nI (f + j)) := by
  intro n
  induction n with
  | zero => intro j _ hn; omega
  | succ n ih =>
    intro j hj hn
    have I := ih (j + 1)
    refine pk_le (f + m) (f + j) (fun z => ?_) (fun z => ?_) (nI_add f m)
    · have e : j = m := by omega
      rw [e]
      exact K
    · rw [cd_cn_s] at I
      refine ⟨j + 1, cy_df19 (f := f) O (by omega) (fun b => ?_) (fun b => ?_) (j + 1) f true (Nat.le_refl f) (by omega) (by omega) (fun _ s' a b => by omega) (fun q => Bool.noConfusion q)⟩
      · rw [b] at I
        rw [nI_1]
        exact I (by omega) (by omega)
      · rw [b] at I
        exact I (by omega) (by omega)
theorem cy_different {post : Int32 → Prop} (O : ci_Ok w h sf tl ti) {f m : Nat} (hm : f + m ≤ 16) (K : post (nI (cd_cn (fun j => cf_nw (fun s t => cf_al (ci_A sf tl ti) w h t s) f (f + j)) m))) : wpY_different post (nI w, nI h, ct, sf, tl, ti, mu, pa, ne, ask, wy, nw) (nI f) (nI m) :=
  ⟨m + 1, cy_df5 O hm K (m + 1) 0 (by omega) (by omega)⟩
end
