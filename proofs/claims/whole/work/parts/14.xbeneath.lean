/-! X: `beneath`, and what it reads off it -/
section
variable {w h : Nat} {sf tl ti un be : Nat → Int32}
theorem cx_fb56 {post : SX → Prop} {J : Int32 → (Nat → Int32) → (Nat → Int32) → (Nat → Int32) → (Nat → Int32) → (Nat → Int32) → Prop} {k : Nat} (hk : k < 16) (a : Nat → Int32)
    (K : J (nI (k + 1)) sf tl ti un (cg_wt a k 16)) :
    ∀ n t, t ≤ 16 → 16 - t < n → wX_findBeneath_56 post J (nI k) (nI w) (nI h) n (nI t) sf tl ti un (cg_wt a k t) := by
  intro n
  induction n with
  | zero => intro t _ hn; omega
  | succ n ih =>
    intro t ht hn
    have I := ih (t + 1)
    refine pk_le 16 t (fun z => ?_) (fun z => ⟨vp_in_nI (by omega) (by omega), ?_⟩)
    · intro x ex
      have e : t = 16 := by omega
      rw [ex, nI_1, e]
      exact K
    · rw [nI_clamp (n := t) (by omega), nI_clamp (n := k) (by omega), cg_wt_t, cg_wt_n]
      refine cx_holds (by omega) (fun b => br_f cg_10 ⟨vp_in_nI (by omega) (by omega), vp_in_nI (by omega) (by omega), vp_in_nI (by omega) (by omega), fun a' ea y ey => ?_⟩) (fun b => br_t rfl (fun y ey => ?_))
      · rw [ea, ey, nI_1, cg_wt_1 a k t b]
        exact I (by omega) (by omega)
      · rw [ey, nI_1, cg_wt_0 a k t b]
        exact I (by omega) (by omega)
theorem cx_fb48 {post : SX → Prop} (O : ci_Ok w h sf tl ti) (K : ∀ be', cg_Be (cd_rr (ci_A sf tl ti) w h) be' → post (nI w, nI h, sf, tl, ti, un, be')) :
    ∀ n k a, k ≤ 16 → 16 - k < n → ce_In (ci_A sf tl ti) w h k (cg_B a) → wX_findBeneath_48 post (nI w) (nI h) n (nI k) sf tl ti un a := by
  have hw := O.1.2.1
  have hh := O.1.2.2.2
  intro n
  induction n with
  | zero => intro k a _ hn; omega
  | succ n ih =>
    intro k a hk hn I
    refine pk_le 16 k (fun z => ?_) (fun z => ?_)
    · have e : k = 16 := by omega
      rw [e] at I
      exact K a (cg_In_e hw hh I)
    · have q := cx_fb56 (post := post) (J := wX_findBeneath_48 post (nI w) (nI h) n) (w := w) (h := h) (sf := sf) (tl := tl) (ti := ti) (un := un) (by omega : k < 16) a (ih (k + 1) _ (by omega) (by omega) (cg_In_s hw (by omega) I)) 17 0 (by omega) (by omega)
      rw [cg_wt_z] at q
      exact ⟨17, q⟩
def cx_g (w h : Nat) (un : Nat → Int32) (t : Nat) : Int32 := cond (cd_th w h t) (((1 : Int32) <<< (nI t &&& 31)) ||| un t) 0
theorem cx_fb6 {post : SX → Prop} (O : ci_Ok w h sf tl ti) (U : cg_Un (ci_A sf tl ti) w h un) (K : ∀ be', cg_Be (cd_rr (ci_A sf tl ti) w h) be' → post (nI w, nI h, sf, tl, ti, un, be')) :
    ∀ n t, t ≤ 16 → 16 - t < n → wX_findBeneath_6 post (nI w) (nI h) n (nI t) sf tl ti un (ci_fill be (cx_g w h un) t) := by
  have hw := O.1.2.1
  have hh := O.1.2.2.2
  intro n
  induction n with
  | zero => intro t _ hn; omega
  | succ n ih =>
    intro t ht hn
    have I := ih (t + 1)
    refine pk_le 16 t (fun z => ?_) (fun z => ?_)
    · have e : t = 16 := by omega
      refine ⟨17, cx_fb48 O K 17 0 _ (by omega) (by omega) (cg_In_0 hw hh (fun s i hs hi => ?_))⟩
      rw [e, ci_fill_lt _ _ hs]
      unfold cx_g
      cases hth : cd_th w h s with
      | false => exact b_0 i
      | true =>
        show bt (((1 : Int32) <<< (nI s &&& 31)) ||| un s) i = (true && (decide (i = s) || cd_ab (ci_A sf tl ti) w h s i))
        rw [b_or, ce_1sh (by omega) hi, U s i hs hi, Bool.true_and]
    · refine cx_isThread hw hh (fun b => br_f cg_10 ⟨vp_in_nI (by omega) (by omega), vp_in_nI (by omega) (by omega), fun a' ea y ey => ?_⟩) (fun b => br_t rfl ⟨vp_in_nI (by omega) (by omega), fun a' ea y ey => ?_⟩)
      · rw [ci_t_nI hw hh (by omega)] at b
        rw [ea, ey, nI_1, nI_clamp (n := t) (by omega), ci_fill_s be (cx_g w h un) t (by unfold cx_g; rw [b]; try rfl)]
        exact I (by omega) (by omega)
      · rw [ci_t_nI hw hh (by omega)] at b
        rw [ea, ey, nI_1, nI_clamp (n := t) (by omega), ci_fill_s be (cx_g w h un) t (by unfold cx_g; rw [cd_nt b]; try rfl)]
        exact I (by omega) (by omega)
theorem cx_findBeneath {post : SX → Prop} (O : ci_Ok w h sf tl ti) (K : ∀ un' be', cg_Be (cd_rr (ci_A sf tl ti) w h) be' → post (nI w, nI h, sf, tl, ti, un', be')) : wpX_findBeneath post (nI w, nI h, sf, tl, ti, un, be) := by
  unfold wpX_findBeneath
  dsimp only
  refine cx_findUnder O (fun un' U => ?_)
  have q := cx_fb6 (be := be) O U (K un') 17 0 (by omega) (by omega)
  rw [ci_fill_0] at q
  exact ⟨17, q⟩
variable {r : Nat → Nat → Bool}
theorem cx_fk {post : Int32 → Prop} {t : Nat} (C : cd_Cl r) (B : cg_Be r be) (ht : t < 16) (hr : r t t = true) (h1 : cd_fst r t = true → post 1) (h0 : cd_fst r t = false → post 0) :
    ∀ n s, s ≤ t → t - s < n → (∀ s', s' < s → cd_eq r s' t = false) → wX_isFirstOfKnot_13 post (nI t) (nI w) (nI h) sf tl ti un be n (nI s) := by
  intro n
  induction n with
  | zero => intro s _ hn; omega
  | succ n ih =>
    intro s hs hn I
    refine pk_le t s (fun z => h1 ?_) (fun z => ?_)
    · have e : s = t := by omega
      rw [e] at I
      exact cd_fst_iff.mpr ⟨hr, I⟩
    · refine ⟨vp_in_nI (by omega) (by omega), vp_in_nI (by omega) (by omega), ?_⟩
      rw [nI_clamp (n := s) (by omega), nI_clamp (n := t) (by omega)]
      refine cg_if (cg_be_eq C B (by omega) ht hr) (fun b => h0 (cd_nt (fun q => ?_))) (fun b y ey => ?_)
      · exact cd_tf ((cd_fst_iff.mp q).2 s z) b
      · rw [ey, nI_1]
        refine ih (s + 1) (by omega) (by omega) (fun s' hs' => ?_)
        by_cases e : s' = s
        · rw [e]
          exact b
        · exact I s' (by omega)
theorem cx_first {post : Int32 → Prop} {t : Nat} (C : cd_Cl r) (B : cg_Be r be) (ht : t < 16) (h1 : cd_fst r t = true → post 1) (h0 : cd_fst r t = false → post 0) : wpX_isFirstOfKnot post (nI w, nI h, sf, tl, ti, un, be) (nI t) := by
  unfold wpX_isFirstOfKnot
  dsimp only
  refine ⟨vp_in_nI ht (by omega), ?_⟩
  rw [nI_clamp (n := t) (by omega)]
  refine cg_fi (cg_be_0 C B ht) (fun b => ?_) (fun b => h0 (cd_nt (fun q => ?_)))
  · exact ⟨t + 1, cx_fk C B ht b h1 h0 (t + 1) 0 (by omega) (by omega) (fun s' hs' => absurd hs' (Nat.not_lt_zero s'))⟩
  · exact cd_tf b (cd_fst_iff.mp q).1
theorem cx_ck {post : Int32 → Prop} (C : cd_Cl r) (B : cg_Be r be) (K : post (nI (cd_cn (cd_fst r) 16))) : ∀ n t, t ≤ 16 → 16 - t < n → wX_countKnots_4 post (nI w) (nI h) sf tl ti un be n (nI (cd_cn (cd_fst r) t)) (nI t) := by
  intro n
  induction n with
  | zero => intro t _ hn; omega
  | succ n ih =>
    intro t ht hn
    have I := ih (t + 1)
    refine pk_le 16 t (fun z => ?_) (fun z => ?_)
    · have e : t = 16 := by omega
      rw [e]
      exact K
    · rw [cd_cn_s] at I
      refine cx_first C B (by omega) (fun b => br_f cg_10 (fun x ex y ey => ?_)) (fun b => br_t rfl (fun y ey => ?_))
      · rw [b] at I
        rw [ex, ey, nI_1, nI_1]
        exact I (by omega) (by omega)
      · rw [b] at I
        rw [ey, nI_1]
        exact I (by omega) (by omega)
theorem cx_countKnots {post : Int32 → Prop} (C : cd_Cl r) (B : cg_Be r be) (K : post (nI (cd_cn (cd_fst r) 16))) : wpX_countKnots post (nI w, nI h, sf, tl, ti, un, be) := ⟨17, cx_ck C B K 17 0 (by omega) (by omega)⟩
theorem cx_kb {post : Int32 → Prop} {t : Nat} (C : cd_Cl r) (B : cg_Be r be) (ht : t < 16) (K : post (nI (cd_kb r t))) :
    ∀ n s, s ≤ t → t - s < n → wX_knotsBefore_4 post (nI t) (nI w) (nI h) sf tl ti un be n (nI (cd_cn (fun s => cd_fst r s && (!r s t && !r t s)) s)) (nI s) := by
  intro n
  induction n with
  | zero => intro s _ hn; omega
  | succ n ih =>
    intro s hs hn
    have I := ih (s + 1)
    refine pk_le t s (fun z => ?_) (fun z => ?_)
    · have e : s = t := by omega
      rw [e]
      exact K
    · rw [cd_cn_s] at I
      refine cx_first C B (by omega) (fun b => br_f cg_10 ⟨vp_in_nI (by omega) (by omega), ?_⟩) (fun b => br_t rfl (fun y ey => ?_))
      · rw [nI_clamp (n := s) (by omega), nI_clamp (n := t) (by omega)]
        refine cx_holds (by omega) (fun b2 => br_f cg_10 (fun y ey => ?_)) (fun b2 => br_t rfl ⟨vp_in_nI (by omega) (by omega), cx_holds (by omega) (fun b3 => br_f cg_10 (fun y ey => ?_)) (fun b3 => br_t rfl (fun x ex y ey => ?_))⟩)
        · rw [B s t (by omega) (by omega)] at b2
          rw [b, b2] at I
          rw [ey, nI_1]
          exact I (by omega) (by omega)
        · rw [B s t (by omega) (by omega)] at b2
          rw [B t s (by omega) (by omega)] at b3
          rw [b, b2, b3] at I
          rw [ey, nI_1]
          exact I (by omega) (by omega)
        · rw [B s t (by omega) (by omega)] at b2
          rw [B t s (by omega) (by omega)] at b3
          rw [b, b2, b3] at I
          rw [ex, ey, nI_1, nI_1]
          exact I (by omega) (by omega)
      · rw [b] at I
        rw [ey, nI_1]
        exact I (by omega) (by omega)
theorem cx_knotsBefore {post : Int32 → Prop} {t : Nat} (C : cd_Cl r) (B : cg_Be r be) (ht : t < 16) (K : post (nI (cd_kb r t))) : wpX_knotsBefore post (nI w, nI h, sf, tl, ti, un, be) (nI t) := ⟨t + 1, cx_kb C B ht K (t + 1) 0 (by omega) (by omega)⟩
theorem cx_lf {post : Int32 → SX → Prop} (C : cd_Cl r) (B : cg_Be r be) (K : post (nI (cd_sm (fun t => cond (cd_fst r t) (2 ^ cd_kb r t) 0) 16) - 1) (nI w, nI h, sf, tl, ti, un, be)) :
    ∀ n t, t ≤ 16 → 16 - t < n → wX_lifts_8 post (nI w) (nI h) sf tl ti un be n (nI (cd_sm (fun t => cond (cd_fst r t) (2 ^ cd_kb r t) 0) t)) (nI t) := by
  intro n
  induction n with
  | zero => intro t _ hn; omega
  | succ n ih =>
    intro t ht hn
    have I := ih (t + 1)
    refine pk_le 16 t (fun z => ?_) (fun z => ?_)
    · have e : t = 16 := by omega
      rw [e]
      exact K
    · rw [cd_sm_s] at I
      refine cx_first C B (by omega) (fun b => br_f cg_10 (cx_knotsBefore C B (by omega) (fun x ex y ey => ?_))) (fun b => br_t rfl (fun y ey => ?_))
      · rw [b] at I
        have hk : cd_kb r t ≤ t := cj_kb
        rw [ex, ey, nI_1, ce_sh _ (by omega), nI_add]
        exact I (by omega) (by omega)
      · rw [b] at I
        rw [ey, nI_1]
        exact I (by omega) (by omega)
theorem cx_dv {post : Int32 → SX → Prop} (C : cd_Cl r) (B : cg_Be r be) (K : post (nI (cd_pd (fun t => cond (cd_fst r t) (1 + cd_kb r t) 1) 16)) (nI w, nI h, sf, tl, ti, un, be)) :
    ∀ n t, t ≤ 16 → 16 - t < n → wX_divisions_8 post (nI w) (nI h) sf tl ti un be n (nI (cd_pd (fun t => cond (cd_fst r t) (1 + cd_kb r t) 1) t)) (nI t) := by
  intro n
  induction n with
  | zero => intro t _ hn; omega
  | succ n ih =>
    intro t ht hn
    have I := ih (t + 1)
    refine pk_le 16 t (fun z => ?_) (fun z => ?_)
    · have e : t = 16 := by omega
      rw [e]
      exact K
    · rw [cd_pd_s] at I
      refine cx_first C B (by omega) (fun b => br_f cg_10 (cx_knotsBefore C B (by omega) (fun x ex y ey => ?_))) (fun b => br_t rfl (fun y ey => ?_))
      · rw [b] at I
        have e1 : (1 : Int32) + nI (cd_kb r t) = nI (1 + cd_kb r t) := nI_add 1 _
        rw [ex, ey, nI_1, e1, pk_mul]
        exact I (by omega) (by omega)
      · rw [b] at I
        have I2 := I (by omega) (by omega)
        rw [ey, nI_1]
        rw [show cd_pd (fun t => cond (cd_fst r t) (1 + cd_kb r t) 1) t * cond false (1 + cd_kb r t) 1 = cd_pd (fun t => cond (cd_fst r t) (1 + cd_kb r t) 1) t from Nat.mul_one _] at I2
        exact I2
end
