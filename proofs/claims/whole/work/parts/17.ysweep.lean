/-! the reference: its sweep over the sets of knots -/
section
variable {w h nw n : Nat} {sf tl ti mu pa ne ask wy : Nat → Int32} {L : Nat → Nat → Bool}
theorem cy_sw19 {post : Int32 → SY → Prop} {J2 : Int32 → (Nat → Int32) → (Nat → Int32) → (Nat → Int32) → (Nat → Int32) → (Nat → Int32) → (Nat → Int32) → (Nat → Int32) → (Nat → Int32) → Prop} (hn : n ≤ 16) {k : Nat} (hk : k < n) (hO : cd_Ord n L)
    (hA : ∀ j, j < n → j ≠ k → (pa j &&& ne k = 0 ↔ L j k = false))
    (K : ∀ a, ch_As L n k n a → J2 (nI (k + 1)) sf tl ti mu pa ne a wy) :
    ∀ f j a, j ≤ n → n - j < f → ch_As L n k j a → wY_sweep_19 post J2 (nI k) (nI w) (nI h) (nI n) nw f (nI j) sf tl ti mu pa ne a wy := by
  intro f
  induction f with
  | zero => intro j a _ hf; omega
  | succ f ih =>
    intro j a hj hf I
    refine pk_le n j (fun z y ey => ?_) (fun z => pk_eq j k (fun e y ey => ?_) (fun e => ⟨vp_in_nI (by omega) (by omega), vp_in_nI (by omega) (by omega), ?_⟩))
    · have e : j = n := by omega
      rw [e] at I
      rw [ey, nI_1]
      exact K a I
    · rw [ey, nI_1]
      refine ih (j + 1) a (by omega) (by omega) (ch_As_n I ?_)
      rw [e]
      exact hO.1 k hk
    · rw [nI_clamp (n := j) (by omega), nI_clamp (n := k) (by omega)]
      refine cg_fi (hA j z e) (fun b => ⟨vp_in_nI (by omega) (by omega), vp_in_nI (by omega) (by omega), fun a' ea y ey => ?_⟩) (fun b y ey => ?_)
      · rw [ea, ey, nI_1]
        exact ih (j + 1) _ (by omega) (by omega) (ch_As_y I (by omega) b)
      · rw [ey, nI_1]
        exact ih (j + 1) a (by omega) (by omega) (ch_As_n I b)
theorem cy_sw132 {post : Int32 → SY → Prop} {J108 : Int32 → Int32 → (Nat → Int32) → (Nat → Int32) → (Nat → Int32) → (Nat → Int32) → (Nat → Int32) → (Nat → Int32) → (Nat → Int32) → (Nat → Int32) → Prop} {x1 : Int32} (hn : n ≤ 16) (hO : cd_Ord n L)
    (hA : ∀ k', k' < n → ∀ i, i < 32 → bt (ask k') i = (decide (i < n) && L i k')) {S : Nat} (hS : S < 2 ^ n)
    (K : ∀ a, ch_Wk L n S n a → J108 x1 (nI (S + 1)) sf tl ti mu pa ne ask a) :
    ∀ f k a, k ≤ n → n - k < f → ch_Wk L n S k a → wY_sweep_132 post J108 x1 (nI S) (nI w) (nI h) (nI n) 65536 f (nI k) sf tl ti mu pa ne ask a := by
  have hp := cj_pw hn
  intro f
  induction f with
  | zero => intro k a _ hf; omega
  | succ f ih =>
    intro k a hk hf I
    refine pk_le n k (fun z y ey => ?_) (fun z => ?_)
    · have e : k = n := by omega
      rw [e] at I
      rw [ey, nI_1]
      exact K a I
    · have nx : (!S.testBit k && cd_ok L n S k) = false → ∀ y, y = nI k + 1 → wY_sweep_132 post J108 x1 (nI S) (nI w) (nI h) (nI n) 65536 f y sf tl ti mu pa ne ask a := by
        intro q y ey
        rw [ey, nI_1]
        exact ih (k + 1) a (by omega) (by omega) (ch_Wk_n I q)
      refine cg_fi (ce_bit0 (nI S) (by omega)) (fun b => br_t rfl (nx ?_)) (fun b => ⟨vp_in_nI (by omega) (by omega), ?_⟩)
      · rw [ce_nI S (by omega)] at b
        rw [b]
        try rfl
      · rw [ce_nI S (by omega)] at b
        rw [nI_clamp (n := k) (by omega)]
        refine cg_if (ch_ok hn hA z) (fun c => br_f cg_10 ?_) (fun c => br_t rfl (nx ?_))
        · have hor := ch_or_lt hS z
          rw [ce_sh k (by omega), ce_nor, nI_clamp (n := S ||| 2 ^ k) (by omega), nI_clamp (n := S) (by omega)]
          refine ⟨vp_in_nI (by omega) (by omega), vp_in_nI (by omega) (by omega), vp_in_nI (by omega) (by omega), fun a' ea y ey => ?_⟩
          rw [ea, ey, nI_1]
          exact ih (k + 1) _ (by omega) (by omega) (ch_Wk_y hO I hS z (by rw [b, c]; try rfl))
        · rw [c, Bool.and_false]
theorem cy_sw108 {post : Int32 → SY → Prop} (hn : n ≤ 16) (hO : cd_Ord n L) (hv : ∀ S, cd_val L n S < 2147483648)
    (hA : ∀ k', k' < n → ∀ i, i < 32 → bt (ask k') i = (decide (i < n) && L i k'))
    (K : ∀ a, (∀ T, T < 2 ^ n → a T = nI (cd_val L n T)) → post (nI (cd_cn (fun S => cd_cl L n S.testBit) (2 ^ n))) (nI w, nI h, nI n, sf, tl, ti, mu, pa, ne, ask, a, 65536)) :
    ∀ f S a, S ≤ 2 ^ n → 2 ^ n - S < f → ch_Wk L n S 0 a → wY_sweep_108 post (nI w) (nI h) (nI n) 65536 f (nI (cd_cn (fun S => cd_cl L n S.testBit) S)) (nI S) sf tl ti mu pa ne ask a := by
  have hp := cj_pw hn
  intro f
  induction f with
  | zero => intro S a _ hf; omega
  | succ f ih =>
    intro S a hS hf I
    refine pk_le (2 ^ n) S (fun z => ?_) (fun z => ⟨vp_in_nI (by omega) (by omega), ?_⟩) (ce_sh n (by omega))
    · have e : S = 2 ^ n := by omega
      rw [e] at I ⊢
      refine K a (fun T hT => ?_)
      rw [I T hT, cd_W_T hO hT (by omega)]
      rfl
    · rw [nI_clamp (n := S) (by omega), ch_Wk_S hO I z]
      have hvS := hv S
      have J := fun a' => ih (S + 1) a'
      rw [cd_cn_s] at J
      refine pk_le (cd_val L n S) 0 (fun q y ey => ?_) (fun q y ey => ?_)
      · have hc : cd_cl L n S.testBit = false := cd_nt (fun p => by have := cd_v_pos.mpr p; omega)
        rw [hc] at J
        rw [ey, nI_1]
        exact J a (by omega) (by omega) (ch_Wk_z I (by omega))
      · have hc : cd_cl L n S.testBit = true := cd_v_pos.mp q
        rw [hc] at J
        rw [ey, nI_1]
        exact ⟨n + 1, cy_sw132 hn hO hA z (fun a' I' => J a' (by omega) (by omega) (ch_Wk_e I')) (n + 1) 0 a (by omega) (by omega) I⟩
theorem cy_sw74 {post : Int32 → SY → Prop} (hn : n ≤ 16) (hO : cd_Ord n L) (hv : ∀ S, cd_val L n S < 2147483648)
    (hA : ∀ k', k' < n → ∀ i, i < 32 → bt (ask k') i = (decide (i < n) && L i k'))
    (K : ∀ a, (∀ T, T < 2 ^ n → a T = nI (cd_val L n T)) → post (nI (cd_cn (fun S => cd_cl L n S.testBit) (2 ^ n))) (nI w, nI h, nI n, sf, tl, ti, mu, pa, ne, ask, a, 65536)) :
    ∀ f S a, 1 ≤ S → S ≤ 2 ^ n → 2 ^ n - S < f → (∀ T, 0 < T → T < S → a T = 0) → wY_sweep_74 post (nI w) (nI h) (nI n) 65536 f (nI S) sf tl ti mu pa ne ask a := by
  have hp := cj_pw hn
  intro f
  induction f with
  | zero => intro S a _ _ hf; omega
  | succ f ih =>
    intro S a h1 hS hf I
    refine pk_le (2 ^ n) S (fun z => ⟨vp_in_nI (n := 0) (by omega) (by omega), fun a' ea => ?_⟩) (fun z => ⟨vp_in_nI (by omega) (by omega), fun a' ea y ey => ?_⟩) (ce_sh n (by omega))
    · have e : S = 2 ^ n := by omega
      have e0 : (0 : Int32).toNatClampNeg = 0 := by decide
      rw [e0] at ea
      rw [ea]
      refine ⟨2 ^ n + 1, cy_sw108 hn hO hv hA K (2 ^ n + 1) 0 _ (by omega) (by omega) (ch_Wk_0 pk_us (fun T hT hT' => ?_))⟩
      rw [pk_un (by omega)]
      exact I T hT (by omega)
    · rw [ea, ey, nI_1, nI_clamp (n := S) (by omega)]
      refine ih (S + 1) _ (by omega) (by omega) (by omega) (fun T hT hT' => ?_)
      by_cases e : T = S
      · rw [e, pk_us]
      · rw [pk_un e]
        exact I T hT (by omega)
theorem cy_sw2 {post : Int32 → SY → Prop} (hn : n ≤ 16) (hO : cd_Ord n L) (hv : ∀ S, cd_val L n S < 2147483648)
    (hP : ∀ k j, k < n → j < n → j ≠ k → (pa j &&& ne k = 0 ↔ L j k = false))
    (K : ∀ ask' a, (∀ T, T < 2 ^ n → a T = nI (cd_val L n T)) → post (nI (cd_cn (fun S => cd_cl L n S.testBit) (2 ^ n))) (nI w, nI h, nI n, sf, tl, ti, mu, pa, ne, ask', a, 65536)) :
    ∀ f k a, k ≤ n → n - k < f → (∀ k', k' < k → ∀ i, i < 32 → bt (a k') i = (decide (i < n) && L i k')) → wY_sweep_2 post (nI w) (nI h) (nI n) 65536 f (nI k) sf tl ti mu pa ne a wy := by
  have hp := cj_pw hn
  have hp1 : 1 ≤ 2 ^ n := Nat.two_pow_pos n
  intro f
  induction f with
  | zero => intro k a _ hf; omega
  | succ f ih =>
    intro k a hk hf I
    refine pk_le n k (fun z => ?_) (fun z => ⟨vp_in_nI (by omega) (by omega), fun a' ea => ?_⟩)
    · have e : k = n := by omega
      rw [e] at I
      exact ⟨2 ^ n + 1, cy_sw74 hn hO hv I (K a) (2 ^ n + 1) 1 wy (by omega) hp1 (by omega) (fun T hT hT' => by omega)⟩
    · rw [ea, nI_clamp (n := k) (by omega)]
      exact ⟨n + 1, cy_sw19 hn z hO (fun j hj hne => hP k j z hj hne) (fun b hb => ih (k + 1) b (by omega) (by omega) (ch_As_e hb)) (n + 1) 0 _ (by omega) (by omega) (ch_As_0 I)⟩
theorem cy_sweep {post : Int32 → SY → Prop} {r : Nat → Nat → Bool} (C : cd_Cl r) (hr : ∀ i, r i i = true → i < 16) (M : ch_Mf r mu) (P : ch_Pn r mu 16 pa ne)
    (K : ∀ ask' a, (∀ T, T < 2 ^ cd_cn (cd_fst r) 16 → a T = nI (cd_val (cd_L r) (cd_cn (cd_fst r) 16) T)) → post (nI (1 + cd_sm (fun t => cond (cd_fst r t) (2 ^ cd_kb r t) 0) 16)) (nI w, nI h, nI (cd_cn (cd_fst r) 16), sf, tl, ti, mu, pa, ne, ask', a, 65536)) :
    wpY_sweep post (nI w, nI h, nI (cd_cn (cd_fst r) 16), sf, tl, ti, mu, pa, ne, ask, wy, 65536) := by
  have K' : ∀ ask' a, (∀ T, T < 2 ^ cd_cn (cd_fst r) 16 → a T = nI (cd_val (cd_L r) (cd_cn (cd_fst r) 16) T)) → post (nI (cd_cn (fun S => cd_cl (cd_L r) (cd_cn (cd_fst r) 16) S.testBit) (2 ^ cd_cn (cd_fst r) 16))) (nI w, nI h, nI (cd_cn (cd_fst r) 16), sf, tl, ti, mu, pa, ne, ask', a, 65536) := by
    rw [cd_lifts C]
    exact K
  exact ⟨cd_cn (cd_fst r) 16 + 1, cy_sw2 (cd_cn_le _ _) (cd_L_Ord C 16) (fun S => cd_vb C S) (fun k j hk hj hne => ch_ask C hr M P hk hj hne) K' (cd_cn (cd_fst r) 16 + 1) 0 ask (by omega) (by omega) (fun k' hk' => absurd hk' (Nat.not_lt_zero k'))⟩
end
