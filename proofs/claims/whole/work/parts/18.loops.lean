/-! the loops that set all warps, all wefts, all ties -/
section
variable {w h nw : Nat} {ct : Int32} {sf tl ti un be mu pa ne ask wy : Nat → Int32}
theorem cz_rem {f s c : Nat} (hf : f < 4) (hs : s < 4) (hc : c < 8) : (nI f + nI s * nI c) - (nI f + nI s * nI c) / 4 * 4 = nI ((f + s * c) % 4) := by
  have hb : s * c ≤ 3 * 7 := Nat.mul_le_mul (by omega) (by omega)
  rw [pk_mul, nI_add]
  exact pk_rem (d := 4) (by omega) (by omega) (by omega)
theorem cx_ta {post : Int32 → SX → Prop} {f s : Nat} (hw : w ≤ 8) (hf : f < 4) (hs : s < 4) (K : post 0 (nI w, nI h, ci_fill sf (fun c => nI ((f + s * c) % 4)) w, tl, ti, un, be)) :
    ∀ n c, c ≤ w → w - c < n → wX_threadAll_20 post (nI f) (nI s) (nI w) (nI h) n (nI c) (ci_fill sf (fun c => nI ((f + s * c) % 4)) c) tl ti un be := by
  intro n
  induction n with
  | zero => intro c _ hn; omega
  | succ n ih =>
    intro c hc hn
    refine pk_le w c (fun z => ?_) (fun z => ⟨by decide, vp_in_nI (by omega) (by omega), fun a ea y ey => ?_⟩)
    · have e : c = w := by omega
      rw [e]
      exact K
    · rw [ea, ey, nI_1, nI_clamp (n := c) (by omega), cz_rem hf hs (by omega), ci_fill_s sf (fun c => nI ((f + s * c) % 4)) c rfl]
      exact ih (c + 1) (by omega) (by omega)
theorem cx_tra {post : Int32 → SX → Prop} {f s : Nat} (hh : h ≤ 8) (hf : f < 4) (hs : s < 4) (K : post 0 (nI w, nI h, sf, ci_fill tl (fun c => nI ((f + s * c) % 4)) h, ti, un, be)) :
    ∀ n c, c ≤ h → h - c < n → wX_treadleAll_20 post (nI f) (nI s) (nI w) (nI h) n (nI c) sf (ci_fill tl (fun c => nI ((f + s * c) % 4)) c) ti un be := by
  intro n
  induction n with
  | zero => intro c _ hn; omega
  | succ n ih =>
    intro c hc hn
    refine pk_le h c (fun z => ?_) (fun z => ⟨by decide, vp_in_nI (by omega) (by omega), fun a ea y ey => ?_⟩)
    · have e : c = h := by omega
      rw [e]
      exact K
    · rw [ea, ey, nI_1, nI_clamp (n := c) (by omega), cz_rem hf hs (by omega), ci_fill_s tl (fun c => nI ((f + s * c) % 4)) c rfl]
      exact ih (c + 1) (by omega) (by omega)
theorem cy_ta {post : Int32 → SY → Prop} {f s : Nat} (hw : w ≤ 8) (hf : f < 4) (hs : s < 4) (K : post 0 (nI w, nI h, ct, ci_fill sf (fun c => nI ((f + s * c) % 4)) w, tl, ti, mu, pa, ne, ask, wy, nw)) :
    ∀ n c, c ≤ w → w - c < n → wY_threadAll_20 post (nI f) (nI s) (nI w) (nI h) ct nw n (nI c) (ci_fill sf (fun c => nI ((f + s * c) % 4)) c) tl ti mu pa ne ask wy := by
  intro n
  induction n with
  | zero => intro c _ hn; omega
  | succ n ih =>
    intro c hc hn
    refine pk_le w c (fun z => ?_) (fun z => ⟨by decide, vp_in_nI (by omega) (by omega), fun a ea y ey => ?_⟩)
    · have e : c = w := by omega
      rw [e]
      exact K
    · rw [ea, ey, nI_1, nI_clamp (n := c) (by omega), cz_rem hf hs (by omega), ci_fill_s sf (fun c => nI ((f + s * c) % 4)) c rfl]
      exact ih (c + 1) (by omega) (by omega)
theorem cy_tra {post : Int32 → SY → Prop} {f s : Nat} (hh : h ≤ 8) (hf : f < 4) (hs : s < 4) (K : post 0 (nI w, nI h, ct, sf, ci_fill tl (fun c => nI ((f + s * c) % 4)) h, ti, mu, pa, ne, ask, wy, nw)) :
    ∀ n c, c ≤ h → h - c < n → wY_treadleAll_20 post (nI f) (nI s) (nI w) (nI h) ct nw n (nI c) sf (ci_fill tl (fun c => nI ((f + s * c) % 4)) c) ti mu pa ne ask wy := by
  intro n
  induction n with
  | zero => intro c _ hn; omega
  | succ n ih =>
    intro c hc hn
    refine pk_le h c (fun z => ?_) (fun z => ⟨by decide, vp_in_nI (by omega) (by omega), fun a ea y ey => ?_⟩)
    · have e : c = h := by omega
      rw [e]
      exact K
    · rw [ea, ey, nI_1, nI_clamp (n := c) (by omega), cz_rem hf hs (by omega), ci_fill_s tl (fun c => nI ((f + s * c) % 4)) c rfl]
      exact ih (c + 1) (by omega) (by omega)
def cz_sum (ti : Nat → Int32) : Nat → Nat := cd_sm (fun i => cd_cn (bt (15 - ti i)) 4)
theorem cz_sum_s (ti : Nat → Int32) (i : Nat) : cz_sum ti (i + 1) = cz_sum ti i + cd_cn (bt (15 - ti i)) 4 := rfl
theorem cx_iv {post : Int32 → SX → Prop} (O : ci_Ok w h sf tl ti) (K : post (nI (cz_sum ti 4)) (nI w, nI h, sf, tl, ci_fill ti (fun i => 15 - ti i) 4, un, be)) :
    ∀ n i, i ≤ 4 → 4 - i < n → wX_invert_4 post (nI w) (nI h) n (nI (cz_sum ti i)) (nI i) sf tl (ci_fill ti (fun i => 15 - ti i) i) un be := by
  intro n
  induction n with
  | zero => intro i _ hn; omega
  | succ n ih =>
    intro i hi hn
    refine pk_le 4 i (fun z => ?_) (fun z => ⟨vp_in_nI (by omega) (by omega), vp_in_nI (by omega) (by omega), fun a ea => ⟨vp_in_nI (by omega) (by omega), ?_⟩⟩)
    · have e : i = 4 := by omega
      rw [e]
      exact K
    · rw [nI_clamp (n := i) (by omega), ci_fill_j, ci_fill_s ti (fun i => 15 - ti i) i rfl] at ea
      rw [ea, nI_clamp (n := i) (by omega), ci_fill_lt ti (fun i => 15 - ti i) (Nat.lt_succ_self i)]
      refine cx_sizeOf (fun x ex y ey => ?_)
      obtain ⟨s, hs, es⟩ := O.2.2.2 i (by omega)
      have e4 : cd_cn (bt (15 - ti i)) 16 = cd_cn (bt (15 - ti i)) 4 := by
        rw [es, ci_15 s hs]
        exact ci_b4 _ (by omega)
      rw [ex, ey, nI_1, e4, nI_add]
      exact ih (i + 1) (by omega) (by omega)
theorem cy_iv26 {post : Int32 → SY → Prop} {J : Int32 → Int32 → (Nat → Int32) → (Nat → Int32) → (Nat → Int32) → (Nat → Int32) → (Nat → Int32) → (Nat → Int32) → (Nat → Int32) → (Nat → Int32) → Prop} {i m : Nat} (hi : i < 4)
    (K : J (nI (m + cd_cn (bt (ti i)) 4)) (nI (i + 1)) sf tl ti mu pa ne ask wy) :
    ∀ n j, j ≤ 4 → 4 - j < n → wY_invert_26 post J (nI i) (nI w) (nI h) ct sf tl ti mu pa ne ask wy nw n (nI (m + cd_cn (bt (ti i)) j)) (nI j) := by
  intro n
  induction n with
  | zero => intro j _ hn; omega
  | succ n ih =>
    intro j hj hn
    refine pk_le 4 j (fun z y ey => ?_) (fun z => ⟨vp_in_nI (by omega) (by omega), fun x ex y ey => ?_⟩)
    · have e : j = 4 := by omega
      rw [ey, nI_1, e]
      exact K
    · rw [ex, ey, nI_1, nI_clamp (n := i) (by omega), ce_bit _ (by omega), nI_add, Nat.add_assoc]
      exact ih (j + 1) (by omega) (by omega)
theorem cy_iv {post : Int32 → SY → Prop} (K : post (nI (cz_sum ti 4)) (nI w, nI h, ct, sf, tl, ci_fill ti (fun i => 15 - ti i) 4, mu, pa, ne, ask, wy, nw)) :
    ∀ n i, i ≤ 4 → 4 - i < n → wY_invert_4 post (nI w) (nI h) ct nw n (nI (cz_sum ti i)) (nI i) sf tl (ci_fill ti (fun i => 15 - ti i) i) mu pa ne ask wy := by
  intro n
  induction n with
  | zero => intro i _ hn; omega
  | succ n ih =>
    intro i hi hn
    refine pk_le 4 i (fun z => ?_) (fun z => ⟨vp_in_nI (by omega) (by omega), vp_in_nI (by omega) (by omega), fun a ea => ?_⟩)
    · have e : i = 4 := by omega
      rw [e]
      exact K
    · rw [nI_clamp (n := i) (by omega), ci_fill_j, ci_fill_s ti (fun i => 15 - ti i) i rfl] at ea
      rw [ea]
      refine ⟨5, cy_iv26 (m := cz_sum ti i) z ?_ 5 0 (by omega) (by omega)⟩
      rw [ci_fill_lt ti (fun i => 15 - ti i) (Nat.lt_succ_self i)]
      exact ih (i + 1) (by omega) (by omega)
end
