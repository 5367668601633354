/-! X: its small methods, and `under` -/
section
variable {w h : Nat} {sf tl ti un be : Nat → Int32}
theorem cx_isWithin {post : Int32 → Prop} {x : Int32} {n : Nat} (hn : n < 2 ^ 31) (h1 : ci_r x n → post 1) (h0 : ¬ ci_r x n → post 0) : wpX_isWithin post x (nI n) :=
  br_c (fun z => h0 (ci_r_lo hn z)) (fun z => br_c (fun q => h0 (ci_r_hi hn q)) (fun q => h1 (ci_r_in hn z q)))
theorem cx_isWarp {post : Int32 → Prop} {x : Int32} (hw : w ≤ 8) (h1 : ci_r x w → post 1) (h0 : ¬ ci_r x w → post 0) : wpX_isWarp post (nI w, nI h, sf, tl, ti, un, be) x := by
  unfold wpX_isWarp
  exact cx_isWithin (by omega) (fun z => ⟨rfl, h1 z⟩) (fun z => ⟨rfl, h0 z⟩)
theorem cx_isWeft {post : Int32 → Prop} {x : Int32} (hh : h ≤ 8) (h1 : ci_r x h → post 1) (h0 : ¬ ci_r x h → post 0) : wpX_isWeft post (nI w, nI h, sf, tl, ti, un, be) x := by
  unfold wpX_isWeft
  exact cx_isWithin (by omega) (fun z => ⟨rfl, h1 z⟩) (fun z => ⟨rfl, h0 z⟩)
theorem cx_lt8 {x : Int32} (hx : x < 0) : x < 8 := by
  rw [Int32.lt_iff_toInt_lt] at hx ⊢
  have e0 : (0 : Int32).toInt = 0 := by decide
  have e8 : (8 : Int32).toInt = 8 := by decide
  omega
theorem cx_isThread {post : Int32 → Prop} {x : Int32} (hw : w ≤ 8) (hh : h ≤ 8) (h1 : ci_t w h x → post 1) (h0 : ¬ ci_t w h x → post 0) : wpX_isThread post (nI w, nI h, sf, tl, ti, un, be) x := by
  unfold wpX_isThread
  refine cx_isWarp hw (fun z => br_f cg_10 (h1 ?_)) (fun z => br_t rfl ?_)
  · obtain ⟨j, hj, rfl⟩ := z
    exact ⟨j, cd_th_iff.mpr (Or.inl hj), rfl⟩
  · by_cases hx : x < 0
    · refine br_t (cx_lt8 hx) (h0 ?_)
      rintro ⟨t, ht, rfl⟩
      exact nI_pos (by have := ce_th16 hw hh ht; omega) hx
    · obtain ⟨t, ht, rfl⟩ := nI_of hx
      refine pk_lt t 8 (fun q => h0 ?_) (fun q => pk_le (8 + h) t (fun p => h0 ?_) (fun p => h1 ?_) (nI_add 8 h))
      · rw [ci_t_nI hw hh ht, cd_th_iff]
        rintro (a | a)
        · exact z ⟨t, a, rfl⟩
        · omega
      · rw [ci_t_nI hw hh ht, cd_th_iff]
        omega
      · rw [ci_t_nI hw hh ht, cd_th_iff]
        omega
theorem cx_holds {post : Int32 → Prop} {x : Int32} {e : Nat} (he : e < 32) (h1 : bt x e = true → post 1) (h0 : bt x e = false → post 0) : wpX_holds post x (nI e) := cg_if (ce_bit1 x he) h1 h0
theorem cx_above {post : Int32 → Prop} (O : ci_Ok w h sf tl ti) {c r : Nat} (hc : c < 8) (hr : r < 8) (h1 : ci_A sf tl ti c r = true → post 1) (h0 : ci_A sf tl ti c r = false → post 0) : wpX_isWarpAbove post (nI w, nI h, sf, tl, ti, un, be) (nI c) (nI r) := by
  obtain ⟨s, hs, es⟩ := O.2.1 c hc
  obtain ⟨q, hq, eq⟩ := O.2.2.1 r hr
  have e : ci_A sf tl ti c r = bt (ti (nI q).toNatClampNeg) s := by
    unfold ci_A
    rw [es, eq, nI_clamp (n := s) (by omega)]
  rw [e] at h1 h0
  unfold wpX_isWarpAbove
  dsimp only
  rw [nI_clamp (n := c) (by omega), nI_clamp (n := r) (by omega), es, eq]
  exact ⟨vp_in_nI (by omega) (by omega), vp_in_nI (by omega) (by omega), vp_in_nI (by omega) (by omega), cx_holds (by omega) (fun z => ⟨rfl, h1 z⟩) (fun z => ⟨rfl, h0 z⟩)⟩
theorem cx_sz {post : Int32 → Prop} {x : Int32} (K : post (nI (cd_cn (bt x) 16))) : ∀ n i, i ≤ 16 → 16 - i < n → wX_sizeOf_4 post x n (nI (cd_cn (bt x) i)) (nI i) := by
  intro n
  induction n with
  | zero => intro i _ hn; omega
  | succ n ih =>
    intro i hi hn
    refine pk_le 16 i (fun z => ?_) (fun z => ?_)
    · have e : i = 16 := by omega
      rw [e]
      exact K
    · intro y ey x2 ex2
      rw [ey, ex2, nI_1, ce_bit x (by omega), nI_add]
      exact ih (i + 1) (by omega) (by omega)
theorem cx_sizeOf {post : Int32 → Prop} {x : Int32} (K : post (nI (cd_cn (bt x) 16))) : wpX_sizeOf post x := ⟨17, cx_sz K 17 0 (by omega) (by omega)⟩
def cx_Q (h c r : Nat) : Nat → Nat → Prop := fun c' r' => (c' < c ∧ r' < h) ∨ (c' = c ∧ r' < r)
theorem cx_fu33 {post : SX → Prop} {J : Int32 → (Nat → Int32) → (Nat → Int32) → (Nat → Int32) → (Nat → Int32) → (Nat → Int32) → Prop} (O : ci_Ok w h sf tl ti) {c : Nat} (hc : c < w)
    (K : ∀ un', cg_Is un' (cg_U (ci_A sf tl ti) (cx_Q h c h)) → J (nI (c + 1)) sf tl ti un' be) :
    ∀ n r un, r ≤ h → h - r < n → cg_Is un (cg_U (ci_A sf tl ti) (cx_Q h c r)) → wX_findUnder_33 post J (nI c) (nI w) (nI h) n (nI r) sf tl ti un be := by
  have hw := O.1.2.1
  have hh := O.1.2.2.2
  intro n
  induction n with
  | zero => intro r un _ hn; omega
  | succ n ih =>
    intro r un hr hn I
    have e8 : (8 : Int32) + nI r = nI (8 + r) := nI_add 8 r
    have hQ : ∀ c' r', cx_Q h c (r + 1) c' r' ↔ cx_Q h c r c' r' ∨ (c' = c ∧ r' = r) := by
      intro c' r'
      unfold cx_Q
      omega
    refine pk_le h r (fun z => ?_) (fun z => ?_)
    · intro x ex
      have e : r = h := by omega
      rw [e] at I
      rw [ex, nI_1]
      exact K un I
    · refine cx_above O (by omega) (by omega) (fun hA => br_f cg_10 ?_) (fun hA => br_t rfl ?_)
      · refine ⟨vp_in_nI (by omega) (by omega), vp_in_nI (by omega) (by omega), fun a ea x ex => ?_⟩
        rw [ex, nI_1, ea, e8, nI_clamp (n := c) (by omega)]
        exact ih (r + 1) _ (by omega) (by omega) (cg_U_t I (by omega) (by omega) hQ hA)
      · rw [e8]
        refine ⟨vp_in_nI (by omega) (by omega), vp_in_nI (by omega) (by omega), fun a ea x ex => ?_⟩
        rw [ex, nI_1, ea, nI_clamp (n := 8 + r) (by omega)]
        exact ih (r + 1) _ (by omega) (by omega) (cg_U_f I (by omega) (by omega) hQ hA)
theorem cx_fu23 {post : SX → Prop} (O : ci_Ok w h sf tl ti) (K : ∀ un', cg_Un (ci_A sf tl ti) w h un' → post (nI w, nI h, sf, tl, ti, un', be)) :
    ∀ n c un, c ≤ w → w - c < n → cg_Is un (cg_U (ci_A sf tl ti) (cx_Q h c 0)) → wX_findUnder_23 post (nI w) (nI h) n (nI c) sf tl ti un be := by
  have hw := O.1.2.1
  have hh := O.1.2.2.2
  intro n
  induction n with
  | zero => intro c un _ hn; omega
  | succ n ih =>
    intro c un hc hn I
    refine pk_le w c (fun z => ?_) (fun z => ?_)
    · have e : c = w := by omega
      rw [e] at I
      refine K un (cg_U_e hw hh (fun t i ht hi => (I t i ht hi).trans (cg_U_c (fun c r => ?_) t i)))
      unfold cx_Q
      omega
    · refine ⟨h + 1, cx_fu33 O z (fun un' I' => ?_) (h + 1) 0 un (by omega) (by omega) I⟩
      refine ih (c + 1) un' (by omega) (by omega) (fun t i ht hi => (I' t i ht hi).trans (cg_U_c (fun c' r' => ?_) t i))
      unfold cx_Q
      omega
theorem cx_fu2 {post : SX → Prop} (O : ci_Ok w h sf tl ti) (K : ∀ un', cg_Un (ci_A sf tl ti) w h un' → post (nI w, nI h, sf, tl, ti, un', be)) :
    ∀ n t un, t ≤ 16 → 16 - t < n → (∀ s, s < t → un s = 0) → wX_findUnder_2 post (nI w) (nI h) n (nI t) sf tl ti un be := by
  intro n
  induction n with
  | zero => intro t un _ hn; omega
  | succ n ih =>
    intro t un ht hn I
    refine pk_le 16 t (fun z => ?_) (fun z => ?_)
    · have e : t = 16 := by omega
      rw [e] at I
      refine ⟨w + 1, cx_fu23 O K (w + 1) 0 un (by omega) (by omega) (fun t i ht hi => (cg_U_0 I t i ht hi).trans (cg_U_c (fun c' r' => ?_) t i))⟩
      exact ⟨fun q => q.elim, fun q => by unfold cx_Q at q; omega⟩
    · refine ⟨vp_in_nI (by omega) (by omega), fun a ea x ex => ?_⟩
      rw [ex, nI_1, ea, nI_clamp (n := t) (by omega)]
      refine ih (t + 1) _ (by omega) (by omega) (fun s hs => ?_)
      by_cases e : s = t
      · rw [e, pk_us]
      · rw [pk_un e]
        exact I s (by omega)
theorem cx_findUnder {post : SX → Prop} (O : ci_Ok w h sf tl ti) (K : ∀ un', cg_Un (ci_A sf tl ti) w h un' → post (nI w, nI h, sf, tl, ti, un', be)) : wpX_findUnder post (nI w, nI h, sf, tl, ti, un, be) :=
  ⟨17, cx_fu2 O K 17 0 un (by omega) (by omega) (fun s hs => absurd hs (Nat.not_lt_zero s))⟩
end
