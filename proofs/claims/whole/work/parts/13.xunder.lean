/-! X: what it reads off `under` -/
section
variable {w h : Nat} {sf tl ti un be : Nat → Int32}
theorem cx_lr {post : Int32 → Prop} {x : Int32} {len : Nat} (hl : len ≤ 8) (K : post (nI (cf_rb (bt x) len).2)) : ∀ n i, i ≤ len → len - i < n → wX_longestRun_7 post x (nI len) n (nI (cf_rb (bt x) i).1) (nI (cf_rb (bt x) i).2) (nI i) := by
  intro n
  induction n with
  | zero => intro i _ hn; omega
  | succ n ih =>
    intro i hi hn
    have hb := cf_rb_le (bt x) i
    have go : ∀ run, run ≤ i + 1 → cond (decide (0 < i) && (bt x i == bt x (i - 1))) ((cf_rb (bt x) i).1 + 1) 1 = run → i < len → wX_longestRun_54 post (wX_longestRun_7 post x (nI len) n) x (nI len) (nI (cf_rb (bt x) i).2) (nI i) (nI run) := by
      intro run hr e hil
      have e2 : cf_rb (bt x) (i + 1) = (run, if (cf_rb (bt x) i).2 < run then run else (cf_rb (bt x) i).2) := by
        rw [cf_rb_s]
        unfold cf_st
        rw [e]
      have I := ih (i + 1) (by omega) (by omega)
      rw [e2] at I
      dsimp only at I
      refine pk_le run (cf_rb (bt x) i).2 (fun z y ey => ?_) (fun z y ey => ?_)
      · rw [if_neg (by omega)] at I
        rw [ey, nI_1]
        exact I
      · rw [if_pos (by omega)] at I
        rw [ey, nI_1]
        exact I
    refine pk_le len i (fun z => ?_) (fun z => pk_le i 0 (fun q => ?_) (fun q => ?_))
    · have e : i = len := by omega
      rw [e]
      exact K
    · refine br_t rfl (go 1 (by omega) ?_ z)
      rw [decide_eq_false (by omega), Bool.false_and]
      try rfl
    · have em : nI i - 1 = nI (i - 1) := pk_sub (b := 1) (by omega)
      rw [em]
      refine cx_holds (by omega) (fun b1 => ?_) (fun b1 => ?_)
      · refine cx_holds (by omega) (fun b2 => ?_) (fun b2 => ?_)
        · refine br_t rfl (br_f cg_10 ?_)
          rw [nI_1]
          refine go _ (by omega) ?_ z
          rw [b1, b2, decide_eq_true q]
          try rfl
        · refine br_f cg_10 (br_t rfl (go 1 (by omega) ?_ z))
          rw [b1, b2, decide_eq_true q]
          try rfl
      · refine cx_holds (by omega) (fun b2 => ?_) (fun b2 => ?_)
        · refine br_f cg_01 (br_t rfl (go 1 (by omega) ?_ z))
          rw [b1, b2, decide_eq_true q]
          try rfl
        · refine br_t rfl (br_f cg_10 ?_)
          rw [nI_1]
          refine go _ (by omega) ?_ z
          rw [b1, b2, decide_eq_true q]
          try rfl
theorem cx_longestRun {post : Int32 → Prop} {x : Int32} {len : Nat} (hl : len ≤ 8) (K : post (nI (cf_rb (bt x) len).2)) : wpX_longestRun post x (nI len) := ⟨len + 1, cx_lr hl K (len + 1) 0 (by omega) (by omega)⟩
theorem cx_nf {post : Int32 → Prop} {f t : Nat} (ht : t < 16) (h1 : cf_nw (fun s t => decide (un s = un t)) f t = true → post 1) (h0 : cf_nw (fun s t => decide (un s = un t)) f t = false → post 0) :
    ∀ n s, f ≤ s → s ≤ t → t - s < n → (∀ s', s' < s → f ≤ s' → ¬ un s' = un t) → wX_isNewFrom_2 post (nI t) (nI w) (nI h) sf tl ti un be n (nI s) := by
  intro n
  induction n with
  | zero => intro s _ _ hn; omega
  | succ n ih =>
    intro s hf hs hn I
    refine pk_le t s (fun z => h1 ?_) (fun z => ?_)
    · have e : s = t := by omega
      rw [e] at I
      exact cf_nw_iff.mpr (fun s' a b => decide_eq_false (I s' a b))
    · refine ⟨vp_in_nI (by omega) (by omega), vp_in_nI (by omega) (by omega), ?_⟩
      rw [nI_clamp (n := s) (by omega), nI_clamp (n := t) (by omega)]
      refine br_c (fun e => h0 (cd_nt (fun q => ?_))) (fun e y ey => ?_)
      · have := cf_nw_iff.mp q s (by omega) hf
        rw [decide_eq_false_iff_not] at this
        exact this e
      · rw [ey, nI_1]
        refine ih (s + 1) (by omega) (by omega) (by omega) (fun s' a b => ?_)
        by_cases e' : s' = s
        · rw [e']
          exact e
        · exact I s' (by omega) b
theorem cx_isNewFrom {post : Int32 → Prop} {f t : Nat} (hf : f ≤ t) (ht : t < 16) (h1 : cf_nw (fun s t => decide (un s = un t)) f t = true → post 1) (h0 : cf_nw (fun s t => decide (un s = un t)) f t = false → post 0) : wpX_isNewFrom post (nI w, nI h, sf, tl, ti, un, be) (nI f) (nI t) :=
  ⟨t - f + 1, cx_nf ht h1 h0 (t - f + 1) f (Nat.le_refl f) hf (by omega) (fun s' a b => by omega)⟩
theorem cx_cd {post : Int32 → Prop} {f m : Nat} (hm : f + m ≤ 16) (K : post (nI (cd_cn (fun j => cf_nw (fun s t => decide (un s = un t)) f (f + j)) m))) :
    ∀ n j, j ≤ m → m - j < n → wX_countDifferent_5 post (nI f) (nI m) (nI w) (nI h) sf tl ti un be n (nI (cd_cn (fun j => cf_nw (fun s t => decide (un s = un t)) f (f + j)) j)) (nI (f + j)) := by
  intro n
  induction n with
  | zero => intro j _ hn; omega
  | succ n ih =>
    intro j hj hn
    have I := ih (j + 1)
    refine pk_le (f + m) (f + j) (fun z => ?_) (fun z => ?_) (nI_add f m)
    · have e : j = m := by omega
      rw [e]
      exact K
    · rw [cd_cn_s] at I
      refine cx_isNewFrom (by omega) (by omega) (fun b => br_f cg_10 (fun x ex y ey => ?_)) (fun b => br_t rfl (fun y ey => ?_))
      · rw [b] at I
        rw [ex, ey, nI_1, nI_1]
        exact I (by omega) (by omega)
      · rw [b] at I
        rw [ey, nI_1]
        exact I (by omega) (by omega)
theorem cx_countDifferent {post : Int32 → Prop} {f m : Nat} (hm : f + m ≤ 16) (K : post (nI (cd_cn (fun j => cf_nw (fun s t => decide (un s = un t)) f (f + j)) m))) : wpX_countDifferent post (nI w, nI h, sf, tl, ti, un, be) (nI f) (nI m) :=
  ⟨m + 1, cx_cd hm K (m + 1) 0 (by omega) (by omega)⟩
theorem cx_li {post : Int32 → SX → Prop} {x : Int32} (O : ci_Ok w h sf tl ti) (U : cg_Un (ci_A sf tl ti) w h un) (h1 : cf_lift (ci_A sf tl ti) w h (bt x) = true → post 1 (nI w, nI h, sf, tl, ti, un, be)) (h0 : cf_lift (ci_A sf tl ti) w h (bt x) = false → post 0 (nI w, nI h, sf, tl, ti, un, be)) :
    ∀ n t, t ≤ 16 → 16 - t < n → (∀ s, s < t → bt x s = false → un s &&& x = 0) → wX_liftable_6 post x (nI w) (nI h) sf tl ti un be n (nI t) := by
  have hw := O.1.2.1
  have hh := O.1.2.2.2
  intro n
  induction n with
  | zero => intro t _ hn; omega
  | succ n ih =>
    intro t ht hn I
    refine pk_le 16 t (fun z => h1 ?_) (fun z => ?_)
    · have e : t = 16 := by omega
      rw [e] at I
      exact cf_lift_iff.mpr (fun s hs hx => (cj_and hw hh U hs x).mp (I s hs hx))
    · refine cx_holds (by omega) (fun b => br_f cg_10 (fun y ey => ?_)) (fun b => br_t rfl ⟨vp_in_nI (by omega) (by omega), ?_⟩)
      · rw [ey, nI_1]
        refine ih (t + 1) (by omega) (by omega) (fun s hs hx => ?_)
        by_cases e : s = t
        · rw [e] at hx
          exact (cd_tf hx b).elim
        · exact I s (by omega) hx
      · rw [nI_clamp (n := t) (by omega)]
        refine br_c (fun e y ey => ?_) (fun e => h0 (cd_nt (fun q => ?_)))
        · rw [ey, nI_1]
          refine ih (t + 1) (by omega) (by omega) (fun s hs hx => ?_)
          by_cases e' : s = t
          · rw [e']
            exact e
          · exact I s (by omega) hx
        · exact e ((cj_and hw hh U (by omega) x).mpr (cf_lift_iff.mp q t (by omega) b))
end
