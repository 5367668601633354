/-! the threads of a cloth of w warps and h wefts; A c r: warp c is above weft r -/
def cd_th (w h t : Nat) : Bool := decide (t < w) || (decide (8 ≤ t) && decide (t < 8 + h))
def cd_ab (A : Nat → Nat → Bool) (w h t u : Nat) : Bool :=
  (decide (t < w) && (decide (8 ≤ u) && (decide (u < 8 + h) && A t (u - 8)))) || (decide (8 ≤ t) && (decide (t < 8 + h) && (decide (u < w) && !A u (t - 8))))
theorem cd_th_iff {w h t : Nat} : cd_th w h t = true ↔ t < w ∨ (8 ≤ t ∧ t < 8 + h) := by
  unfold cd_th
  rw [Bool.or_eq_true, Bool.and_eq_true, decide_eq_true_eq, decide_eq_true_eq, decide_eq_true_eq]
theorem cd_nb {b : Bool} : (!b) = true ↔ b = false := by cases b <;> decide
theorem cd_ab_iff {A : Nat → Nat → Bool} {w h t u : Nat} : cd_ab A w h t u = true ↔ (t < w ∧ 8 ≤ u ∧ u < 8 + h ∧ A t (u - 8) = true) ∨ (8 ≤ t ∧ t < 8 + h ∧ u < w ∧ A u (t - 8) = false) := by
  unfold cd_ab
  rw [Bool.or_eq_true, Bool.and_eq_true, Bool.and_eq_true, Bool.and_eq_true, Bool.and_eq_true, Bool.and_eq_true, Bool.and_eq_true, cd_nb, decide_eq_true_eq, decide_eq_true_eq, decide_eq_true_eq, decide_eq_true_eq, decide_eq_true_eq, decide_eq_true_eq]
theorem cd_ab_th {A : Nat → Nat → Bool} {w h t u : Nat} (e : cd_ab A w h t u = true) : cd_th w h t = true ∧ cd_th w h u = true := by
  rw [cd_th_iff, cd_th_iff]
  rcases cd_ab_iff.mp e with z | z
  · exact ⟨Or.inl z.1, Or.inr ⟨z.2.1, z.2.2.1⟩⟩
  · exact ⟨Or.inr ⟨z.1, z.2.1⟩, Or.inl z.2.2.1⟩
theorem cd_ab_x {A : Nat → Nat → Bool} {w h c r : Nat} (hc : c < w) (hr : 8 ≤ r) (hr' : r < 8 + h) : cd_ab A w h c r = true ∨ cd_ab A w h r c = true := by
  cases e : A c (r - 8) with
  | true => exact Or.inl (cd_ab_iff.mpr (Or.inl ⟨hc, hr, hr', e⟩))
  | false => exact Or.inr (cd_ab_iff.mpr (Or.inr ⟨hr, hr', hc, e⟩))
/-! y is reached from x going down: the least set that holds x and goes down with ab -/
def cd_R (ab : Nat → Nat → Bool) (t u : Nat) : Prop := ∀ P : Nat → Prop, P t → (∀ x y, P x → ab x y = true → P y) → P u
theorem cd_R_r (ab : Nat → Nat → Bool) (t : Nat) : cd_R ab t t := fun _ h _ => h
theorem cd_R_t {ab : Nat → Nat → Bool} {t u v : Nat} (h : cd_R ab t u) (h' : cd_R ab u v) : cd_R ab t v := fun P p s => h' P (h P p s) s
theorem cd_R_1 {ab : Nat → Nat → Bool} {t u : Nat} (h : ab t u = true) : cd_R ab t u := fun _ p s => s t u p h
theorem cd_R_l {ab : Nat → Nat → Bool} {t u : Nat} (h : cd_R ab t u) : u = t ∨ ∃ y, ab t y = true ∧ cd_R ab y u := by
  refine h (fun z => z = t ∨ ∃ y, ab t y = true ∧ cd_R ab y z) (Or.inl rfl) ?_
  rintro x y (rfl | ⟨z, hz, hr⟩) hxy
  · exact Or.inr ⟨y, hxy, cd_R_r ab y⟩
  · exact Or.inr ⟨z, hz, cd_R_t hr (cd_R_1 hxy)⟩
theorem cd_R_g {ab : Nat → Nat → Bool} {t u : Nat} (h : cd_R ab t u) : u = t ∨ ∃ y, cd_R ab t y ∧ ab y u = true := by
  have := h (fun z => cd_R ab t z ∧ (z = t ∨ ∃ y, cd_R ab t y ∧ ab y z = true)) ⟨cd_R_r ab t, Or.inl rfl⟩
    (fun x y hx hxy => ⟨cd_R_t hx.1 (cd_R_1 hxy), Or.inr ⟨x, hx.1, hxy⟩⟩)
  exact this.2
noncomputable def cd_rr (A : Nat → Nat → Bool) (w h t u : Nat) : Bool := cd_th w h t && (cd_th w h u && @decide (cd_R (cd_ab A w h) t u) (Classical.propDecidable _))
theorem cd_rr_iff {A : Nat → Nat → Bool} {w h t u : Nat} : cd_rr A w h t u = true ↔ cd_th w h t = true ∧ cd_th w h u = true ∧ cd_R (cd_ab A w h) t u := by
  unfold cd_rr
  rw [Bool.and_eq_true, Bool.and_eq_true, @decide_eq_true_eq (cd_R (cd_ab A w h) t u) (Classical.propDecidable _)]
theorem cd_rr_th {A : Nat → Nat → Bool} {w h t : Nat} : cd_rr A w h t t = cd_th w h t := by
  apply Bool.eq_iff_iff.mpr
  rw [cd_rr_iff]
  exact ⟨fun z => z.1, fun z => ⟨z, z, cd_R_r _ t⟩⟩
/-- what is used of the relation: each thread is beneath itself, it is transitive, threads that aren't comparable stand alike to all others, a warp and a weft are comparable -/
def cd_Cl (r : Nat → Nat → Bool) : Prop :=
  (∀ x y, r x y = true → r x x = true ∧ r y y = true) ∧
  (∀ x y z, r x y = true → r y z = true → r x z = true) ∧
  (∀ a b x, r a a = true → r b b = true → r a b = false → r b a = false → r a x = true → x ≠ a → r b x = true) ∧
  (∀ a b x, r a a = true → r b b = true → r a b = false → r b a = false → r x a = true → x ≠ a → r x b = true) ∧
  (∀ a b, a < 8 → 8 ≤ b → r a a = true → r b b = true → r a b = true ∨ r b a = true)
theorem cd_rr_f {A : Nat → Nat → Bool} {w h t u : Nat} (ht : cd_th w h t = true) (hu : cd_th w h u = true) (e : cd_rr A w h t u = false) : ¬ cd_R (cd_ab A w h) t u :=
  fun z => cd_tf e (cd_rr_iff.mpr ⟨ht, hu, z⟩)
theorem cd_side {A : Nat → Nat → Bool} {w h a b y : Nat} (hw : w ≤ 8) (ha : cd_th w h a = true) (hb : cd_th w h b = true) (n1 : ¬ cd_R (cd_ab A w h) a b) (n2 : ¬ cd_R (cd_ab A w h) b a) (hy : cd_ab A w h a y = true ∨ cd_ab A w h y a = true) :
    cd_ab A w h b y = true ∨ cd_ab A w h y b = true := by
  rw [cd_th_iff] at ha hb
  have hyy : (a < 8 ∧ 8 ≤ y ∧ y < 8 + h) ∨ (8 ≤ a ∧ y < w) := by
    rcases hy with z | z
    · rcases cd_ab_iff.mp z with q | q
      · exact Or.inl ⟨by omega, q.2.1, q.2.2.1⟩
      · exact Or.inr ⟨q.1, q.2.2.1⟩
    · rcases cd_ab_iff.mp z with q | q
      · exact Or.inr ⟨q.2.1, q.1⟩
      · exact Or.inl ⟨by omega, q.1, q.2.1⟩
  rcases ha with ha | ⟨ha, ha'⟩
  · rcases hb with hb | ⟨hb, hb'⟩
    · rcases hyy with q | q
      · exact cd_ab_x hb q.2.1 q.2.2
      · omega
    · rcases cd_ab_x (A := A) ha hb hb' with z | z
      · exact absurd (cd_R_1 z) n1
      · exact absurd (cd_R_1 z) n2
  · rcases hb with hb | ⟨hb, hb'⟩
    · rcases cd_ab_x (A := A) hb ha ha' with z | z
      · exact absurd (cd_R_1 z) n2
      · exact absurd (cd_R_1 z) n1
    · rcases hyy with q | q
      · omega
      · exact (cd_ab_x (A := A) q.2 hb hb').symm
theorem cd_rr_Cl (A : Nat → Nat → Bool) {w h : Nat} (hw : w ≤ 8) : cd_Cl (cd_rr A w h) := by
  refine ⟨?_, ?_, ?_, ?_, ?_⟩
  · intro x y e
    obtain ⟨h1, h2, h3⟩ := cd_rr_iff.mp e
    rw [cd_rr_th, cd_rr_th]
    exact ⟨h1, h2⟩
  · intro x y z e1 e2
    obtain ⟨h1, h2, h3⟩ := cd_rr_iff.mp e1
    obtain ⟨h4, h5, h6⟩ := cd_rr_iff.mp e2
    exact cd_rr_iff.mpr ⟨h1, h5, cd_R_t h3 h6⟩
  · intro a b x ha hb n1 n2 e hx
    rw [cd_rr_th] at ha hb
    obtain ⟨h1, h2, h3⟩ := cd_rr_iff.mp e
    have m1 := cd_rr_f ha hb n1
    have m2 := cd_rr_f hb ha n2
    rcases cd_R_l h3 with z | ⟨y, hy, hr⟩
    · exact absurd z hx
    · rcases cd_side hw ha hb m1 m2 (Or.inl hy) with z | z
      · exact cd_rr_iff.mpr ⟨hb, h2, cd_R_t (cd_R_1 z) hr⟩
      · exact absurd (cd_R_t (cd_R_1 hy) (cd_R_1 z)) m1
  · intro a b x ha hb n1 n2 e hx
    rw [cd_rr_th] at ha hb
    obtain ⟨h1, h2, h3⟩ := cd_rr_iff.mp e
    have m1 := cd_rr_f ha hb n1
    have m2 := cd_rr_f hb ha n2
    rcases cd_R_g h3 with z | ⟨y, hr, hy⟩
    · exact absurd z.symm hx
    · rcases cd_side hw ha hb m1 m2 (Or.inr hy) with z | z
      · exact absurd (cd_R_t (cd_R_1 z) (cd_R_1 hy)) m2
      · exact cd_rr_iff.mpr ⟨h1, hb, cd_R_t hr (cd_R_1 z)⟩
  · intro a b ha hb h1 h2
    rw [cd_rr_th] at h1 h2
    have q1 := cd_th_iff.mp h1
    have q2 := cd_th_iff.mp h2
    rcases cd_ab_x (A := A) (w := w) (h := h) (c := a) (r := b) (by omega) hb (by omega) with z | z
    · exact Or.inl (cd_rr_iff.mpr ⟨h1, h2, cd_R_1 z⟩)
    · exact Or.inr (cd_rr_iff.mpr ⟨h2, h1, cd_R_1 z⟩)
/-! the first threads of the knots, and their ranks -/
def cd_eq (r : Nat → Nat → Bool) (a b : Nat) : Bool := r a b && r b a
def cd_fst (r : Nat → Nat → Bool) (t : Nat) : Bool := r t t && decide (∀ u, u < t → cd_eq r u t = false)
theorem cd_eq_iff {r : Nat → Nat → Bool} {a b : Nat} : cd_eq r a b = true ↔ r a b = true ∧ r b a = true := by
  unfold cd_eq
  rw [Bool.and_eq_true]
theorem cd_fst_iff {r : Nat → Nat → Bool} {t : Nat} : cd_fst r t = true ↔ r t t = true ∧ ∀ u, u < t → cd_eq r u t = false := by
  unfold cd_fst
  rw [Bool.and_eq_true, decide_eq_true_eq]
theorem cd_fst_u {r : Nat → Nat → Bool} {a b : Nat} (ha : cd_fst r a = true) (hb : cd_fst r b = true) (h1 : r a b = true) (h2 : r b a = true) : a = b := by
  rcases Nat.lt_trichotomy a b with hl | hl | hl
  · exact (cd_tf ((cd_fst_iff.mp hb).2 a hl) (cd_eq_iff.mpr ⟨h1, h2⟩)).elim
  · exact hl
  · exact (cd_tf ((cd_fst_iff.mp ha).2 b hl) (cd_eq_iff.mpr ⟨h2, h1⟩)).elim
noncomputable def cd_fs (r : Nat → Nat → Bool) (k : Nat) : Nat := Classical.epsilon (fun s => cd_fst r s = true ∧ cd_cn (cd_fst r) s = k)
noncomputable def cd_L (r : Nat → Nat → Bool) (m k : Nat) : Bool := !decide (m = k) && r (cd_fs r m) (cd_fs r k)
theorem cd_fs_c {r : Nat → Nat → Bool} {s : Nat} (h : cd_fst r s = true) : cd_fs r (cd_cn (cd_fst r) s) = s := by
  have e : cd_fst r (cd_fs r (cd_cn (cd_fst r) s)) = true ∧ cd_cn (cd_fst r) (cd_fs r (cd_cn (cd_fst r) s)) = cd_cn (cd_fst r) s :=
    Classical.epsilon_spec (p := fun s' => cd_fst r s' = true ∧ cd_cn (cd_fst r) s' = cd_cn (cd_fst r) s) ⟨s, h, rfl⟩
  exact cd_cn_inj e.1 h e.2
theorem cd_fs_k {r : Nat → Nat → Bool} {N k : Nat} (h : k < cd_cn (cd_fst r) N) : cd_fs r k < N ∧ cd_fst r (cd_fs r k) = true ∧ cd_cn (cd_fst r) (cd_fs r k) = k := by
  obtain ⟨s, h1, h2, h3⟩ := cd_cn_ex h
  have e := cd_fs_c h2
  rw [h3] at e
  rw [e]
  exact ⟨h1, h2, h3⟩
theorem cd_L_iff {r : Nat → Nat → Bool} {m k : Nat} : cd_L r m k = true ↔ m ≠ k ∧ r (cd_fs r m) (cd_fs r k) = true := by
  unfold cd_L
  rw [Bool.and_eq_true, cd_nb, decide_eq_false_iff_not]
theorem cd_L_Ord {r : Nat → Nat → Bool} (C : cd_Cl r) (N : Nat) : cd_Ord (cd_cn (cd_fst r) N) (cd_L r) := by
  have hne : ∀ i j, i < cd_cn (cd_fst r) N → j < cd_cn (cd_fst r) N → i ≠ j → cd_fs r i ≠ cd_fs r j := by
    intro i j hi hj hij e
    have h1 := (cd_fs_k hi).2.2
    have h2 := (cd_fs_k hj).2.2
    rw [e, h2] at h1
    exact hij h1.symm
  have hr : ∀ i, i < cd_cn (cd_fst r) N → r (cd_fs r i) (cd_fs r i) = true := fun i hi => (cd_fst_iff.mp (cd_fs_k hi).2.1).1
  have hf : ∀ i j, i ≠ j → cd_L r i j = false → r (cd_fs r i) (cd_fs r j) = false := fun i j hij e => cd_nt (fun z => cd_tf e (cd_L_iff.mpr ⟨hij, z⟩))
  refine ⟨?_, ?_, ?_, ?_⟩
  · intro i _
    exact cd_nt (fun e => (cd_L_iff.mp e).1 rfl)
  · intro i j k hi hj hk e1 e2
    obtain ⟨n1, q1⟩ := cd_L_iff.mp e1
    obtain ⟨n2, q2⟩ := cd_L_iff.mp e2
    refine cd_L_iff.mpr ⟨fun e => ?_, C.2.1 _ _ _ q1 q2⟩
    rw [← e] at q2
    exact hne i j hi hj n1 (cd_fst_u (cd_fs_k hi).2.1 (cd_fs_k hj).2.1 q1 q2)
  · intro i j k hi hj hk hij n1 n2 e
    obtain ⟨n3, q3⟩ := cd_L_iff.mp e
    refine cd_L_iff.mpr ⟨fun z => ?_, C.2.2.1 _ _ _ (hr i hi) (hr j hj) (hf i j hij n1) (hf j i (fun z => hij z.symm) n2) q3 (hne k i hk hi (fun z => n3 z.symm))⟩
    rw [← z] at e
    exact cd_tf n1 e
  · intro i j k hi hj hk hij n1 n2 e
    obtain ⟨n3, q3⟩ := cd_L_iff.mp e
    refine cd_L_iff.mpr ⟨fun z => ?_, C.2.2.2.1 _ _ _ (hr i hi) (hr j hj) (hf i j hij n1) (hf j i (fun z => hij z.symm) n2) q3 (hne k i hk hi n3)⟩
    rw [z] at e
    exact cd_tf n2 e
/-- the knots of the level of t that begin before t -/
def cd_kb (r : Nat → Nat → Bool) (t : Nat) : Nat := cd_cn (fun s => cd_fst r s && (!r s t && !r t s)) t
theorem cd_kb_bef {r : Nat → Nat → Bool} {t : Nat} (ht : cd_fst r t = true) : cd_kb r t = cd_bef (cd_L r) (fun _ => true) (cd_cn (cd_fst r) t) := by
  unfold cd_bef
  rw [← cd_tr_cn]
  apply cd_cn_c
  intro s hs
  try dsimp only
  rw [Bool.true_and]
  cases hf : cd_fst r s with
  | false => rfl
  | true =>
    have hlt := cd_cn_lt hs hf
    unfold cd_inc cd_L
    rw [cd_fs_c hf, cd_fs_c ht, decide_eq_false (by omega), decide_eq_false (by omega)]
    try rfl
theorem cd_lifts {r : Nat → Nat → Bool} (C : cd_Cl r) (N : Nat) : cd_cn (fun S => cd_cl (cd_L r) (cd_cn (cd_fst r) N) S.testBit) (2 ^ cd_cn (cd_fst r) N) = 1 + cd_sm (fun t => cond (cd_fst r t) (2 ^ cd_kb r t) 0) N := by
  rw [cd_many (cd_L_Ord C N) _ (Nat.le_refl _), ← cd_tr_sm]
  congr 1
  apply cd_sm_c
  intro t _
  cases hf : cd_fst r t with
  | false => rfl
  | true => rw [cd_kb_bef hf]
theorem cd_divs (r : Nat → Nat → Bool) (N : Nat) : cd_F (cd_L r) (fun _ => true) (cd_cn (cd_fst r) N) = cd_pd (fun t => cond (cd_fst r t) (1 + cd_kb r t) 1) N := by
  have e : cd_F (cd_L r) (fun _ => true) (cd_cn (cd_fst r) N) = cd_pd (fun k => 1 + cd_bef (cd_L r) (fun _ => true) k) (cd_cn (cd_fst r) N) := rfl
  rw [e, ← cd_tr_pd]
  apply cd_pd_c
  intro t _
  cases hf : cd_fst r t with
  | false => rfl
  | true => rw [cd_kb_bef hf]
theorem cd_kb_le {r : Nat → Nat → Bool} (C : cd_Cl r) {t : Nat} (ht : cd_fst r t = true) : 1 + cd_kb r t ≤ if t < 8 then t + 1 else t - 7 := by
  by_cases h8 : t < 8
  · rw [if_pos h8]
    have := cd_cn_le (fun s => cd_fst r s && (!r s t && !r t s)) t
    unfold cd_kb
    omega
  · rw [if_neg h8]
    obtain ⟨c, hc⟩ : ∃ c, t = 8 + c := ⟨t - 8, by omega⟩
    have h1 : cd_kb r t = cd_cn (fun s => cd_fst r s && (!r s t && !r t s)) 8 + cd_cn (fun i => cd_fst r (8 + i) && (!r (8 + i) t && !r t (8 + i))) c := by
      rw [← cd_cn_add (fun s => cd_fst r s && (!r s t && !r t s)) 8 c, ← hc]
      try rfl
    have h2 : cd_cn (fun s => cd_fst r s && (!r s t && !r t s)) 8 = 0 := by
      apply cd_cn_f
      intro s hs
      try dsimp only
      cases hf : cd_fst r s with
      | false => rfl
      | true =>
        rcases C.2.2.2.2 s t hs (by omega) (cd_fst_iff.mp hf).1 (cd_fst_iff.mp ht).1 with z | z
        · rw [z]
          try rfl
        · rw [z, Bool.not_true, Bool.and_false, Bool.and_false]
    have h3 := cd_cn_le (fun i => cd_fst r (8 + i) && (!r (8 + i) t && !r t (8 + i))) c
    omega
theorem cd_top : cd_pd (fun t => if t < 8 then t + 1 else t - 7) 16 = 1625702400 := by decide +kernel
theorem cd_bound {r : Nat → Nat → Bool} (C : cd_Cl r) (T : Nat → Bool) : cd_F (cd_L r) T (cd_cn (cd_fst r) 16) < 2147483648 := by
  have h1 := cd_F_full (cd_L r) T (cd_cn (cd_fst r) 16)
  rw [cd_divs] at h1
  have h2 : cd_pd (fun t => cond (cd_fst r t) (1 + cd_kb r t) 1) 16 ≤ cd_pd (fun t => if t < 8 then t + 1 else t - 7) 16 := by
    apply cd_pd_le
    intro t _
    try dsimp only
    cases hf : cd_fst r t with
    | false =>
      show 1 ≤ _
      split <;> omega
    | true => exact cd_kb_le C hf
  rw [cd_top] at h2
  omega
theorem cd_vb {r : Nat → Nat → Bool} (C : cd_Cl r) (S : Nat) : cd_val (cd_L r) (cd_cn (cd_fst r) 16) S < 2147483648 := by
  unfold cd_val
  cases cd_cl (cd_L r) (cd_cn (cd_fst r) 16) S.testBit with
  | false => show 0 < _; omega
  | true => exact cd_bound C _
theorem cd_v_pos {L : Nat → Nat → Bool} {n S : Nat} : 0 < cd_val L n S ↔ cd_cl L n S.testBit = true := by
  unfold cd_val
  cases cd_cl L n S.testBit with
  | false => exact ⟨fun z => absurd z (Nat.lt_irrefl 0), fun z => Bool.noConfusion z⟩
  | true => exact ⟨fun _ => rfl, fun _ => cd_F_pos L _ n⟩
theorem cd_v_full (r : Nat → Nat → Bool) (N : Nat) : cd_val (cd_L r) (cd_cn (cd_fst r) N) (2 ^ cd_cn (cd_fst r) N - 1) = cd_pd (fun t => cond (cd_fst r t) (1 + cd_kb r t) 1) N := by
  have hb : ∀ i, i < cd_cn (cd_fst r) N → (2 ^ cd_cn (cd_fst r) N - 1).testBit i = true := fun i hi => by rw [Nat.testBit_two_pow_sub_one, decide_eq_true hi]
  have hc : cd_cl (cd_L r) (cd_cn (cd_fst r) N) (2 ^ cd_cn (cd_fst r) N - 1).testBit = true := cd_cl_iff.mpr (fun _ _ _ m hm _ => hb m hm)
  unfold cd_val
  rw [hc, ← cd_divs]
  exact cd_F_c hb
