/-! how many sets below 2^n are closed upwards -/
theorem cd_free (fr v : Nat → Bool) : ∀ m, cd_cn (fun S => decide (∀ i, i < m → fr i = false → S.testBit i = v i)) (2 ^ m) = 2 ^ (cd_cn fr m) := by
  intro m
  induction m with
  | zero =>
    rw [show (2 : Nat) ^ 0 = 0 + 1 from rfl, cd_cn_s, decide_eq_true (fun i hi => absurd hi (Nat.not_lt_zero i))]
    rfl
  | succ m ih =>
    have hA : ∀ S, S < 2 ^ m → decide (∀ i, i < m + 1 → fr i = false → S.testBit i = v i) = (decide (∀ i, i < m → fr i = false → S.testBit i = v i) && (fr m || !v m)) := by
      intro S hS
      have hb : S.testBit m = false := Nat.testBit_lt_two_pow hS
      apply Bool.eq_iff_iff.mpr
      rw [Bool.and_eq_true, decide_eq_true_eq, decide_eq_true_eq]
      constructor
      · intro h
        refine ⟨fun i hi => h i (by omega), ?_⟩
        cases hf : fr m with
        | true => rfl
        | false =>
          have := h m (by omega) hf
          rw [← this, hb]
          try rfl
      · rintro ⟨h1, h2⟩ i hi hf
        rcases Nat.lt_or_ge i m with hl | hl
        · exact h1 i hl hf
        · have e : i = m := by omega
          rw [e] at hf ⊢
          rw [hf, Bool.false_or] at h2
          rw [hb]
          cases hv : v m with
          | false => rfl
          | true => rw [hv] at h2; exact Bool.noConfusion h2
    have hB : ∀ S, S < 2 ^ m → decide (∀ i, i < m + 1 → fr i = false → (2 ^ m + S).testBit i = v i) = (decide (∀ i, i < m → fr i = false → S.testBit i = v i) && (fr m || v m)) := by
      intro S hS
      have hb : (2 ^ m + S).testBit m = true := by rw [Nat.testBit_two_pow_add_eq, Nat.testBit_lt_two_pow hS]; try rfl
      apply Bool.eq_iff_iff.mpr
      rw [Bool.and_eq_true, decide_eq_true_eq, decide_eq_true_eq]
      constructor
      · intro h
        refine ⟨fun i hi hf => ?_, ?_⟩
        · rw [← Nat.testBit_two_pow_add_gt hi S]
          exact h i (by omega) hf
        · cases hf : fr m with
          | true => rfl
          | false =>
            have := h m (by omega) hf
            rw [← this, hb]
            try rfl
      · rintro ⟨h1, h2⟩ i hi hf
        rcases Nat.lt_or_ge i m with hl | hl
        · rw [Nat.testBit_two_pow_add_gt hl S]
          exact h1 i hl hf
        · have e : i = m := by omega
          rw [e] at hf ⊢
          rw [hf, Bool.false_or] at h2
          rw [hb, h2]
    have e2 : 2 ^ (m + 1) = 2 ^ m + 2 ^ m := by rw [Nat.pow_succ, Nat.mul_two]
    rw [e2, cd_cn_add, cd_cn_c hA, cd_cn_c hB, cd_cn_and, cd_cn_and, ih, cd_cn_s]
    cases fr m with
    | false =>
      cases v m with
      | false => exact Nat.add_zero _
      | true => exact Nat.zero_add _
    | true =>
      show 2 ^ cd_cn fr m + 2 ^ cd_cn fr m = 2 ^ (cd_cn fr m + 1)
      rw [Nat.pow_succ, Nat.mul_two]
theorem cd_many {N : Nat} {L : Nat → Nat → Bool} (O : cd_Ord N L) : ∀ n, n ≤ N → cd_cn (fun S => cd_cl L n S.testBit) (2 ^ n) = 1 + cd_sm (fun t => 2 ^ cd_bef L (fun _ => true) t) n := by
  intro n
  induction n with
  | zero =>
    intro _
    have e : cd_cl L 0 (0 : Nat).testBit = true := cd_cl_iff.mpr (fun k hk => absurd hk (Nat.not_lt_zero k))
    show 0 + (cd_cl L 0 (0 : Nat).testBit).toNat = 1 + 0
    rw [e]
    try rfl
  | succ n ih =>
    intro hn
    have hA : ∀ S, S < 2 ^ n → cd_cl L (n + 1) S.testBit = (cd_cl L n S.testBit && decide (∀ k, k < n → S.testBit k = true → L n k = false)) := by
      intro S hS
      have hb : S.testBit n = false := Nat.testBit_lt_two_pow hS
      apply Bool.eq_iff_iff.mpr
      rw [Bool.and_eq_true, decide_eq_true_eq, cd_cl_iff, cd_cl_iff]
      constructor
      · intro h
        refine ⟨fun k hk hs m hm hl => h k (by omega) hs m (by omega) hl, fun k hk hs => cd_nt (fun e => ?_)⟩
        exact cd_tf hb (h k (by omega) hs n (by omega) e)
      · rintro ⟨h1, h2⟩ k hk hs m hm hl
        rcases Nat.lt_or_ge k n with hkl | hkl
        · rcases Nat.lt_or_ge m n with hml | hml
          · exact h1 k hkl hs m hml hl
          · have e : m = n := by omega
            rw [e] at hl
            exact (cd_tf (h2 k hkl hs) hl).elim
        · have e : k = n := by omega
          rw [e] at hs
          exact (cd_tf hb hs).elim
    have hB : ∀ S, S < 2 ^ n → cd_cl L (n + 1) (2 ^ n + S).testBit = (cd_cl L n S.testBit && decide (∀ m, m < n → L m n = true → S.testBit m = true)) := by
      intro S hS
      have hb : (2 ^ n + S).testBit n = true := by rw [Nat.testBit_two_pow_add_eq, Nat.testBit_lt_two_pow hS]; try rfl
      have hg : ∀ i, i < n → (2 ^ n + S).testBit i = S.testBit i := fun i hi => Nat.testBit_two_pow_add_gt hi S
      apply Bool.eq_iff_iff.mpr
      rw [Bool.and_eq_true, decide_eq_true_eq, cd_cl_iff, cd_cl_iff]
      constructor
      · intro h
        refine ⟨fun k hk hs m hm hl => ?_, fun m hm hl => ?_⟩
        · rw [← hg m hm]
          exact h k (by omega) (by rw [hg k hk]; exact hs) m (by omega) hl
        · rw [← hg m hm]
          exact h n (by omega) hb m (by omega) hl
      · rintro ⟨h1, h2⟩ k hk hs m hm hl
        rcases Nat.lt_or_ge m n with hml | hml
        · rw [hg m hml]
          rcases Nat.lt_or_ge k n with hkl | hkl
          · rw [hg k hkl] at hs
            exact h1 k hkl hs m hml hl
          · have e : k = n := by omega
            rw [e] at hl
            exact h2 m hml hl
        · have e : m = n := by omega
          rw [e]
          exact hb
    have e2 : 2 ^ (n + 1) = 2 ^ n + 2 ^ n := by rw [Nat.pow_succ, Nat.mul_two]
    have hO : ∀ S, S < 2 ^ n → ((cd_cl L n S.testBit && decide (∀ k, k < n → S.testBit k = true → L n k = false)) || (cd_cl L n S.testBit && decide (∀ m, m < n → L m n = true → S.testBit m = true))) = cd_cl L n S.testBit := by
      intro S _
      rw [← Bool.and_or_distrib_left]
      cases hc : cd_cl L n S.testBit with
      | false => rfl
      | true =>
        rw [Bool.true_and, Bool.or_eq_true, decide_eq_true_eq, decide_eq_true_eq]
        by_cases hx : ∀ k, k < n → S.testBit k = true → L n k = false
        · exact Or.inl hx
        · refine Or.inr (fun m hm hl => ?_)
          apply Classical.byContradiction
          intro hno
          apply hx
          intro k hk hs
          refine cd_nt (fun e => hno ?_)
          exact cd_cl_iff.mp hc k hk hs m hm (O.2.1 m n k (by omega) (by omega) (by omega) hl e)
    have hAnd : ∀ S, S < 2 ^ n → ((cd_cl L n S.testBit && decide (∀ k, k < n → S.testBit k = true → L n k = false)) && (cd_cl L n S.testBit && decide (∀ m, m < n → L m n = true → S.testBit m = true))) = decide (∀ i, i < n → cd_inc L i n = false → S.testBit i = L i n) := by
      intro S _
      apply Bool.eq_iff_iff.mpr
      rw [Bool.and_eq_true, Bool.and_eq_true, Bool.and_eq_true, decide_eq_true_eq, decide_eq_true_eq, decide_eq_true_eq, cd_cl_iff]
      constructor
      · rintro ⟨⟨h1, h2⟩, ⟨_, h3⟩⟩ i hi hinc
        cases hl : L i n with
        | true => exact h3 i hi hl
        | false =>
          refine cd_nt (fun e => ?_)
          exact cd_tf hinc (cd_inc_iff.mpr ⟨hl, h2 i hi e⟩)
      · intro h
        have h2 : ∀ k, k < n → S.testBit k = true → L n k = false := by
          intro k hk hs
          refine cd_nt (fun e => ?_)
          have hinc : cd_inc L k n = false := cd_nt (fun e' => cd_tf (cd_inc_iff.mp e').2 e)
          have e1 := h k hk hinc
          rw [hs] at e1
          have e3 := O.2.1 k n k (by omega) (by omega) (by omega) e1.symm e
          exact cd_tf (O.1 k (by omega)) e3
        have h3 : ∀ m, m < n → L m n = true → S.testBit m = true := by
          intro m hm hl
          have hinc : cd_inc L m n = false := cd_nt (fun e' => cd_tf (cd_inc_iff.mp e').1 hl)
          rw [h m hm hinc, hl]
        have h1 : ∀ k, k < n → S.testBit k = true → ∀ m, m < n → L m k = true → S.testBit m = true := by
          intro k hk hs m hm hl
          apply h3 m hm
          cases hkn : L k n with
          | true => exact O.2.1 m k n (by omega) (by omega) (by omega) hl hkn
          | false => exact O.2.2.2 k n m (by omega) (by omega) (by omega) (by omega) hkn (h2 k hk hs) hl
        exact ⟨⟨h1, h2⟩, h1, h3⟩
    rw [e2, cd_cn_add, cd_cn_c hA, cd_cn_c hB, cd_cn_io, cd_cn_c hO, cd_cn_c hAnd, ih (by omega), cd_free (fun i => cd_inc L i n) (fun i => L i n) n, cd_sm_s, Nat.add_assoc]
    try rfl
/-! the ways to build a set up, one element after the other -/
def cd_val (L : Nat → Nat → Bool) (n S : Nat) : Nat := cond (cd_cl L n S.testBit) (cd_F L S.testBit n) 0
def cd_ok (L : Nat → Nat → Bool) (n S k : Nat) : Bool := decide (∀ m, m < n → L m k = true → S.testBit m = true)
def cd_tm (L : Nat → Nat → Bool) (n S T k : Nat) : Nat := cond (T.testBit k && (decide (T ^^^ 2 ^ k < S) && cd_ok L n (T ^^^ 2 ^ k) k)) (cd_val L n (T ^^^ 2 ^ k)) 0
def cd_W (L : Nat → Nat → Bool) (n S T : Nat) : Nat := (decide (T = 0)).toNat + cd_sm (cd_tm L n S T) n
def cd_ad (L : Nat → Nat → Bool) (n S T k : Nat) : Nat := cond (decide (T = S ||| 2 ^ k) && (!S.testBit k && cd_ok L n S k)) (cd_val L n S) 0
theorem cd_ok_iff {L : Nat → Nat → Bool} {n S k : Nat} : cd_ok L n S k = true ↔ ∀ m, m < n → L m k = true → S.testBit m = true := by
  unfold cd_ok
  rw [decide_eq_true_eq]
theorem cd_tx (T k i : Nat) : (T ^^^ 2 ^ k).testBit i = (T.testBit i ^^ decide (k = i)) := by
  rw [Nat.testBit_xor, Nat.testBit_two_pow]
theorem cd_tx' {T k : Nat} (h : T.testBit k = true) (i : Nat) : (T ^^^ 2 ^ k).testBit i = (T.testBit i && !decide (i = k)) := by
  rw [cd_tx]
  by_cases e : i = k
  · rw [e, h, decide_eq_true rfl]
    try rfl
  · rw [decide_eq_false e, decide_eq_false (fun z => e z.symm)]
    cases T.testBit i <;> rfl
theorem cd_tx_eq {S T k : Nat} : (T.testBit k = true ∧ T ^^^ 2 ^ k = S) ↔ (T = S ||| 2 ^ k ∧ S.testBit k = false) := by
  constructor
  · rintro ⟨h1, h2⟩
    have hb : ∀ i, S.testBit i = (T.testBit i && !decide (i = k)) := fun i => by rw [← h2]; exact cd_tx' h1 i
    refine ⟨?_, by rw [hb, decide_eq_true rfl, Bool.not_true, Bool.and_false]⟩
    apply Nat.eq_of_testBit_eq
    intro i
    rw [Nat.testBit_or, Nat.testBit_two_pow, hb]
    by_cases e : i = k
    · rw [e, h1, decide_eq_true rfl]
      try rfl
    · rw [decide_eq_false e, decide_eq_false (fun z => e z.symm)]
      cases T.testBit i <;> rfl
  · rintro ⟨h1, h2⟩
    have hb : ∀ i, T.testBit i = (S.testBit i || decide (k = i)) := fun i => by rw [h1, Nat.testBit_or, Nat.testBit_two_pow]
    have hk : T.testBit k = true := by rw [hb, decide_eq_true rfl, Bool.or_true]
    refine ⟨hk, ?_⟩
    apply Nat.eq_of_testBit_eq
    intro i
    rw [cd_tx' hk, hb]
    by_cases e : i = k
    · rw [e, h2, decide_eq_true rfl]
      try rfl
    · rw [decide_eq_false e, decide_eq_false (fun z => e z.symm)]
      cases S.testBit i <;> rfl
theorem cd_tx_lt {T k : Nat} (h : T.testBit k = true) : T ^^^ 2 ^ k < T := by
  obtain ⟨h1, h2⟩ := cd_tx_eq.mp ⟨h, rfl⟩
  have h3 : T ^^^ 2 ^ k ≤ (T ^^^ 2 ^ k) ||| 2 ^ k := Nat.left_le_or
  rw [← h1] at h3
  have h4 : T ^^^ 2 ^ k ≠ T := fun e => by
    rw [e] at h2
    exact cd_tf h2 h
  omega
theorem cd_W_s (L : Nat → Nat → Bool) (n S T : Nat) : cd_W L n S T + cd_sm (cd_ad L n S T) n = cd_W L n (S + 1) T := by
  unfold cd_W
  rw [Nat.add_assoc, cd_sm_add]
  congr 1
  apply cd_sm_c
  intro k _
  try dsimp only
  unfold cd_tm cd_ad
  by_cases hx : T.testBit k = true ∧ T ^^^ 2 ^ k = S
  · obtain ⟨h1, h2⟩ := cd_tx_eq.mp hx
    rw [hx.1, hx.2, decide_eq_true h1, h2, decide_eq_false (by omega : ¬ S < S), decide_eq_true (by omega : S < S + 1)]
    cases cd_ok L n S k with
    | false => rfl
    | true => exact Nat.zero_add _
  · have hy : ¬ (T = S ||| 2 ^ k ∧ S.testBit k = false) := fun z => hx (cd_tx_eq.mpr z)
    have e1 : (decide (T = S ||| 2 ^ k) && (!S.testBit k && cd_ok L n S k)) = false := cd_nt (fun z => by
      rw [Bool.and_eq_true, Bool.and_eq_true, decide_eq_true_eq] at z
      apply hy
      refine ⟨z.1, ?_⟩
      have := z.2.1
      cases hs : S.testBit k with
      | false => rfl
      | true => rw [hs] at this; exact Bool.noConfusion this)
    rw [e1]
    show _ + 0 = _
    rw [Nat.add_zero]
    cases hk : T.testBit k with
    | false => rfl
    | true =>
      have hne : T ^^^ 2 ^ k ≠ S := fun z => hx ⟨hk, z⟩
      have e2 : decide (T ^^^ 2 ^ k < S + 1) = decide (T ^^^ 2 ^ k < S) := by
        apply Bool.eq_iff_iff.mpr
        rw [decide_eq_true_eq, decide_eq_true_eq]
        omega
      rw [e2]
theorem cd_W_0 (L : Nat → Nat → Bool) (n T : Nat) : cd_W L n 0 T = (decide (T = 0)).toNat := by
  unfold cd_W
  rw [cd_sm_0, Nat.add_zero]
  intro k _
  unfold cd_tm
  rw [decide_eq_false (Nat.not_lt_zero _), Bool.false_and, Bool.and_false]
  try rfl
theorem cd_W_T {n : Nat} {L : Nat → Nat → Bool} (O : cd_Ord n L) {S T : Nat} (hT : T < 2 ^ n) (hS : T ≤ S) : cd_W L n S T = cd_val L n T := by
  have ht : cd_sm (cd_tm L n S T) n = cd_sm (fun k => cond (T.testBit k && cd_ok L n (T ^^^ 2 ^ k) k) (cd_val L n (T ^^^ 2 ^ k)) 0) n := by
    apply cd_sm_c
    intro k _
    unfold cd_tm
    cases hk : T.testBit k with
    | false => rfl
    | true =>
      have := cd_tx_lt hk
      rw [decide_eq_true (by omega : T ^^^ 2 ^ k < S), Bool.true_and]
  unfold cd_W
  rw [ht]
  by_cases h0 : T = 0
  · have e1 : cd_cl L n T.testBit = true := cd_cl_iff.mpr (fun k hk hs => by rw [h0, Nat.zero_testBit] at hs; exact Bool.noConfusion hs)
    have e2 : cd_F L T.testBit n = 1 := by
      have : ∀ m, cd_pd (fun k => cond (T.testBit k) (1 + cd_bef L T.testBit k) 1) m = 1 := by
        intro m
        induction m with
        | zero => rfl
        | succ m ih =>
          rw [cd_pd_s, ih, h0, Nat.zero_testBit]
          try rfl
      exact this n
    rw [cd_sm_0, decide_eq_true h0]
    · unfold cd_val
      rw [e1, e2]
      try rfl
    · intro k _
      rw [h0, Nat.zero_testBit]
      try rfl
  · rw [decide_eq_false h0]
    show 0 + _ = _
    rw [Nat.zero_add]
    obtain ⟨i0, hi0⟩ : ∃ i, T.testBit i = true := by
      apply Classical.byContradiction
      intro hno
      apply h0
      apply Nat.eq_of_testBit_eq
      intro i
      rw [Nat.zero_testBit]
      exact cd_nt (fun e => hno ⟨i, e⟩)
    have hi0n : i0 < n := by
      rcases Nat.lt_or_ge i0 n with hl | hl
      · exact hl
      · have := Nat.testBit_lt_two_pow (x := T) (i := i0) (Nat.lt_of_lt_of_le hT (Nat.pow_le_pow_right (by decide) hl))
        exact (cd_tf this hi0).elim
    unfold cd_val
    cases hc : cd_cl L n T.testBit with
    | false =>
      show _ = 0
      apply cd_sm_0
      intro k hk
      cases hTk : T.testBit k with
      | false => rfl
      | true =>
        rw [Bool.true_and]
        cases hok : cd_ok L n (T ^^^ 2 ^ k) k with
        | false => rfl
        | true =>
          show cond (cd_cl L n (T ^^^ 2 ^ k).testBit) _ 0 = 0
          cases hcl : cd_cl L n (T ^^^ 2 ^ k).testBit with
          | false => rfl
          | true =>
            refine (cd_tf hc (cd_cl_iff.mpr (fun j hj hjs m hm hl => ?_))).elim
            have hu : ∀ m, (T ^^^ 2 ^ k).testBit m = true → T.testBit m = true := by
              intro m h
              rw [cd_tx' hTk, Bool.and_eq_true] at h
              exact h.1
            apply hu
            by_cases e : j = k
            · rw [e] at hl
              exact cd_ok_iff.mp hok m hm hl
            · exact cd_cl_iff.mp hcl j hj (by rw [cd_tx' hTk, decide_eq_false e, hjs]; try rfl) m hm hl
    | true =>
      show _ = cd_F L T.testBit n
      rw [← cd_F_sum O T.testBit hi0n hi0]
      apply cd_sm_c
      intro k hk
      try dsimp only
      cases hTk : T.testBit k with
      | false =>
        rw [cd_low_T hTk]
        try rfl
      | true =>
        have hcl := cd_cl_iff.mp hc
        have hne : ∀ m, m < n → L m k = true → ¬ m = k := by
          intro m hm hl e
          rw [e] at hl
          exact cd_tf (O.1 k hk) hl
        have hok : cd_ok L n (T ^^^ 2 ^ k) k = true := cd_ok_iff.mpr (fun m hm hl => by
          rw [cd_tx' hTk, decide_eq_false (hne m hm hl), hcl k hk hTk m hm hl]
          rfl)
        rw [hok, Bool.and_true]
        have eF : cd_F L (T ^^^ 2 ^ k).testBit n = cd_F L (fun i => T.testBit i && !decide (i = k)) n := cd_F_c (fun i _ => cd_tx' hTk i)
        have eL : cd_cl L n (T ^^^ 2 ^ k).testBit = cd_low L n T.testBit k := by
          apply Bool.eq_iff_iff.mpr
          rw [cd_cl_iff, cd_low_iff]
          constructor
          · intro h
            refine ⟨hTk, fun j hj hjt => cd_nt (fun e => ?_)⟩
            have hjk : ¬ j = k := fun z => by
              rw [z] at e
              exact cd_tf (O.1 k hk) e
            have := h j hj (by rw [cd_tx' hTk, decide_eq_false hjk, hjt]; try rfl) k hk e
            rw [cd_tx' hTk, decide_eq_true rfl, Bool.not_true, Bool.and_false] at this
            exact Bool.noConfusion this
          · rintro ⟨_, h⟩ j hj hjs m hm hl
            rw [cd_tx' hTk, Bool.and_eq_true] at hjs
            have hmk : ¬ m = k := fun z => by
              rw [z] at hl
              exact cd_tf (h j hj hjs.1) hl
            rw [cd_tx' hTk, decide_eq_false hmk, hcl j hj hjs.1 m hm hl]
            try rfl
        show cond (cd_cl L n (T ^^^ 2 ^ k).testBit) (cd_F L (T ^^^ 2 ^ k).testBit n) 0 = _
        rw [eF, eL]
