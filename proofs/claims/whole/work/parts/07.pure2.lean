/-! the longest run; counts within a limit; rows that are alike; what can be lifted off -/
def cf_st (p : Nat → Bool) (i : Nat) (q : Nat × Nat) : Nat × Nat :=
  let run := cond (decide (0 < i) && (p i == p (i - 1))) (q.1 + 1) 1
  (run, if q.2 < run then run else q.2)
def cf_rb (p : Nat → Bool) : Nat → Nat × Nat
  | 0 => (0, 0)
  | i + 1 => cf_st p i (cf_rb p i)
theorem cf_rb_s (p : Nat → Bool) (i : Nat) : cf_rb p (i + 1) = cf_st p i (cf_rb p i) := rfl
theorem cf_rb_le (p : Nat → Bool) (i : Nat) : (cf_rb p i).1 ≤ i ∧ (cf_rb p i).2 ≤ i := by
  induction i with
  | zero => exact ⟨Nat.le_refl 0, Nat.le_refl 0⟩
  | succ i ih =>
    rw [cf_rb_s]
    have h1 : (cf_st p i (cf_rb p i)).1 ≤ i + 1 := by
      show cond (decide (0 < i) && (p i == p (i - 1))) ((cf_rb p i).1 + 1) 1 ≤ i + 1
      cases (decide (0 < i) && (p i == p (i - 1))) with
      | false => show 1 ≤ i + 1; omega
      | true => show (cf_rb p i).1 + 1 ≤ i + 1; omega
    refine ⟨h1, ?_⟩
    show (if (cf_rb p i).2 < (cf_st p i (cf_rb p i)).1 then (cf_st p i (cf_rb p i)).1 else (cf_rb p i).2) ≤ i + 1
    split
    · exact h1
    · omega
theorem cf_rb_c {p q : Nat → Bool} {n : Nat} (h : ∀ i, i < n → p i = q i) : cf_rb p n = cf_rb q n := by
  induction n with
  | zero => rfl
  | succ n ih =>
    rw [cf_rb_s, cf_rb_s, ih (fun i hi => h i (by omega))]
    unfold cf_st
    rw [h n (by omega), h (n - 1) (by omega)]
theorem cf_lim (p : Nat → Bool) {a N : Nat} (h : a ≤ N) : cd_cn (fun i => decide (i < a) && p i) N = cd_cn p a := by
  obtain ⟨c, rfl⟩ : ∃ c, N = a + c := ⟨N - a, by omega⟩
  rw [cd_cn_add, cd_cn_c (q := p) (fun i hi => by rw [decide_eq_true hi, Bool.true_and]), cd_cn_f (n := c) (fun i _ => by rw [decide_eq_false (by omega), Bool.false_and]), Nat.add_zero]
def cf_nw (e : Nat → Nat → Bool) (f t : Nat) : Bool := decide (∀ s, s < t → f ≤ s → e s t = false)
theorem cf_nw_iff {e : Nat → Nat → Bool} {f t : Nat} : cf_nw e f t = true ↔ ∀ s, s < t → f ≤ s → e s t = false := by
  unfold cf_nw
  rw [decide_eq_true_eq]
theorem cf_nw_c {e e' : Nat → Nat → Bool} {f t : Nat} (h : ∀ s, s < t → f ≤ s → e s t = e' s t) : cf_nw e f t = cf_nw e' f t := by
  apply Bool.eq_iff_iff.mpr
  rw [cf_nw_iff, cf_nw_iff]
  exact ⟨fun z s h1 h2 => by rw [← h s h1 h2]; exact z s h1 h2, fun z s h1 h2 => by rw [h s h1 h2]; exact z s h1 h2⟩
/-! thread t against the k-th thread that crosses it -/
def cf_sh (A : Nat → Nat → Bool) (t k : Nat) : Bool := if t < 8 then A t k else !A k (t - 8)
def cf_cr (w h t : Nat) : Nat := if t < 8 then h else w
def cf_al (A : Nat → Nat → Bool) (w h t u : Nat) : Bool := decide (∀ k, k < cf_cr w h t → cf_sh A t k = cf_sh A u k)
theorem cf_al_iff {A : Nat → Nat → Bool} {w h t u : Nat} : cf_al A w h t u = true ↔ ∀ k, k < cf_cr w h t → cf_sh A t k = cf_sh A u k := by
  unfold cf_al
  rw [decide_eq_true_eq]
theorem cf_abw {A : Nat → Nat → Bool} {w h t : Nat} (hw : w ≤ 8) (ht : t < w) (i : Nat) : cd_ab A w h t i = (decide (8 ≤ i) && (decide (i < 8 + h) && cf_sh A t (i - 8))) := by
  unfold cd_ab cf_sh
  rw [decide_eq_true ht, decide_eq_false (by omega : ¬ 8 ≤ t), Bool.true_and, Bool.false_and, Bool.or_false, if_pos (by omega)]
theorem cf_abf {A : Nat → Nat → Bool} {w h t : Nat} (hw : w ≤ 8) (ht : 8 ≤ t) (ht' : t < 8 + h) (i : Nat) : cd_ab A w h t i = (decide (i < w) && cf_sh A t i) := by
  unfold cd_ab cf_sh
  rw [decide_eq_true ht, decide_eq_true ht', decide_eq_false (by omega : ¬ t < w), Bool.false_and, Bool.false_or, Bool.true_and, Bool.true_and, if_neg (by omega)]
theorem cf_over {A : Nat → Nat → Bool} {w h t : Nat} (hw : w ≤ 8) (hh : h ≤ 8) (ht : cd_th w h t = true) : cd_cn (cd_ab A w h t) 16 = cd_cn (cf_sh A t) (cf_cr w h t) := by
  rcases cd_th_iff.mp ht with q | ⟨q, q'⟩
  · have e : cf_cr w h t = h := if_pos (by omega)
    rw [e, show 16 = 8 + 8 from rfl, cd_cn_add, cd_cn_f (n := 8) (p := cd_ab A w h t), Nat.zero_add, ← cf_lim (cf_sh A t) hh]
    · apply cd_cn_c
      intro i _
      try dsimp only
      rw [cf_abw hw q, decide_eq_true (by omega), Bool.true_and, Nat.add_sub_cancel_left]
      congr 1
      apply Bool.eq_iff_iff.mpr
      rw [decide_eq_true_eq, decide_eq_true_eq]
      omega
    · intro i hi
      rw [cf_abw hw q, decide_eq_false (by omega), Bool.false_and]
  · have e : cf_cr w h t = w := if_neg (by omega)
    rw [e, ← cf_lim (cf_sh A t) (by omega : w ≤ 16)]
    apply cd_cn_c
    intro i _
    exact cf_abf hw q q' i
/-- two threads of one side are above the same threads just if they are alike -/
theorem cf_alike {A : Nat → Nat → Bool} {w h s t : Nat} (hw : w ≤ 8) (hh : h ≤ 8) (hs : cd_th w h s = true) (ht : cd_th w h t = true) (hst : s < 8 ↔ t < 8) : (∀ i, i < 32 → cd_ab A w h s i = cd_ab A w h t i) ↔ cf_al A w h t s = true := by
  rw [cf_al_iff]
  rcases cd_th_iff.mp ht with q | ⟨q, q'⟩
  · have hs' : s < w := by
      have := cd_th_iff.mp hs
      omega
    have e : cf_cr w h t = h := if_pos (by omega)
    rw [e]
    constructor
    · intro z k hk
      have := z (8 + k) (by omega)
      rw [cf_abw hw hs', cf_abw hw q, decide_eq_true (by omega), decide_eq_true (by omega), Bool.true_and, Bool.true_and, Bool.true_and, Bool.true_and, Nat.add_sub_cancel_left] at this
      exact this.symm
    · intro z i _
      rw [cf_abw hw hs', cf_abw hw q]
      by_cases h8 : 8 ≤ i
      · by_cases hi : i < 8 + h
        · rw [z (i - 8) (by omega)]
        · rw [decide_eq_false hi, Bool.false_and, Bool.false_and]
      · rw [decide_eq_false h8, Bool.false_and, Bool.false_and]
  · have hs' : 8 ≤ s ∧ s < 8 + h := by
      have := cd_th_iff.mp hs
      omega
    have e : cf_cr w h t = w := if_neg (by omega)
    rw [e]
    constructor
    · intro z k hk
      have := z k (by omega)
      rw [cf_abf hw hs'.1 hs'.2, cf_abf hw q q', decide_eq_true hk, Bool.true_and, Bool.true_and] at this
      exact this.symm
    · intro z i _
      rw [cf_abf hw hs'.1 hs'.2, cf_abf hw q q']
      by_cases hi : i < w
      · rw [z i hi]
      · rw [decide_eq_false hi, Bool.false_and, Bool.false_and]
def cf_lfn (N : Nat) (A : Nat → Nat → Bool) (w h : Nat) (S : Nat → Bool) : Bool := decide (∀ t, t < N → S t = false → ∀ u, u < N → S u = true → cd_ab A w h t u = false)
def cf_lift (A : Nat → Nat → Bool) (w h : Nat) (S : Nat → Bool) : Bool := cf_lfn 16 A w h S
theorem cf_lift_iff {A : Nat → Nat → Bool} {w h : Nat} {S : Nat → Bool} : cf_lift A w h S = true ↔ ∀ t, t < 16 → S t = false → ∀ u, u < 16 → S u = true → cd_ab A w h t u = false := by
  unfold cf_lift cf_lfn
  rw [decide_eq_true_eq]
