/-! what one step of a loop does to an array, by bits -/
theorem cg_if {c : Prop} {b : Bool} {A B : Prop} (e : c ↔ b = true) (f : b = true → A) (g : b = false → B) : (c → A) ∧ (¬ c → B) :=
  ⟨fun h => f (e.mp h), fun h => g (cd_nt (fun z => h (e.mpr z)))⟩
theorem cg_fi {c : Prop} {b : Bool} {A B : Prop} (e : c ↔ b = false) (f : b = true → B) (g : b = false → A) : (c → A) ∧ (¬ c → B) :=
  ⟨fun h => g (e.mp h), fun h => by
    cases hb : b with
    | true => exact f hb
    | false => exact absurd (e.mpr hb) h⟩
theorem cg_10 : ¬ (1 : Int32) = 0 := by decide
theorem cg_01 : ¬ (0 : Int32) = 1 := by decide
theorem cg_bb {a b : Bool} : nI a.toNat = nI b.toNat ↔ a = b := by
  cases a <;> cases b <;> decide +kernel
/-- the pairs (c, r) that are done -/
def cg_U (A : Nat → Nat → Bool) (Q : Nat → Nat → Prop) (t i : Nat) : Prop :=
  (t < 8 ∧ 8 ≤ i ∧ Q t (i - 8) ∧ A t (i - 8) = true) ∨ (8 ≤ t ∧ i < 8 ∧ Q i (t - 8) ∧ A i (t - 8) = false)
def cg_Is (a : Nat → Int32) (P : Nat → Nat → Prop) : Prop := ∀ t i, t < 16 → i < 32 → (bt (a t) i = true ↔ P t i)
theorem cg_U_c {A : Nat → Nat → Bool} {Q Q' : Nat → Nat → Prop} (h : ∀ c r, Q c r ↔ Q' c r) (t i : Nat) : cg_U A Q t i ↔ cg_U A Q' t i := by
  unfold cg_U
  rw [h, h]
theorem cg_U_t {A : Nat → Nat → Bool} {Q Q' : Nat → Nat → Prop} {a : Nat → Int32} {c r : Nat} (I : cg_Is a (cg_U A Q)) (hc : c < 8) (hr : r < 8) (hQ : ∀ c' r', Q' c' r' ↔ Q c' r' ∨ (c' = c ∧ r' = r)) (hA : A c r = true) :
    cg_Is (upd a c (a c ||| ((1 : Int32) <<< (nI (8 + r) &&& 31)))) (cg_U A Q') := by
  intro t i ht hi
  by_cases e : t = c
  · rw [e, pk_us, ce_or1 _ (by omega) hi, Bool.or_eq_true, I c i (by omega) hi, decide_eq_true_eq]
    unfold cg_U
    rw [hQ, hQ]
    constructor
    · rintro ((z | z) | z)
      · exact Or.inl ⟨z.1, z.2.1, Or.inl z.2.2.1, z.2.2.2⟩
      · omega
      · refine Or.inl ⟨hc, by omega, Or.inr ⟨rfl, by omega⟩, ?_⟩
        rw [z, Nat.add_sub_cancel_left]
        exact hA
    · rintro (z | z)
      · rcases z.2.2.1 with q | q
        · exact Or.inl (Or.inl ⟨z.1, z.2.1, q, z.2.2.2⟩)
        · have h8 := z.2.1
          exact Or.inr (by omega)
      · omega
  · rw [pk_un e, I t i ht hi]
    unfold cg_U
    rw [hQ, hQ]
    constructor
    · rintro (z | z)
      · exact Or.inl ⟨z.1, z.2.1, Or.inl z.2.2.1, z.2.2.2⟩
      · exact Or.inr ⟨z.1, z.2.1, Or.inl z.2.2.1, z.2.2.2⟩
    · rintro (z | z)
      · rcases z.2.2.1 with q | q
        · exact Or.inl ⟨z.1, z.2.1, q, z.2.2.2⟩
        · exact absurd q.1 e
      · rcases z.2.2.1 with q | q
        · exact Or.inr ⟨z.1, z.2.1, q, z.2.2.2⟩
        · have z4 := z.2.2.2
          rw [q.1, q.2, hA] at z4
          exact Bool.noConfusion z4
theorem cg_U_f {A : Nat → Nat → Bool} {Q Q' : Nat → Nat → Prop} {a : Nat → Int32} {c r : Nat} (I : cg_Is a (cg_U A Q)) (hc : c < 8) (hr : r < 8) (hQ : ∀ c' r', Q' c' r' ↔ Q c' r' ∨ (c' = c ∧ r' = r)) (hA : A c r = false) :
    cg_Is (upd a (8 + r) (a (8 + r) ||| ((1 : Int32) <<< (nI c &&& 31)))) (cg_U A Q') := by
  intro t i ht hi
  by_cases e : t = 8 + r
  · rw [e, pk_us, ce_or1 _ (by omega) hi, Bool.or_eq_true, I (8 + r) i (by omega) hi, decide_eq_true_eq]
    unfold cg_U
    rw [hQ, hQ]
    constructor
    · rintro ((z | z) | z)
      · omega
      · exact Or.inr ⟨z.1, z.2.1, Or.inl z.2.2.1, z.2.2.2⟩
      · refine Or.inr ⟨by omega, by omega, Or.inr ⟨z, by omega⟩, ?_⟩
        rw [z, Nat.add_sub_cancel_left]
        exact hA
    · rintro (z | z)
      · omega
      · rcases z.2.2.1 with q | q
        · exact Or.inl (Or.inr ⟨z.1, z.2.1, q, z.2.2.2⟩)
        · exact Or.inr q.1
  · rw [pk_un e, I t i ht hi]
    unfold cg_U
    rw [hQ, hQ]
    constructor
    · rintro (z | z)
      · exact Or.inl ⟨z.1, z.2.1, Or.inl z.2.2.1, z.2.2.2⟩
      · exact Or.inr ⟨z.1, z.2.1, Or.inl z.2.2.1, z.2.2.2⟩
    · rintro (z | z)
      · rcases z.2.2.1 with q | q
        · exact Or.inl ⟨z.1, z.2.1, q, z.2.2.2⟩
        · have z4 := z.2.2.2
          rw [q.1, q.2, hA] at z4
          exact Bool.noConfusion z4
      · rcases z.2.2.1 with q | q
        · exact Or.inr ⟨z.1, z.2.1, q, z.2.2.2⟩
        · have z1 := z.1
          exact absurd (by omega : t = 8 + r) e
theorem cg_U_0 {A : Nat → Nat → Bool} {a : Nat → Int32} (h : ∀ t, t < 16 → a t = 0) : cg_Is a (cg_U A (fun _ _ => False)) := by
  intro t i ht _
  rw [h t ht, b_0]
  constructor
  · intro z
    exact Bool.noConfusion z
  · rintro (z | z)
    · exact z.2.2.1.elim
    · exact z.2.2.1.elim
/-- X's `under`: bit i of row t just if t is above i -/
def cg_Un (A : Nat → Nat → Bool) (w h : Nat) (a : Nat → Int32) : Prop := ∀ t i, t < 16 → i < 32 → bt (a t) i = cd_ab A w h t i
theorem cg_U_e {A : Nat → Nat → Bool} {w h : Nat} {a : Nat → Int32} (hw : w ≤ 8) (hh : h ≤ 8) (I : cg_Is a (cg_U A (fun c r => c < w ∧ r < h))) : cg_Un A w h a := by
  intro t i ht hi
  apply Bool.eq_iff_iff.mpr
  rw [I t i ht hi, cd_ab_iff]
  unfold cg_U
  constructor
  · rintro (z | z)
    · exact Or.inl ⟨z.2.2.1.1, z.2.1, by have := z.2.2.1.2; have := z.2.1; omega, z.2.2.2⟩
    · exact Or.inr ⟨z.1, by have := z.2.2.1.2; have := z.1; omega, z.2.2.1.1, z.2.2.2⟩
  · rintro (z | z)
    · exact Or.inl ⟨by omega, z.2.1, ⟨z.1, by have := z.2.2.1; have := z.2.1; omega⟩, z.2.2.2⟩
    · exact Or.inr ⟨z.1, by have := z.2.2.1; omega, ⟨z.2.2.1, by have := z.2.1; have := z.1; omega⟩, z.2.2.2⟩
/-- X's `beneath` -/
def cg_Be (r : Nat → Nat → Bool) (a : Nat → Int32) : Prop := ∀ t i, t < 16 → i < 32 → bt (a t) i = r t i
/-! one stage of X's closure, row by row -/
def cg_w1 (a : Nat → Int32) (n s : Nat) : Int32 := cond (bt (a s) n) (a s ||| a n) (a s)
def cg_wt (a : Nat → Int32) (n t s : Nat) : Int32 := if s < t then cg_w1 a n s else a s
theorem cg_w1_n (a : Nat → Int32) (n : Nat) : cg_w1 a n n = a n := by
  unfold cg_w1
  cases bt (a n) n with
  | false => rfl
  | true => exact ce_ors (a n)
theorem cg_wt_n (a : Nat → Int32) (n t : Nat) : cg_wt a n t n = a n := by
  unfold cg_wt
  split
  · exact cg_w1_n a n
  · rfl
theorem cg_wt_t (a : Nat → Int32) (n t : Nat) : cg_wt a n t t = a t := if_neg (Nat.lt_irrefl t)
theorem cg_wt_1 (a : Nat → Int32) (n t : Nat) (h : bt (a t) n = true) : upd (cg_wt a n t) t (a t ||| a n) = cg_wt a n (t + 1) := by
  funext s
  by_cases e : s = t
  · rw [e, pk_us]
    unfold cg_wt
    rw [if_pos (by omega)]
    unfold cg_w1
    rw [h]
    try rfl
  · rw [pk_un e]
    unfold cg_wt
    by_cases hl : s < t
    · rw [if_pos hl, if_pos (by omega)]
    · rw [if_neg hl, if_neg (by omega)]
theorem cg_wt_0 (a : Nat → Int32) (n t : Nat) (h : bt (a t) n = false) : cg_wt a n t = cg_wt a n (t + 1) := by
  funext s
  unfold cg_wt
  by_cases e : s = t
  · rw [e, if_neg (by omega), if_pos (by omega)]
    unfold cg_w1
    rw [h]
    try rfl
  · by_cases hl : s < t
    · rw [if_pos hl, if_pos (by omega)]
    · rw [if_neg hl, if_neg (by omega)]
theorem cg_wt_z (a : Nat → Int32) (n : Nat) : cg_wt a n 0 = a := by
  funext s
  exact if_neg (Nat.not_lt_zero s)
def cg_B (a : Nat → Int32) (t u : Nat) : Bool := bt (a t) u
theorem cg_wt_B (a : Nat → Int32) {n : Nat} : ∀ t, t < 16 → ∀ u, cg_B (cg_wt a n 16) t u = (cg_B a t u || (cg_B a t n && cg_B a n u)) := by
  intro t ht u
  show bt (cg_wt a n 16 t) u = (bt (a t) u || (bt (a t) n && bt (a n) u))
  unfold cg_wt
  rw [if_pos ht]
  unfold cg_w1
  cases h : bt (a t) n with
  | false =>
    rw [Bool.false_and, Bool.or_false]
    try rfl
  | true =>
    rw [Bool.true_and]
    exact b_or _ _ _
theorem cg_In_0 {A : Nat → Nat → Bool} {w h : Nat} {a : Nat → Int32} (hw : w ≤ 8) (hh : h ≤ 8) (ha : ∀ t i, t < 16 → i < 32 → bt (a t) i = (cd_th w h t && (decide (i = t) || cd_ab A w h t i))) : ce_In A w h 0 (cg_B a) := by
  refine ⟨?_, ?_, ?_, ce_VT_0 _⟩
  · intro t u ht hb
    have hu : u < 32 := by
      rcases Nat.lt_or_ge u 32 with hl | hl
      · exact hl
      · have : bt (a t) u = true := hb
        rw [b_big hl] at this
        exact Bool.noConfusion this
    have hb' : bt (a t) u = true := hb
    rw [ha t u ht hu, Bool.and_eq_true, Bool.or_eq_true, decide_eq_true_eq] at hb'
    rcases hb'.2 with e | e
    · rw [e, cd_rr_th]
      exact hb'.1
    · exact cd_rr_iff.mpr ⟨hb'.1, (cd_ab_th e).2, cd_R_1 e⟩
  · intro t ht htt
    show bt (a t) t = true
    rw [ha t t ht (by omega), htt, decide_eq_true rfl]
    try rfl
  · intro t u ht e
    have hu := ce_th16 hw hh (cd_ab_th e).2
    show bt (a t) u = true
    rw [ha t u ht (by omega), (cd_ab_th e).1, e, Bool.or_true]
    try rfl
theorem cg_In_s {A : Nat → Nat → Bool} {w h n : Nat} {a : Nat → Int32} (hw : w ≤ 8) (hn : n < 16) (I : ce_In A w h n (cg_B a)) : ce_In A w h (n + 1) (cg_B (cg_wt a n 16)) := ce_In_s hw hn I (cg_wt_B a)
theorem cg_In_e {A : Nat → Nat → Bool} {w h : Nat} {a : Nat → Int32} (hw : w ≤ 8) (hh : h ≤ 8) (I : ce_In A w h 16 (cg_B a)) : cg_Be (cd_rr A w h) a := fun t i ht _ => ce_In_e hw hh I ht i
/-! rows of `beneath` that are equal, and rows that are empty -/
theorem cg_be_eq {r : Nat → Nat → Bool} {a : Nat → Int32} (C : cd_Cl r) (I : cg_Be r a) {s t : Nat} (hs : s < 16) (ht : t < 16) (hr : r t t = true) : a s = a t ↔ cd_eq r s t = true := by
  rw [cd_eq_iff, ce_eq]
  constructor
  · intro h
    have h1 := h t (by omega)
    rw [I s t hs (by omega), I t t ht (by omega), hr] at h1
    have h2 := h s (by omega)
    rw [I s s hs (by omega), I t s ht (by omega), (C.1 s t h1).1] at h2
    exact ⟨h1, h2.symm⟩
  · rintro ⟨h1, h2⟩ i hi
    rw [I s i hs hi, I t i ht hi]
    apply Bool.eq_iff_iff.mpr
    exact ⟨fun z => C.2.1 t s i h2 z, fun z => C.2.1 s t i h1 z⟩
theorem cg_be_0 {r : Nat → Nat → Bool} {a : Nat → Int32} (C : cd_Cl r) (I : cg_Be r a) {t : Nat} (ht : t < 16) : a t = 0 ↔ r t t = false := by
  rw [ce_eq]
  constructor
  · intro h
    have := h t (by omega)
    rw [I t t ht (by omega), b_0] at this
    exact this
  · intro h i hi
    rw [I t i ht hi, b_0]
    exact cd_nt (fun z => cd_tf h (C.1 t i z).1)
