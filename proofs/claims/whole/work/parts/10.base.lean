/-! what the two states share: the sizes, the threading, the treadling, the ties -/
def ci_Ok (w h : Nat) (sf tl ti : Nat → Int32) : Prop :=
  (1 ≤ w ∧ w ≤ 8 ∧ 1 ≤ h ∧ h ≤ 8) ∧ (∀ c, c < 8 → ∃ s, s < 4 ∧ sf c = nI s) ∧ (∀ r, r < 8 → ∃ s, s < 4 ∧ tl r = nI s) ∧ (∀ t, t < 4 → ∃ s, s < 16 ∧ ti t = nI s)
def ci_A (sf tl ti : Nat → Int32) (c r : Nat) : Bool := bt (ti (tl r).toNatClampNeg) (sf c).toNatClampNeg
def ci_r (x : Int32) (n : Nat) : Prop := ∃ j, j < n ∧ x = nI j
def ci_t (w h : Nat) (x : Int32) : Prop := ∃ t, cd_th w h t = true ∧ x = nI t
theorem ci_r_lo {x : Int32} {n : Nat} (hn : n < 2 ^ 31) (h : x < 0) : ¬ ci_r x n := by
  rintro ⟨j, hj, rfl⟩
  exact nI_pos (by omega) h
theorem ci_r_hi {x : Int32} {n : Nat} (hn : n < 2 ^ 31) (h : nI n ≤ x) : ¬ ci_r x n := by
  rintro ⟨j, hj, rfl⟩
  exact nI_ge hj hn h
theorem ci_r_in {x : Int32} {n : Nat} (hn : n < 2 ^ 31) (h0 : ¬ x < 0) (h : ¬ nI n ≤ x) : ci_r x n := by
  rcases pk_ix x hn with z | z | z
  · exact absurd z h0
  · exact absurd z h
  · exact z
theorem ci_n8 : nI 8 = 8 ∧ nI 4 = 4 ∧ nI 16 = 16 ∧ nI 1 = 1 := by decide +kernel
/-! an array that is written from its first cell on -/
def ci_fill (a g : Nat → Int32) (j : Nat) : Nat → Int32 := fun s => if s < j then g s else a s
theorem ci_fill_0 (a g : Nat → Int32) : ci_fill a g 0 = a := by
  funext s
  exact if_neg (Nat.not_lt_zero s)
theorem ci_fill_j (a g : Nat → Int32) (j : Nat) : ci_fill a g j j = a j := if_neg (Nat.lt_irrefl j)
theorem ci_fill_lt (a g : Nat → Int32) {j s : Nat} (h : s < j) : ci_fill a g j s = g s := if_pos h
theorem ci_fill_s (a g : Nat → Int32) (j : Nat) {x : Int32} (hx : x = g j) : upd (ci_fill a g j) j x = ci_fill a g (j + 1) := by
  funext s
  unfold ci_fill upd
  by_cases e : s = j
  · rw [if_pos e, if_pos (by omega), hx, e]
  · rw [if_neg e]
    show (if s < j then g s else a s) = _
    by_cases hl : s < j
    · rw [if_pos hl, if_pos (by omega)]
    · rw [if_neg hl, if_neg (by omega)]
theorem ci_cl {x : Int32} {n : Nat} (h : x = nI n) (hn : n < 2 ^ 31) : x.toNatClampNeg = n := by rw [h]; exact nI_clamp hn
theorem ci_Ok_sf {w h : Nat} {sf tl ti : Nat → Int32} (O : ci_Ok w h sf tl ti) {sf' : Nat → Int32} (h' : ∀ c, c < 8 → ∃ s, s < 4 ∧ sf' c = nI s) : ci_Ok w h sf' tl ti := ⟨O.1, h', O.2.2⟩
theorem ci_Ok_tl {w h : Nat} {sf tl ti : Nat → Int32} (O : ci_Ok w h sf tl ti) {tl' : Nat → Int32} (h' : ∀ c, c < 8 → ∃ s, s < 4 ∧ tl' c = nI s) : ci_Ok w h sf tl' ti := ⟨O.1, O.2.1, h', O.2.2.2⟩
theorem ci_Ok_ti {w h : Nat} {sf tl ti : Nat → Int32} (O : ci_Ok w h sf tl ti) {ti' : Nat → Int32} (h' : ∀ c, c < 4 → ∃ s, s < 16 ∧ ti' c = nI s) : ci_Ok w h sf tl ti' := ⟨O.1, O.2.1, O.2.2.1, h'⟩
theorem ci_upd {a : Nat → Int32} {N M c s : Nat} (h : ∀ c, c < N → ∃ s, s < M ∧ a c = nI s) (hs : s < M) : ∀ c', c' < N → ∃ s', s' < M ∧ upd a c (nI s) c' = nI s' := by
  intro c' hc'
  by_cases e : c' = c
  · exact ⟨s, hs, by rw [e, pk_us]⟩
  · rw [pk_un e]
    exact h c' hc'
theorem ci_fillOk {a g : Nat → Int32} {N M j : Nat} (h : ∀ c, c < N → ∃ s, s < M ∧ a c = nI s) (hg : ∀ c, c < N → ∃ s, s < M ∧ g c = nI s) : ∀ c', c' < N → ∃ s', s' < M ∧ ci_fill a g j c' = nI s' := by
  intro c' hc'
  unfold ci_fill
  by_cases e : c' < j
  · rw [if_pos e]
    exact hg c' hc'
  · rw [if_neg e]
    exact h c' hc'
/-! the ties turned round -/
theorem ci_15 : ∀ s, s < 16 → (15 : Int32) - nI s = nI (15 - s) := by decide +kernel
theorem ci_b4 : ∀ s, s < 16 → cd_cn (bt (nI s)) 16 = cd_cn (bt (nI s)) 4 := by decide +kernel
/-! the threads -/
theorem ci_t_16 {w h : Nat} {x : Int32} (hw : w ≤ 8) (hh : h ≤ 8) (e : ci_t w h x) : ∃ t, t < 16 ∧ cd_th w h t = true ∧ x = nI t := by
  obtain ⟨t, h1, h2⟩ := e
  exact ⟨t, ce_th16 hw hh h1, h1, h2⟩
theorem ci_t_nI {w h t : Nat} (hw : w ≤ 8) (hh : h ≤ 8) (ht : t < 2 ^ 31) : ci_t w h (nI t) ↔ cd_th w h t = true := by
  constructor
  · rintro ⟨s, h1, h2⟩
    have hs := ce_th16 hw hh h1
    rw [nI_eq ht (by omega)] at h2
    rw [h2]
    exact h1
  · exact fun z => ⟨t, z, rfl⟩
theorem ci_run {p q : Nat → Bool} {n : Nat} (h : ∀ i, i < n → p i = q i) : nI (cf_rb p n).2 = nI (cf_rb q n).2 := by rw [cf_rb_c h]
