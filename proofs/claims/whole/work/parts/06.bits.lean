/-! an int by its bits -/
theorem ce_b1 (i : Nat) : bt 1 i = decide (i = 0) := by
  rcases Nat.lt_or_ge i 32 with h | h
  · exact (by decide +kernel : ∀ i, i < 32 → bt 1 i = decide (i = 0)) i h
  · rw [b_big h, decide_eq_false (by omega)]
theorem ce_bit (x : Int32) {e : Nat} (he : e < 32) : (x >>> (nI e &&& 31)) &&& 1 = nI (bt x e).toNat := by
  apply b_ext
  intro i hi
  rw [b_and, b_sshr e he x hi, ce_b1]
  by_cases h0 : i = 0
  · rw [h0, if_pos (by omega), Nat.add_zero, decide_eq_true rfl, Bool.and_true]
    cases bt x e with
    | false => exact (b_0 0).symm
    | true => exact (by decide +kernel : true = bt 1 0)
  · rw [decide_eq_false h0, Bool.and_false]
    cases bt x e with
    | false => exact (b_0 i).symm
    | true =>
      show false = bt 1 i
      rw [ce_b1, decide_eq_false h0]
theorem ce_n01 : ¬ nI 0 = 1 ∧ nI 1 = 1 ∧ nI 0 = 0 ∧ ¬ nI 1 = 0 := by decide +kernel
theorem ce_t1 (b : Bool) : nI b.toNat = 1 ↔ b = true := by
  cases b with
  | false => exact ⟨fun h => absurd h ce_n01.1, fun h => Bool.noConfusion h⟩
  | true => exact ⟨fun _ => rfl, fun _ => ce_n01.2.1⟩
theorem ce_t0 (b : Bool) : nI b.toNat = 0 ↔ b = false := by
  cases b with
  | false => exact ⟨fun _ => rfl, fun _ => ce_n01.2.2.1⟩
  | true => exact ⟨fun h => absurd h ce_n01.2.2.2, fun h => Bool.noConfusion h⟩
theorem ce_bit1 (x : Int32) {e : Nat} (he : e < 32) : (x >>> (nI e &&& 31)) &&& 1 = 1 ↔ bt x e = true := by rw [ce_bit x he, ce_t1]
theorem ce_bit0 (x : Int32) {e : Nat} (he : e < 32) : (x >>> (nI e &&& 31)) &&& 1 = 0 ↔ bt x e = false := by rw [ce_bit x he, ce_t0]
theorem ce_sh : ∀ c, c < 31 → (1 : Int32) <<< (nI c &&& 31) = nI (2 ^ c) := by decide +kernel
theorem ce_1sh {u i : Nat} (hu : u < 32) (hi : i < 32) : bt ((1 : Int32) <<< (nI u &&& 31)) i = decide (i = u) := by
  rw [b_shl u hu 1 hi, ce_b1]
  by_cases h : i = u
  · rw [h, decide_eq_true (Nat.le_refl u), Nat.sub_self, decide_eq_true rfl, decide_eq_true rfl]
    try rfl
  · rw [decide_eq_false h]
    by_cases h2 : u ≤ i
    · rw [decide_eq_false (by omega : ¬ i - u = 0), Bool.and_false]
    · rw [decide_eq_false h2, Bool.false_and]
theorem ce_or1 (x : Int32) {u i : Nat} (hu : u < 32) (hi : i < 32) : bt (x ||| ((1 : Int32) <<< (nI u &&& 31))) i = (bt x i || decide (i = u)) := by
  rw [b_or, ce_1sh hu hi]
theorem ce_eq {x y : Int32} : x = y ↔ ∀ i, i < 32 → bt x i = bt y i := ⟨fun h i _ => by rw [h], b_ext⟩
theorem ce_and0 {x y : Int32} : x &&& y = 0 ↔ ∀ i, i < 32 → (bt x i && bt y i) = false := by
  rw [ce_eq]
  constructor
  · intro h i hi
    rw [← b_and, h i hi, b_0]
  · intro h i hi
    rw [b_and, h i hi, b_0]
theorem ce_not (y : Int32) {i : Nat} (hi : i < 32) : bt (y ^^^ (-1)) i = !bt y i := by
  rw [b_xor, b_m1 i hi, Bool.xor_true]
theorem ce_sub0 {x y : Int32} : x &&& (y ^^^ (-1)) = 0 ↔ ∀ i, i < 32 → bt x i = true → bt y i = true := by
  rw [ce_and0]
  constructor
  · intro h i hi hx
    have := h i hi
    rw [ce_not y hi, hx, Bool.true_and] at this
    cases hy : bt y i with
    | true => rfl
    | false => rw [hy] at this; exact Bool.noConfusion this
  · intro h i hi
    rw [ce_not y hi]
    cases hx : bt x i with
    | false => rfl
    | true => rw [h i hi hx]; try rfl
theorem ce_nI (S : Nat) {i : Nat} (hi : i < 32) : bt (nI S) i = S.testBit i := by
  show (BitVec.ofNat 32 S).getLsbD i = _
  rw [BitVec.getLsbD_ofNat, decide_eq_true hi, Bool.true_and]
theorem ce_nor (a b : Nat) : nI a ||| nI b = nI (a ||| b) := by
  apply b_ext
  intro i hi
  rw [b_or, ce_nI a hi, ce_nI b hi, ce_nI _ hi, Nat.testBit_or]
theorem ce_ors (x : Int32) : x ||| x = x := by
  apply b_ext
  intro i _
  rw [b_or, Bool.or_self]
/-! reaching down, as X finds it -/
def ce_VT (B : Nat → Nat → Bool) (n : Nat) : Prop := ∀ t x u, t < 16 → x < n → B t x = true → B x u = true → B t u = true
theorem ce_VT_s {B B' : Nat → Nat → Bool} {n : Nat} (hn : n < 16) (h : ce_VT B n) (hB : ∀ t, t < 16 → ∀ u, B' t u = (B t u || (B t n && B n u))) : ce_VT B' (n + 1) := by
  intro t x u ht hx h1 h2
  rw [hB t ht, Bool.or_eq_true, Bool.and_eq_true] at h1
  rw [hB x (by omega), Bool.or_eq_true, Bool.and_eq_true] at h2
  rw [hB t ht, Bool.or_eq_true, Bool.and_eq_true]
  rcases Nat.lt_or_ge x n with hl | hl
  · rcases h1 with h1 | ⟨h1, h3⟩
    · rcases h2 with h2 | ⟨h2, h4⟩
      · exact Or.inl (h t x u ht hl h1 h2)
      · exact Or.inr ⟨h t x n ht hl h1 h2, h4⟩
    · rcases h2 with h2 | ⟨h2, h4⟩
      · exact Or.inr ⟨h1, h n x u hn hl h3 h2⟩
      · exact Or.inr ⟨h1, h4⟩
  · have e : x = n := by omega
    rw [e] at h1 h2
    have h5 : B t n = true := by
      rcases h1 with h1 | ⟨h1, _⟩
      · exact h1
      · exact h1
    have h6 : B n u = true := by
      rcases h2 with h2 | ⟨_, h2⟩
      · exact h2
      · exact h2
    exact Or.inr ⟨h5, h6⟩
theorem ce_VT_0 (B : Nat → Nat → Bool) : ce_VT B 0 := fun _ x _ _ hx => absurd hx (Nat.not_lt_zero x)
theorem ce_th16 {w h t : Nat} (hw : w ≤ 8) (hh : h ≤ 8) (ht : cd_th w h t = true) : t < 16 := by
  have := cd_th_iff.mp ht
  omega
def ce_In (A : Nat → Nat → Bool) (w h n : Nat) (B : Nat → Nat → Bool) : Prop :=
  (∀ t u, t < 16 → B t u = true → cd_rr A w h t u = true) ∧
  (∀ t, t < 16 → cd_th w h t = true → B t t = true) ∧
  (∀ t u, t < 16 → cd_ab A w h t u = true → B t u = true) ∧ ce_VT B n
theorem ce_In_s {A : Nat → Nat → Bool} {w h n : Nat} {B B' : Nat → Nat → Bool} (hw : w ≤ 8) (hn : n < 16) (I : ce_In A w h n B) (hB : ∀ t, t < 16 → ∀ u, B' t u = (B t u || (B t n && B n u))) : ce_In A w h (n + 1) B' := by
  obtain ⟨h1, h2, h3, h4⟩ := I
  refine ⟨?_, ?_, ?_, ce_VT_s hn h4 hB⟩
  · intro t u ht hb
    rw [hB t ht, Bool.or_eq_true, Bool.and_eq_true] at hb
    rcases hb with hb | ⟨hb, hb'⟩
    · exact h1 t u ht hb
    · exact (cd_rr_Cl A hw).2.1 t n u (h1 t n ht hb) (h1 n u hn hb')
  · intro t ht htt
    rw [hB t ht, h2 t ht htt]
    try rfl
  · intro t u ht htu
    rw [hB t ht, h3 t u ht htu]
    try rfl
theorem ce_In_e {A : Nat → Nat → Bool} {w h : Nat} {B : Nat → Nat → Bool} (hw : w ≤ 8) (hh : h ≤ 8) (I : ce_In A w h 16 B) {t : Nat} (ht : t < 16) (u : Nat) : B t u = cd_rr A w h t u := by
  obtain ⟨h1, h2, h3, h4⟩ := I
  apply Bool.eq_iff_iff.mpr
  refine ⟨h1 t u ht, fun e => ?_⟩
  obtain ⟨q1, q2, q3⟩ := cd_rr_iff.mp e
  refine q3 (fun z => B t z = true) (h2 t ht q1) ?_
  intro x y hx hxy
  have hx16 := ce_th16 hw hh (cd_ab_th hxy).1
  exact h4 t x y ht hx16 hx (h3 x y hx16 hxy)
/-! reaching up, as the reference finds it -/
theorem ce_up {A : Nat → Nat → Bool} {w h : Nat} {M : Nat → Nat → Bool} (hw : w ≤ 8) (hh : h ≤ 8)
    (h1 : ∀ t, t < 16 → M t t = true) (h2 : ∀ t x, t < 16 → cd_th w h t = true → M t x = true → cd_rr A w h x t = true)
    (h3 : ∀ t u x, t < 16 → u < 16 → cd_ab A w h u t = true → M u x = true → M t x = true) {t : Nat} (ht : cd_th w h t = true) (x : Nat) : M t x = cd_rr A w h x t := by
  apply Bool.eq_iff_iff.mpr
  refine ⟨h2 t x (ce_th16 hw hh ht) ht, fun e => ?_⟩
  obtain ⟨q1, q2, q3⟩ := cd_rr_iff.mp e
  refine q3 (fun z => M z x = true) (h1 x (ce_th16 hw hh q1)) ?_
  intro y z hy hyz
  obtain ⟨t1, t2⟩ := cd_ab_th hyz
  exact h3 z y x (ce_th16 hw hh t2) (ce_th16 hw hh t1) hyz hy
/-- how many bits of the sixteen rows are not set -/
def ce_mu (m : Nat → Int32) : Nat := cd_sm (fun t => cd_cn (fun i => !bt (m t) i) 32) 16
theorem ce_sm_le {f g : Nat → Nat} {n : Nat} (h : ∀ i, i < n → f i ≤ g i) : cd_sm f n ≤ cd_sm g n := by
  induction n with
  | zero => exact Nat.le_refl 0
  | succ n ih =>
    rw [cd_sm_s, cd_sm_s]
    exact Nat.add_le_add (ih (fun i hi => h i (by omega))) (h n (by omega))
theorem ce_sm_lt {f g : Nat → Nat} {n k : Nat} (h : ∀ i, i < n → f i ≤ g i) (hk : k < n) (hlt : f k < g k) : cd_sm f n < cd_sm g n := by
  induction n with
  | zero => omega
  | succ n ih =>
    rw [cd_sm_s, cd_sm_s]
    have h1 := h n (by omega)
    rcases Nat.lt_or_ge k n with hl | hl
    · have := ih (fun i hi => h i (by omega)) hl
      omega
    · have e : k = n := by omega
      have h2 := ce_sm_le (n := n) (fun i hi => h i (by omega))
      rw [e] at hlt
      omega
theorem ce_cn_lt {p q : Nat → Bool} {n k : Nat} (h : ∀ i, i < n → p i = true → q i = true) (hk : k < n) (hp : p k = false) (hq : q k = true) : cd_cn p n < cd_cn q n := by
  have h1 := cd_cn_rm (M' := fun i => q i && !decide (i = k)) hk hq (fun _ _ => rfl)
  have h2 : cd_cn p n ≤ cd_cn (fun i => q i && !decide (i = k)) n := by
    apply cd_cn_imp
    intro i hi hpi
    try dsimp only
    have hik : ¬ i = k := fun e => by
      rw [e] at hpi
      exact cd_tf hp hpi
    rw [h i hi hpi, decide_eq_false hik]
    try rfl
  omega
theorem ce_mu_lt (m : Nat → Int32) {t u : Nat} (ht : t < 16) (h : ¬ m u &&& (m t ^^^ (-1)) = 0) : ce_mu (upd m t (m t ||| m u)) < ce_mu m := by
  have hex : ∃ i, i < 32 ∧ bt (m u) i = true ∧ bt (m t) i = false := by
    apply Classical.byContradiction
    intro hno
    apply h
    rw [ce_sub0]
    intro i hi hx
    cases hy : bt (m t) i with
    | true => rfl
    | false => exact absurd ⟨i, hi, hx, hy⟩ hno
  obtain ⟨i, hi, hx, hy⟩ := hex
  have hle : ∀ s, cd_cn (fun i => !bt (upd m t (m t ||| m u) s) i) 32 ≤ cd_cn (fun i => !bt (m s) i) 32 := by
    intro s
    apply cd_cn_imp
    intro j _ hj
    by_cases e : s = t
    · rw [e, pk_us, b_or] at hj
      rw [e]
      cases hb : bt (m t) j with
      | false => rfl
      | true => rw [hb] at hj; exact hj
    · rw [pk_un e] at hj
      exact hj
  unfold ce_mu
  refine ce_sm_lt (fun s _ => hle s) ht ?_
  refine ce_cn_lt (k := i) (fun j _ hj => ?_) hi ?_ ?_
  · rw [pk_us, b_or] at hj
    cases hb : bt (m t) j with
    | false => rfl
    | true => rw [hb] at hj; exact hj
  · rw [pk_us, b_or, hx, Bool.or_true]
    try rfl
  · rw [hy]
    try rfl
