/-! the reference's closure: `must` -/
def ch_Mu (A : Nat → Nat → Bool) (w h : Nat) (m : Nat → Int32) : Prop :=
  (∀ t, t < 16 → bt (m t) t = true) ∧ (∀ t x, t < 16 → bt (m t) x = true → x = t ∨ cd_rr A w h x t = true)
theorem ch_lt32 {x : Int32} {i : Nat} (h : bt x i = true) : i < 32 := by
  rcases Nat.lt_or_ge i 32 with hl | hl
  · exact hl
  · rw [b_big hl] at h
    exact Bool.noConfusion h
theorem ch_Mu_0 {A : Nat → Nat → Bool} {w h : Nat} {m : Nat → Int32} (hm : ∀ t, t < 16 → m t = (1 : Int32) <<< (nI t &&& 31)) : ch_Mu A w h m := by
  constructor
  · intro t ht
    rw [hm t ht, ce_1sh (by omega) (by omega), decide_eq_true rfl]
  · intro t x ht hx
    have hx32 := ch_lt32 hx
    rw [hm t ht, ce_1sh (by omega) hx32, decide_eq_true_eq] at hx
    exact Or.inl hx
theorem ch_Mu_s {A : Nat → Nat → Bool} {w h : Nat} {m : Nat → Int32} {t u : Nat} (hw : w ≤ 8) (I : ch_Mu A w h m) (ht : t < 16) (hu : u < 16) (hab : cd_ab A w h u t = true) : ch_Mu A w h (upd m t (m t ||| m u)) := by
  constructor
  · intro s hs
    by_cases e : s = t
    · rw [e, pk_us, b_or, I.1 t ht]
      try rfl
    · rw [pk_un e]
      exact I.1 s hs
  · intro s x hs hx
    by_cases e : s = t
    · rw [e] at hx ⊢
      rw [pk_us, b_or, Bool.or_eq_true] at hx
      rcases hx with hx | hx
      · exact I.2 t x ht hx
      · have hut : cd_rr A w h u t = true := cd_rr_iff.mpr ⟨(cd_ab_th hab).1, (cd_ab_th hab).2, cd_R_1 hab⟩
        rcases I.2 u x hu hx with z | z
        · rw [z]
          exact Or.inr hut
        · exact Or.inr ((cd_rr_Cl A hw).2.1 x u t z hut)
    · rw [pk_un e] at hx
      exact I.2 s x hs hx
/-- one pass over the pairs, from m0: done up to (t, u), the rows are m, b says whether something was new -/
def ch_Pa (A : Nat → Nat → Bool) (w h : Nat) (m0 : Nat → Int32) (t u : Nat) (m : Nat → Int32) (b : Bool) : Prop :=
  ch_Mu A w h m ∧
  (b = false → m = m0 ∧ ∀ t' u', t' < 16 → u' < 16 → (t' < t ∨ (t' = t ∧ u' < u)) → cd_ab A w h u' t' = true → m u' &&& (m t' ^^^ (-1)) = 0) ∧
  (b = true → ce_mu m < ce_mu m0)
theorem ch_Pa_0 {A : Nat → Nat → Bool} {w h : Nat} {m : Nat → Int32} (I : ch_Mu A w h m) : ch_Pa A w h m 0 0 m false :=
  ⟨I, fun _ => ⟨rfl, fun t' u' _ _ hd => by omega⟩, fun z => Bool.noConfusion z⟩
theorem ch_Pa_n {A : Nat → Nat → Bool} {w h t u : Nat} {m0 m : Nat → Int32} {b : Bool} (I : ch_Pa A w h m0 t u m b) (hn : cd_ab A w h u t = true → m u &&& (m t ^^^ (-1)) = 0) : ch_Pa A w h m0 t (u + 1) m b := by
  refine ⟨I.1, fun hb => ⟨(I.2.1 hb).1, fun t' u' h1 h2 hd hab => ?_⟩, I.2.2⟩
  by_cases e : t' = t ∧ u' = u
  · rw [e.1, e.2] at hab ⊢
    exact hn hab
  · exact (I.2.1 hb).2 t' u' h1 h2 (by omega) hab
theorem ch_Pa_y {A : Nat → Nat → Bool} {w h t u : Nat} {m0 m : Nat → Int32} {b : Bool} (hw : w ≤ 8) (I : ch_Pa A w h m0 t u m b) (ht : t < 16) (hu : u < 16) (hab : cd_ab A w h u t = true) (hne : ¬ m u &&& (m t ^^^ (-1)) = 0) : ch_Pa A w h m0 t (u + 1) (upd m t (m t ||| m u)) true := by
  refine ⟨ch_Mu_s hw I.1 ht hu hab, fun z => Bool.noConfusion z, fun _ => ?_⟩
  have h1 := ce_mu_lt m ht hne
  cases hb : b with
  | false =>
    rw [(I.2.1 hb).1] at h1 ⊢
    exact h1
  | true =>
    have h2 := I.2.2 hb
    omega
theorem ch_Pa_r {A : Nat → Nat → Bool} {w h t : Nat} {m0 m : Nat → Int32} {b : Bool} (I : ch_Pa A w h m0 t 16 m b) : ch_Pa A w h m0 (t + 1) 0 m b :=
  ⟨I.1, fun hb => ⟨(I.2.1 hb).1, fun t' u' h1 h2 hd hab => (I.2.1 hb).2 t' u' h1 h2 (by omega) hab⟩, I.2.2⟩
/-- the reference's `must` at its end: bit x of row t just if x is at or above t -/
def ch_Mf (r : Nat → Nat → Bool) (m : Nat → Int32) : Prop := ∀ t x, r t t = true → bt (m t) x = r x t
theorem ch_Pa_e {A : Nat → Nat → Bool} {w h : Nat} {m0 m : Nat → Int32} (hw : w ≤ 8) (hh : h ≤ 8) (I : ch_Pa A w h m0 16 0 m false) : ch_Mf (cd_rr A w h) m := by
  intro t x ht
  rw [cd_rr_th] at ht
  refine ce_up (M := fun t x => bt (m t) x) hw hh I.1.1 ?_ ?_ ht x
  · intro t x ht htt hx
    rcases I.1.2 t x ht hx with z | z
    · rw [z, cd_rr_th]
      exact htt
    · exact z
  · intro t u x ht hu hab hx
    have h0 := (I.2.1 rfl).2 t u ht hu (Or.inl ht) hab
    exact ce_sub0.mp h0 x (ch_lt32 hx) hx
theorem ch_cov {A : Nat → Nat → Bool} {w h u t : Nat} (hw : w ≤ 8) (hu : cd_th w h u = true) (ht : cd_th w h t = true) : cd_ab A w h u t = if (u < 8 ↔ t < 8) then false else cf_sh A u (if t < 8 then t else t - 8) := by
  have q2 := cd_th_iff.mp ht
  rcases cd_th_iff.mp hu with q | ⟨q, q'⟩
  · rw [cf_abw hw q]
    by_cases h8 : t < 8
    · rw [if_pos ⟨fun _ => h8, fun _ => by omega⟩, decide_eq_false (by omega), Bool.false_and]
    · rw [if_neg (fun z => h8 (z.mp (by omega))), decide_eq_true (by omega), decide_eq_true (by omega), if_neg h8]
      try rfl
  · rw [cf_abf hw q q']
    by_cases h8 : t < 8
    · rw [if_neg (fun z => absurd (z.mpr h8) (by omega)), decide_eq_true (by omega), if_pos h8]
      try rfl
    · rw [if_pos ⟨fun z => absurd z (by omega), fun z => absurd z h8⟩, decide_eq_false (by omega), Bool.false_and]
/-! the knot of t, gathered from above -/
def ch_Sp (r : Nat → Nat → Bool) (t j : Nat) (s : Int32) (l : Nat) : Prop :=
  (∀ i, i < 32 → bt s i = (decide (j ≤ i) && (decide (i < 16) && cd_eq r t i))) ∧
  ((l = 16 ∧ ∀ u, j ≤ u → u < 16 → cd_eq r t u = false) ∨ (j ≤ l ∧ l < 16 ∧ cd_eq r t l = true ∧ ∀ u, j ≤ u → u < l → cd_eq r t u = false))
theorem ch_Sp_0 (r : Nat → Nat → Bool) (t : Nat) : ch_Sp r t 16 0 16 := by
  refine ⟨fun i _ => ?_, Or.inl ⟨rfl, fun u _ _ => by omega⟩⟩
  rw [b_0]
  by_cases e : 16 ≤ i
  · rw [decide_eq_false (by omega : ¬ i < 16), Bool.false_and, Bool.and_false]
  · rw [decide_eq_false e, Bool.false_and]
theorem ch_Sp_y {r : Nat → Nat → Bool} {t j l : Nat} {s : Int32} (I : ch_Sp r t (j + 1) s l) (hj : j < 16) (h : cd_eq r t j = true) : ch_Sp r t j (s ||| ((1 : Int32) <<< (nI j &&& 31))) j := by
  refine ⟨fun i hi => ?_, Or.inr ⟨Nat.le_refl j, hj, h, fun u _ _ => by omega⟩⟩
  rw [ce_or1 _ (by omega) hi, I.1 i hi]
  by_cases e : i = j
  · rw [e, h, decide_eq_true rfl, decide_eq_true (Nat.le_refl j), decide_eq_true hj, Bool.or_true]
    try rfl
  · rw [decide_eq_false e, Bool.or_false]
    congr 1
    apply Bool.eq_iff_iff.mpr
    rw [decide_eq_true_eq, decide_eq_true_eq]
    omega
theorem ch_Sp_n {r : Nat → Nat → Bool} {t j l : Nat} {s : Int32} (I : ch_Sp r t (j + 1) s l) (h : cd_eq r t j = false) : ch_Sp r t j s l := by
  refine ⟨fun i hi => ?_, ?_⟩
  · rw [I.1 i hi]
    by_cases e : i = j
    · rw [e, h, Bool.and_false, Bool.and_false, Bool.and_false]
    · congr 1
      apply Bool.eq_iff_iff.mpr
      rw [decide_eq_true_eq, decide_eq_true_eq]
      omega
  · rcases I.2 with ⟨h1, h2⟩ | ⟨h1, h2, h3, h4⟩
    · refine Or.inl ⟨h1, fun u hu hu' => ?_⟩
      by_cases e : u = j
      · rw [e]
        exact h
      · exact h2 u (by omega) hu'
    · refine Or.inr ⟨by omega, h2, h3, fun u hu hu' => ?_⟩
      by_cases e : u = j
      · rw [e]
        exact h
      · exact h4 u (by omega) hu'
theorem ch_eq_sym (r : Nat → Nat → Bool) (a b : Nat) : cd_eq r a b = cd_eq r b a := Bool.and_comm _ _
theorem ch_Sp_l {r : Nat → Nat → Bool} {t l : Nat} {s : Int32} (I : ch_Sp r t 0 s l) (ht : t < 16) : l = t ↔ cd_fst r t = true := by
  rw [cd_fst_iff]
  rcases I.2 with ⟨h1, h2⟩ | ⟨h1, h2, h3, h4⟩
  · constructor
    · intro e
      omega
    · rintro ⟨e, _⟩
      have := h2 t (by omega) ht
      exact (cd_tf this (cd_eq_iff.mpr ⟨e, e⟩)).elim
  · constructor
    · intro e
      rw [e] at h3 h4
      exact ⟨(cd_eq_iff.mp h3).1, fun u hu => by rw [ch_eq_sym]; exact h4 u (by omega) hu⟩
    · rintro ⟨e1, e2⟩
      rcases Nat.lt_trichotomy l t with hl | hl | hl
      · have := e2 l hl
        rw [ch_eq_sym] at this
        exact (cd_tf this h3).elim
      · exact hl
      · exact (cd_tf (h4 t (by omega) hl) (cd_eq_iff.mpr ⟨e1, e1⟩)).elim
theorem ch_Sp_b {r : Nat → Nat → Bool} (hr : ∀ i, r i i = true → i < 16) (C : cd_Cl r) {t l : Nat} {s : Int32} (I : ch_Sp r t 0 s l) : ∀ i, i < 32 → bt s i = cd_eq r t i := by
  intro i hi
  rw [I.1 i hi, decide_eq_true (Nat.zero_le i), Bool.true_and]
  by_cases e : i < 16
  · rw [decide_eq_true e, Bool.true_and]
  · rw [decide_eq_false e, Bool.false_and]
    exact (cd_nt (fun z => e (hr i (C.1 t i (cd_eq_iff.mp z).1).2))).symm
/-- parts and needs for the firsts below t -/
def ch_Pn (r : Nat → Nat → Bool) (m : Nat → Int32) (t : Nat) (pa ne : Nat → Int32) : Prop :=
  ∀ s, s < t → cd_fst r s = true → (∀ i, i < 32 → bt (pa (cd_cn (cd_fst r) s)) i = cd_eq r s i) ∧ ne (cd_cn (cd_fst r) s) = m s
theorem ch_Pn_y {r : Nat → Nat → Bool} {m pa ne : Nat → Int32} {t : Nat} {x : Int32} (I : ch_Pn r m t pa ne) (ht : cd_fst r t = true) (hx : ∀ i, i < 32 → bt x i = cd_eq r t i) : ch_Pn r m (t + 1) (upd pa (cd_cn (cd_fst r) t) x) (upd ne (cd_cn (cd_fst r) t) (m t)) := by
  intro s hs hf
  by_cases e : s = t
  · rw [e, pk_us, pk_us]
    exact ⟨hx, rfl⟩
  · have hlt := cd_cn_lt (p := cd_fst r) (s := s) (t := t) (by omega) hf
    rw [pk_un (by omega), pk_un (by omega)]
    exact I s (by omega) hf
theorem ch_Pn_n {r : Nat → Nat → Bool} {m pa ne : Nat → Int32} {t : Nat} (I : ch_Pn r m t pa ne) (ht : cd_fst r t = false) : ch_Pn r m (t + 1) pa ne := by
  intro s hs hf
  by_cases e : s = t
  · rw [e] at hf
    exact (cd_tf ht hf).elim
  · exact I s (by omega) hf
/-! asks -/
theorem ch_ask {r : Nat → Nat → Bool} {m pa ne : Nat → Int32} (C : cd_Cl r) (hr : ∀ i, r i i = true → i < 16) (M : ch_Mf r m) (I : ch_Pn r m 16 pa ne) {k j : Nat} (hk : k < cd_cn (cd_fst r) 16) (hj : j < cd_cn (cd_fst r) 16) (hne : j ≠ k) : pa j &&& ne k = 0 ↔ cd_L r j k = false := by
  obtain ⟨k1, k2, k3⟩ := cd_fs_k hk
  obtain ⟨j1, j2, j3⟩ := cd_fs_k hj
  have ek := (I _ k1 k2).2
  have ej := (I _ j1 j2).1
  rw [k3] at ek
  rw [j3] at ej
  rw [ce_and0, ek]
  have hbit : ∀ i, i < 32 → ((bt (pa j) i && bt (m (cd_fs r k)) i) = true ↔ cd_eq r (cd_fs r j) i = true ∧ r i (cd_fs r k) = true) := by
    intro i hi
    rw [Bool.and_eq_true, ej i hi, M _ i (cd_fst_iff.mp k2).1]
  constructor
  · intro h
    refine cd_nt (fun z => ?_)
    have hjj := (cd_fst_iff.mp j2).1
    exact cd_tf (h (cd_fs r j) (by omega)) ((hbit _ (by omega)).mpr ⟨cd_eq_iff.mpr ⟨hjj, hjj⟩, (cd_L_iff.mp z).2⟩)
  · intro h i hi
    refine cd_nt (fun z => ?_)
    obtain ⟨z1, z2⟩ := (hbit i hi).mp z
    exact cd_tf h (cd_L_iff.mpr ⟨hne, C.2.1 _ _ _ (cd_eq_iff.mp z1).1 z2⟩)
/-- rows of asks below k, and row k up to j -/
def ch_As (L : Nat → Nat → Bool) (n k j : Nat) (a : Nat → Int32) : Prop :=
  (∀ k', k' < k → ∀ i, i < 32 → bt (a k') i = (decide (i < n) && L i k')) ∧ (∀ i, i < 32 → bt (a k) i = (decide (i < j) && L i k))
theorem ch_As_0 {L : Nat → Nat → Bool} {n k : Nat} {a : Nat → Int32} (h : ∀ k', k' < k → ∀ i, i < 32 → bt (a k') i = (decide (i < n) && L i k')) : ch_As L n k 0 (upd a k 0) := by
  refine ⟨fun k' hk' i hi => ?_, fun i _ => ?_⟩
  · rw [pk_un (by omega)]
    exact h k' hk' i hi
  · rw [pk_us, b_0, decide_eq_false (Nat.not_lt_zero i), Bool.false_and]
theorem ch_As_y {L : Nat → Nat → Bool} {n k j : Nat} {a : Nat → Int32} (I : ch_As L n k j a) (hj : j < 32) (h : L j k = true) : ch_As L n k (j + 1) (upd a k (a k ||| ((1 : Int32) <<< (nI j &&& 31)))) := by
  refine ⟨fun k' hk' i hi => ?_, fun i hi => ?_⟩
  · rw [pk_un (by omega)]
    exact I.1 k' hk' i hi
  · rw [pk_us, ce_or1 _ hj hi, I.2 i hi]
    by_cases e : i = j
    · rw [e, h]
      simp
    · rw [decide_eq_false e, Bool.or_false]
      congr 1
      apply Bool.eq_iff_iff.mpr
      rw [decide_eq_true_eq, decide_eq_true_eq]
      omega
theorem ch_As_n {L : Nat → Nat → Bool} {n k j : Nat} {a : Nat → Int32} (I : ch_As L n k j a) (h : L j k = false) : ch_As L n k (j + 1) a := by
  refine ⟨I.1, fun i hi => ?_⟩
  rw [I.2 i hi]
  by_cases e : i = j
  · rw [e, h, Bool.and_false, Bool.and_false]
  · congr 1
    apply Bool.eq_iff_iff.mpr
    rw [decide_eq_true_eq, decide_eq_true_eq]
    omega
theorem ch_As_e {L : Nat → Nat → Bool} {n k : Nat} {a : Nat → Int32} (I : ch_As L n k n a) : ∀ k', k' < k + 1 → ∀ i, i < 32 → bt (a k') i = (decide (i < n) && L i k') := by
  intro k' hk'
  by_cases e : k' = k
  · rw [e]
    exact I.2
  · exact I.1 k' (by omega)
theorem ch_ok {L : Nat → Nat → Bool} {n k S : Nat} {a : Nat → Int32} (hn : n ≤ 16) (I : ∀ k', k' < n → ∀ i, i < 32 → bt (a k') i = (decide (i < n) && L i k')) (hk : k < n) : a k &&& (nI S ^^^ (-1)) = 0 ↔ cd_ok L n S k = true := by
  rw [ce_sub0, cd_ok_iff]
  constructor
  · intro h m hm hl
    have := h m (by omega) (by rw [I k hk m (by omega), decide_eq_true hm, hl]; try rfl)
    rw [ce_nI S (by omega)] at this
    exact this
  · intro h i hi hb
    rw [I k hk i hi, Bool.and_eq_true, decide_eq_true_eq] at hb
    rw [ce_nI S hi]
    exact h i hb.1 hb.2
/-! ways -/
def ch_Wk (L : Nat → Nat → Bool) (n S k : Nat) (a : Nat → Int32) : Prop := ∀ T, T < 2 ^ n → a T = nI (cd_W L n S T + cd_sm (cd_ad L n S T) k)
theorem ch_Wk_0 {L : Nat → Nat → Bool} {n : Nat} {a : Nat → Int32} (h0 : a 0 = 1) (h : ∀ T, 0 < T → T < 2 ^ n → a T = 0) : ch_Wk L n 0 0 a := by
  intro T hT
  rw [cd_W_0]
  by_cases e : T = 0
  · rw [e, h0]
    exact ce_n01.2.1.symm
  · rw [h T (by omega) hT, decide_eq_false e]
    exact ce_n01.2.2.1.symm
theorem ch_Wk_e {L : Nat → Nat → Bool} {n S : Nat} {a : Nat → Int32} (I : ch_Wk L n S n a) : ch_Wk L n (S + 1) 0 a := by
  intro T hT
  rw [I T hT, cd_W_s]
  try rfl
theorem ch_ad_S (L : Nat → Nat → Bool) (n S k : Nat) : cd_ad L n S S k = 0 := by
  unfold cd_ad
  cases hb : S.testBit k with
  | true => rw [Bool.not_true, Bool.false_and, Bool.and_false]; try rfl
  | false =>
    have : ¬ S = S ||| 2 ^ k := fun e => by
      rw [e, Nat.testBit_or, Nat.testBit_two_pow_self, Bool.or_true] at hb
      exact Bool.noConfusion hb
    rw [decide_eq_false this, Bool.false_and]
    try rfl
theorem ch_Wk_S {L : Nat → Nat → Bool} {n S k : Nat} {a : Nat → Int32} (O : cd_Ord n L) (I : ch_Wk L n S k a) (hS : S < 2 ^ n) : a S = nI (cd_val L n S) := by
  rw [I S hS, cd_sm_0 (fun i _ => ch_ad_S L n S i), cd_W_T O hS (Nat.le_refl S), Nat.add_zero]
theorem ch_Wk_n {L : Nat → Nat → Bool} {n S k : Nat} {a : Nat → Int32} (I : ch_Wk L n S k a) (h : (!S.testBit k && cd_ok L n S k) = false) : ch_Wk L n S (k + 1) a := by
  intro T hT
  rw [I T hT, cd_sm_s]
  have : cd_ad L n S T k = 0 := by
    unfold cd_ad
    rw [h, Bool.and_false]
    try rfl
  rw [this]
  try rfl
theorem ch_Wk_y {L : Nat → Nat → Bool} {n S k : Nat} {a : Nat → Int32} (O : cd_Ord n L) (I : ch_Wk L n S k a) (hS : S < 2 ^ n) (hk : k < n) (h : (!S.testBit k && cd_ok L n S k) = true) : ch_Wk L n S (k + 1) (upd a (S ||| 2 ^ k) (a (S ||| 2 ^ k) + a S)) := by
  intro T hT
  rw [cd_sm_s]
  have had : cd_ad L n S T k = cond (decide (T = S ||| 2 ^ k)) (cd_val L n S) 0 := by
    unfold cd_ad
    rw [h, Bool.and_true]
  by_cases e : T = S ||| 2 ^ k
  · rw [had, decide_eq_true e, ← e, pk_us, I T hT, ch_Wk_S O I hS, nI_add, Nat.add_assoc]
    try rfl
  · rw [had, decide_eq_false e, pk_un e, I T hT]
    try rfl
theorem ch_Wk_z {L : Nat → Nat → Bool} {n S : Nat} {a : Nat → Int32} (I : ch_Wk L n S 0 a) (h : cd_val L n S = 0) : ch_Wk L n (S + 1) 0 a := by
  intro T hT
  rw [I T hT, ← cd_W_s]
  have : cd_sm (cd_ad L n S T) n = 0 := by
    apply cd_sm_0
    intro k _
    unfold cd_ad
    rw [h]
    cases (decide (T = S ||| 2 ^ k) && (!S.testBit k && cd_ok L n S k)) <;> rfl
  rw [this]
  try rfl
theorem ch_or_lt {n S k : Nat} (hS : S < 2 ^ n) (hk : k < n) : S ||| 2 ^ k < 2 ^ n := Nat.or_lt_two_pow hS (Nat.pow_lt_pow_right (by decide) hk)
