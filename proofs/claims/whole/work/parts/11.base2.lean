/-! what X reads off `under` -/
theorem cj_lw {A : Nat → Nat → Bool} {w h : Nat} {un : Nat → Int32} (hw : w ≤ 8) (hh : h ≤ 8) (U : cg_Un A w h un) {t i : Nat} (ht : t < w) (hi : i < h) : bt (un t >>> ((8 : Int32) &&& 31)) i = cf_sh A t i := by
  have e : bt (un t >>> (nI 8 &&& 31)) i = cf_sh A t i := by
    rw [b_sshr 8 (by omega) _ (by omega), if_pos (by omega), U t (8 + i) (by omega) (by omega), cf_abw hw ht, decide_eq_true (by omega), decide_eq_true (by omega), Nat.add_sub_cancel_left]
    try rfl
  exact e
theorem cj_lf {A : Nat → Nat → Bool} {w h : Nat} {un : Nat → Int32} (hw : w ≤ 8) (hh : h ≤ 8) (U : cg_Un A w h un) {t i : Nat} (ht : 8 ≤ t) (ht' : t < 8 + h) (hi : i < w) : bt (un t) i = cf_sh A t i := by
  rw [U t i (by omega) (by omega), cf_abf hw ht ht', decide_eq_true hi]
  try rfl
theorem cj_eq {A : Nat → Nat → Bool} {w h : Nat} {un : Nat → Int32} (hw : w ≤ 8) (hh : h ≤ 8) (U : cg_Un A w h un) {s t : Nat} (hs : cd_th w h s = true) (ht : cd_th w h t = true) (hst : s < 8 ↔ t < 8) : decide (un s = un t) = cf_al A w h t s := by
  have h1 := ce_th16 hw hh hs
  have h2 := ce_th16 hw hh ht
  apply Bool.eq_iff_iff.mpr
  rw [decide_eq_true_eq, ← cf_alike hw hh hs ht hst, ce_eq]
  constructor
  · intro z i hi
    rw [← U s i h1 hi, ← U t i h2 hi]
    exact z i hi
  · intro z i hi
    rw [U s i h1 hi, U t i h2 hi]
    exact z i hi
theorem cj_over {A : Nat → Nat → Bool} {w h : Nat} {un : Nat → Int32} (hw : w ≤ 8) (hh : h ≤ 8) (U : cg_Un A w h un) {t : Nat} (ht : cd_th w h t = true) : cd_cn (bt (un t)) 16 = cd_cn (cf_sh A t) (cf_cr w h t) := by
  have h2 := ce_th16 hw hh ht
  rw [← cf_over hw hh ht]
  exact cd_cn_c (fun i hi => U t i h2 (by omega))
theorem cj_and {A : Nat → Nat → Bool} {w h : Nat} {un : Nat → Int32} (hw : w ≤ 8) (hh : h ≤ 8) (U : cg_Un A w h un) {t : Nat} (ht : t < 16) (x : Int32) : un t &&& x = 0 ↔ ∀ u, u < 16 → bt x u = true → cd_ab A w h t u = false := by
  rw [ce_and0]
  constructor
  · intro z u hu hx
    have := z u (by omega)
    rw [hx, Bool.and_true, U t u ht (by omega)] at this
    exact this
  · intro z i hi
    rw [U t i ht hi]
    refine cd_nt (fun q => ?_)
    rw [Bool.and_eq_true] at q
    exact cd_tf (z i (ce_th16 hw hh (cd_ab_th q.1).2) q.2) q.1
/-! every thread, as the reference's set -/
theorem cj_all : ∀ w, w < 9 → ∀ h, h < 9 → ∀ i, i < 32 → bt ((((1 : Int32) <<< (nI w &&& 31)) - 1) ||| ((((1 : Int32) <<< (nI h &&& 31)) - 1) <<< ((8 : Int32) &&& 31))) i = cd_th w h i := by decide +kernel
theorem cj_own {w h : Nat} (hw : w ≤ 8) (hh : h ≤ 8) (x : Int32) {i : Nat} (hi : i < 32) : bt (x &&& ((((1 : Int32) <<< (nI w &&& 31)) - 1) ||| ((((1 : Int32) <<< (nI h &&& 31)) - 1) <<< ((8 : Int32) &&& 31)))) i = (bt x i && cd_th w h i) := by
  rw [b_and, cj_all w (by omega) h (by omega) i hi]
theorem cj_m2 (n : Nat) : nI (1 + n) - 2 = nI n - 1 := by
  rw [← nI_add, ci_n8.2.2.2]
  grind
theorem cj_kb {r : Nat → Nat → Bool} {t : Nat} : cd_kb r t ≤ t := cd_cn_le _ t
theorem cj_pw {n : Nat} (h : n ≤ 16) : 2 ^ n ≤ 65536 := Nat.pow_le_pow_right (n := 2) (by decide) h
