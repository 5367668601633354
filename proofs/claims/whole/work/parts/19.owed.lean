/-! what is owed -/
/-- both sides hold the same sizes, threading, treadling and ties; what they work out anew in each call is free -/
def i_Rel (k : Nat) (u : SX) (v : SY) : Prop := ∃ (w h : Nat) (sf tl ti un be mu pa ne ask wy : Nat → Int32) (ct : Int32), ci_Ok w h sf tl ti ∧ u = (nI w, nI h, sf, tl, ti, un, be) ∧ v = (nI w, nI h, ct, sf, tl, ti, mu, pa, ne, ask, wy, 65536)
theorem i_up {k : Nat} {u : SX} {v : SY} (h : i_Rel k u v) : i_Rel (k + 3) u v := h
theorem cz_rel {k w h : Nat} {sf tl ti un be mu pa ne ask wy : Nat → Int32} {ct : Int32} (O : ci_Ok w h sf tl ti) : i_Rel k (nI w, nI h, sf, tl, ti, un, be) (nI w, nI h, ct, sf, tl, ti, mu, pa, ne, ask, wy, 65536) :=
  ⟨w, h, sf, tl, ti, un, be, mu, pa, ne, ask, wy, ct, O, rfl, rfl⟩
theorem cz_cl (x : Int32) : ∃ w, 1 ≤ w ∧ w ≤ 8 ∧ ∀ P : Int32 → Prop, P (nI w) → ((1 ≤ x → ((x ≤ 8 → P x) ∧ (¬ x ≤ 8 → P 8))) ∧ (¬ 1 ≤ x → P 1)) := by
  by_cases h1 : 1 ≤ x
  · by_cases h8 : x ≤ 8
    · have hx : ¬ x < 0 := by
        rw [Int32.lt_iff_toInt_lt]
        rw [Int32.le_iff_toInt_le] at h1
        have e0 : (0 : Int32).toInt = 0 := by decide
        have e1 : (1 : Int32).toInt = 1 := by decide
        omega
      obtain ⟨j, hj, rfl⟩ := nI_of hx
      have a1 : 1 ≤ j := (nI_leI (a := 1) (by omega) hj).mp h1
      have a8 : j ≤ 8 := (nI_leI (b := 8) hj (by omega)).mp h8
      exact ⟨j, a1, a8, fun P p => br_t h1 (br_t h8 p)⟩
    · exact ⟨8, by omega, by omega, fun P p => br_t h1 (br_f h8 p)⟩
  · exact ⟨1, by omega, by omega, fun P p => br_f h1 p⟩
theorem cz_ok0 {w h : Nat} (h1 : 1 ≤ w) (h2 : w ≤ 8) (h3 : 1 ≤ h) (h4 : h ≤ 8) : ci_Ok w h (fun _ => 0) (fun _ => 0) (fun _ => 0) :=
  ⟨⟨h1, h2, h3, h4⟩, fun _ _ => ⟨0, by omega, rfl⟩, fun _ _ => ⟨0, by omega, rfl⟩, fun _ _ => ⟨0, by omega, rfl⟩⟩
theorem i_vc0 (k0 : Int32) (k1 : Int32) : wpX_init (fun u => wpY_init (fun v => i_Rel 2 u v) k0 k1) k0 k1 := by
  obtain ⟨w, w1, w8, cw⟩ := cz_cl k0
  obtain ⟨h, h1, h8, ch⟩ := cz_cl k1
  have X1 : ∀ post : Int32 → Prop, post (nI w) → wpX_clamp post k0 8 := fun post p => cw post p
  have X2 : ∀ post : Int32 → Prop, post (nI h) → wpX_clamp post k1 8 := fun post p => ch post p
  unfold wpX_init
  refine X1 _ (X2 _ ?_)
  unfold wpY_init
  refine ⟨by decide, fun nw enw => ?_⟩
  have e : nw = 65536 := enw.trans (by decide)
  subst e
  refine ⟨by omega, ?_⟩
  exact cw (fun z => wY_init_89 (fun v => i_Rel 2 (nI w, nI h, (fun _ => 0), (fun _ => 0), (fun _ => 0), (fun _ => 0), (fun _ => 0)) v) k1 z 0 0 0 (fun _ => 0) (fun _ => 0) (fun _ => 0) (fun _ => 0) (fun _ => 0) (fun _ => 0) (fun _ => 0) (fun _ => 0) 65536)
    (ch (fun z => i_Rel 2 (nI w, nI h, (fun _ => 0), (fun _ => 0), (fun _ => 0), (fun _ => 0), (fun _ => 0)) (nI w, z, 0, (fun _ => 0), (fun _ => 0), (fun _ => 0), (fun _ => 0), (fun _ => 0), (fun _ => 0), (fun _ => 0), (fun _ => 0), 65536)) (cz_rel (cz_ok0 w1 w8 h1 h8)))
theorem i_vc_thread {k : Nat} {u : SX} {v : SY} (I : i_Rel k u v) (hk : k + 3 ≤ 1538) (v1 : Int32) (v2 : Int32) : wpX_thread (fun r u' => wpY_thread (fun r' v' => r' = r ∧ i_Rel (k + 3) u' v') v v1 v2) u v1 v2 := by
  obtain ⟨w, h, sf, tl, ti, un, be, mu, pa, ne, ask, wy, ct, O, rfl, rfl⟩ := I
  have hw := O.1.2.1
  unfold wpX_thread wpY_thread
  dsimp only
  refine cx_isWarp hw (fun a => br_f cg_10 ?_) (fun a => br_t rfl (cy_isWarp hw (fun b => absurd b a) (fun b => br_t rfl ⟨rfl, cz_rel O⟩)))
  refine cx_isWithin (n := 4) (by omega) (fun b => br_f cg_10 ?_) (fun b => br_t rfl (cy_isWarp hw (fun _ => br_f cg_10 (cy_small (fun d => absurd d b) (fun d => br_t rfl ⟨rfl, cz_rel O⟩))) (fun c => absurd a c)))
  obtain ⟨c, hc, rfl⟩ := a
  obtain ⟨s, hs, rfl⟩ := b
  refine ⟨vp_in_nI (by omega) (by omega), fun x ex => ⟨vp_in_nI (by omega) (by omega), fun a1 e1 => ?_⟩⟩
  refine cy_isWarp hw (fun _ => br_f cg_10 (cy_small (fun _ => br_f cg_10 ⟨vp_in_nI (by omega) (by omega), fun y ey => ⟨vp_in_nI (by omega) (by omega), fun a2 e2 => ⟨ey.trans ex.symm, ?_⟩⟩⟩) (fun q => absurd ⟨s, hs, rfl⟩ q))) (fun q => absurd ⟨c, hc, rfl⟩ q)
  rw [e1, e2]
  exact cz_rel (ci_Ok_sf O (ci_upd O.2.1 hs))
theorem i_vc_treadle {k : Nat} {u : SX} {v : SY} (I : i_Rel k u v) (hk : k + 3 ≤ 1538) (v1 : Int32) (v2 : Int32) : wpX_treadle (fun r u' => wpY_treadle (fun r' v' => r' = r ∧ i_Rel (k + 3) u' v') v v1 v2) u v1 v2 := by
  obtain ⟨w, h, sf, tl, ti, un, be, mu, pa, ne, ask, wy, ct, O, rfl, rfl⟩ := I
  have hh := O.1.2.2.2
  unfold wpX_treadle wpY_treadle
  dsimp only
  refine cx_isWeft hh (fun a => br_f cg_10 ?_) (fun a => br_t rfl (cy_isWeft hh (fun b => absurd b a) (fun b => br_t rfl ⟨rfl, cz_rel O⟩)))
  refine cx_isWithin (n := 4) (by omega) (fun b => br_f cg_10 ?_) (fun b => br_t rfl (cy_isWeft hh (fun _ => br_f cg_10 (cy_small (fun d => absurd d b) (fun d => br_t rfl ⟨rfl, cz_rel O⟩))) (fun c => absurd a c)))
  obtain ⟨c, hc, rfl⟩ := a
  obtain ⟨s, hs, rfl⟩ := b
  refine ⟨vp_in_nI (by omega) (by omega), fun x ex => ⟨vp_in_nI (by omega) (by omega), fun a1 e1 => ?_⟩⟩
  refine cy_isWeft hh (fun _ => br_f cg_10 (cy_small (fun _ => br_f cg_10 ⟨vp_in_nI (by omega) (by omega), fun y ey => ⟨vp_in_nI (by omega) (by omega), fun a2 e2 => ⟨ey.trans ex.symm, ?_⟩⟩⟩) (fun q => absurd ⟨s, hs, rfl⟩ q))) (fun q => absurd ⟨c, hc, rfl⟩ q)
  rw [e1, e2]
  exact cz_rel (ci_Ok_tl O (ci_upd O.2.2.1 hs))
theorem i_vc_tie {k : Nat} {u : SX} {v : SY} (I : i_Rel k u v) (hk : k + 3 ≤ 1538) (v1 : Int32) (v2 : Int32) : wpX_tie (fun r u' => wpY_tie (fun r' v' => r' = r ∧ i_Rel (k + 3) u' v') v v1 v2) u v1 v2 := by
  obtain ⟨w, h, sf, tl, ti, un, be, mu, pa, ne, ask, wy, ct, O, rfl, rfl⟩ := I
  unfold wpX_tie wpY_tie
  dsimp only
  refine cx_isWithin (n := 4) (by omega) (fun a => br_f cg_10 ?_) (fun a => br_t rfl (cy_small (fun b => absurd b a) (fun b => br_t rfl ⟨rfl, cz_rel O⟩)))
  refine cx_isWithin (n := 16) (by omega) (fun b => br_f cg_10 ?_) (fun b => br_t rfl (cy_small (fun _ => br_f cg_10 ?_) (fun c => absurd a c)))
  · obtain ⟨c, hc, rfl⟩ := a
    obtain ⟨s, hs, rfl⟩ := b
    refine ⟨vp_in_nI (by omega) (by omega), fun x ex => ⟨vp_in_nI (by omega) (by omega), fun a1 e1 => ?_⟩⟩
    refine cy_small (fun _ => br_f cg_10 (br_f (nI_pos (by omega)) (br_t (nI_le (b := 15) (by omega) (by omega)) ⟨vp_in_nI (by omega) (by omega), fun y ey => ⟨vp_in_nI (by omega) (by omega), fun a2 e2 => ⟨ey.trans ex.symm, ?_⟩⟩⟩))) (fun q => absurd ⟨c, hc, rfl⟩ q)
    rw [e1, e2]
    exact cz_rel (ci_Ok_ti O (ci_upd O.2.2.2 hs))
  · refine br_c (fun _ => ⟨rfl, cz_rel O⟩) (fun n0 => br_f ?_ ⟨rfl, cz_rel O⟩)
    obtain ⟨t, ht, rfl⟩ := nI_of n0
    intro q
    exact b ⟨t, by have := (nI_leI (b := 15) ht (by omega)).mp q; omega, rfl⟩
theorem i_vc_threadAll {k : Nat} {u : SX} {v : SY} (I : i_Rel k u v) (hk : k + 3 ≤ 1538) (v1 : Int32) (v2 : Int32) : wpX_threadAll (fun r u' => wpY_threadAll (fun r' v' => r' = r ∧ i_Rel (k + 3) u' v') v v1 v2) u v1 v2 := by
  obtain ⟨w, h, sf, tl, ti, un, be, mu, pa, ne, ask, wy, ct, O, rfl, rfl⟩ := I
  have hw := O.1.2.1
  unfold wpX_threadAll wpY_threadAll
  dsimp only
  refine cx_isWithin (n := 4) (by omega) (fun a => br_f cg_10 ?_) (fun a => br_t rfl (cy_small (fun b => absurd b a) (fun b => br_t rfl ⟨rfl, cz_rel O⟩)))
  refine cx_isWithin (n := 4) (by omega) (fun b => br_f cg_10 ?_) (fun b => br_t rfl (cy_small (fun _ => br_f cg_10 (cy_small (fun d => absurd d b) (fun d => br_t rfl ⟨rfl, cz_rel O⟩))) (fun c => absurd a c)))
  obtain ⟨f, hf, rfl⟩ := a
  obtain ⟨s, hs, rfl⟩ := b
  have R : i_Rel (k + 3) (nI w, nI h, ci_fill sf (fun c => nI ((f + s * c) % 4)) w, tl, ti, un, be) (nI w, nI h, ct, ci_fill sf (fun c => nI ((f + s * c) % 4)) w, tl, ti, mu, pa, ne, ask, wy, 65536) :=
    cz_rel (ci_Ok_sf O (ci_fillOk O.2.1 (fun c _ => ⟨_, Nat.mod_lt _ (by omega), rfl⟩)))
  have Y := fun (post : Int32 → SY → Prop) => cy_ta (h := h) (nw := 65536) (ct := ct) (sf := sf) (tl := tl) (ti := ti) (mu := mu) (pa := pa) (ne := ne) (ask := ask) (wy := wy) (post := post) hw hf hs
  have X := fun (post : Int32 → SX → Prop) => cx_ta (h := h) (sf := sf) (tl := tl) (ti := ti) (un := un) (be := be) (post := post) hw hf hs
  have Y' := fun post K => Y post K (w + 1) 0 (by omega) (by omega)
  have X' := fun post K => X post K (w + 1) 0 (by omega) (by omega)
  rw [ci_fill_0] at Y' X'
  exact ⟨w + 1, X' _ (cy_small (fun _ => br_f cg_10 (cy_small (fun _ => br_f cg_10 ⟨w + 1, Y' _ ⟨rfl, R⟩⟩) (fun q => absurd ⟨s, hs, rfl⟩ q))) (fun q => absurd ⟨f, hf, rfl⟩ q))⟩
theorem i_vc_treadleAll {k : Nat} {u : SX} {v : SY} (I : i_Rel k u v) (hk : k + 3 ≤ 1538) (v1 : Int32) (v2 : Int32) : wpX_treadleAll (fun r u' => wpY_treadleAll (fun r' v' => r' = r ∧ i_Rel (k + 3) u' v') v v1 v2) u v1 v2 := by
  obtain ⟨w, h, sf, tl, ti, un, be, mu, pa, ne, ask, wy, ct, O, rfl, rfl⟩ := I
  have hh := O.1.2.2.2
  unfold wpX_treadleAll wpY_treadleAll
  dsimp only
  refine cx_isWithin (n := 4) (by omega) (fun a => br_f cg_10 ?_) (fun a => br_t rfl (cy_small (fun b => absurd b a) (fun b => br_t rfl ⟨rfl, cz_rel O⟩)))
  refine cx_isWithin (n := 4) (by omega) (fun b => br_f cg_10 ?_) (fun b => br_t rfl (cy_small (fun _ => br_f cg_10 (cy_small (fun d => absurd d b) (fun d => br_t rfl ⟨rfl, cz_rel O⟩))) (fun c => absurd a c)))
  obtain ⟨f, hf, rfl⟩ := a
  obtain ⟨s, hs, rfl⟩ := b
  have R : i_Rel (k + 3) (nI w, nI h, sf, ci_fill tl (fun c => nI ((f + s * c) % 4)) h, ti, un, be) (nI w, nI h, ct, sf, ci_fill tl (fun c => nI ((f + s * c) % 4)) h, ti, mu, pa, ne, ask, wy, 65536) :=
    cz_rel (ci_Ok_tl O (ci_fillOk O.2.2.1 (fun c _ => ⟨_, Nat.mod_lt _ (by omega), rfl⟩)))
  have Y := fun (post : Int32 → SY → Prop) => cy_tra (w := w) (nw := 65536) (ct := ct) (sf := sf) (tl := tl) (ti := ti) (mu := mu) (pa := pa) (ne := ne) (ask := ask) (wy := wy) (post := post) hh hf hs
  have X := fun (post : Int32 → SX → Prop) => cx_tra (w := w) (sf := sf) (tl := tl) (ti := ti) (un := un) (be := be) (post := post) hh hf hs
  have Y' := fun post K => Y post K (h + 1) 0 (by omega) (by omega)
  have X' := fun post K => X post K (h + 1) 0 (by omega) (by omega)
  rw [ci_fill_0] at Y' X'
  exact ⟨h + 1, X' _ (cy_small (fun _ => br_f cg_10 (cy_small (fun _ => br_f cg_10 ⟨h + 1, Y' _ ⟨rfl, R⟩⟩) (fun q => absurd ⟨s, hs, rfl⟩ q))) (fun q => absurd ⟨f, hf, rfl⟩ q))⟩
theorem i_vc_invert {k : Nat} {u : SX} {v : SY} (I : i_Rel k u v) (hk : k + 3 ≤ 1538) : wpX_invert (fun r u' => wpY_invert (fun r' v' => r' = r ∧ i_Rel (k + 3) u' v') v) u := by
  obtain ⟨w, h, sf, tl, ti, un, be, mu, pa, ne, ask, wy, ct, O, rfl, rfl⟩ := I
  have R : i_Rel (k + 3) (nI w, nI h, sf, tl, ci_fill ti (fun i => 15 - ti i) 4, un, be) (nI w, nI h, ct, sf, tl, ci_fill ti (fun i => 15 - ti i) 4, mu, pa, ne, ask, wy, 65536) :=
    cz_rel (ci_Ok_ti O (ci_fillOk O.2.2.2 (fun c hc => by
      obtain ⟨s, hs, es⟩ := O.2.2.2 c hc
      exact ⟨15 - s, by omega, by rw [es]; exact ci_15 s hs⟩)))
  have Y' := fun (post : Int32 → SY → Prop) K => cy_iv (w := w) (h := h) (nw := 65536) (ct := ct) (sf := sf) (tl := tl) (ti := ti) (mu := mu) (pa := pa) (ne := ne) (ask := ask) (wy := wy) (post := post) K 5 0 (by omega) (by omega)
  have X' := fun (post : Int32 → SX → Prop) K => cx_iv (un := un) (be := be) (post := post) O K 5 0 (by omega) (by omega)
  rw [ci_fill_0] at Y' X'
  unfold wpX_invert wpY_invert
  dsimp only
  exact ⟨5, X' _ ⟨5, Y' _ ⟨rfl, R⟩⟩⟩
theorem i_vc_above {k : Nat} {u : SX} {v : SY} (I : i_Rel k u v) (hk : k + 3 ≤ 1538) (v1 : Int32) (v2 : Int32) : wpX_above (fun r => wpY_above (fun r' => r' = r ∧ i_Rel (k + 3) u v) v v1 v2) u v1 v2 := by
  have I3 := i_up I
  obtain ⟨w, h, sf, tl, ti, un, be, mu, pa, ne, ask, wy, ct, O, rfl, rfl⟩ := I
  have hw := O.1.2.1
  have hh := O.1.2.2.2
  unfold wpX_above wpY_above
  dsimp only
  refine cx_isWarp hw (fun a => br_f cg_10 ?_) (fun a => br_t rfl (cy_isWarp hw (fun b => absurd b a) (fun b => br_t rfl ⟨rfl, I3⟩)))
  refine cx_isWeft hh (fun b => br_f cg_10 ?_) (fun b => br_t rfl (cy_isWarp hw (fun _ => br_f cg_10 (cy_isWeft hh (fun d => absurd d b) (fun d => br_t rfl ⟨rfl, I3⟩))) (fun c => absurd a c)))
  obtain ⟨c, hc, rfl⟩ := a
  obtain ⟨s, hs, rfl⟩ := b
  refine cx_above O (by omega) (by omega) (fun e => br_f cg_10 ?_) (fun e => br_t rfl ?_)
  · exact cy_isWarp hw (fun _ => br_f cg_10 (cy_isWeft hh (fun _ => br_f cg_10 (cy_isAbove O (by omega) (by omega) (fun _ => br_f cg_10 ⟨rfl, I3⟩) (fun e' => (cd_tf e' e).elim))) (fun q => absurd ⟨s, hs, rfl⟩ q))) (fun q => absurd ⟨c, hc, rfl⟩ q)
  · exact cy_isWarp hw (fun _ => br_f cg_10 (cy_isWeft hh (fun _ => br_f cg_10 (cy_isAbove O (by omega) (by omega) (fun e' => (cd_tf e e').elim) (fun _ => br_t rfl ⟨rfl, I3⟩))) (fun q => absurd ⟨s, hs, rfl⟩ q))) (fun q => absurd ⟨c, hc, rfl⟩ q)
