/-! the reference reads a cut's states out of one number -/
def cw_sl (p k0 k1 k2 : Nat) : Nat := if p = 0 then k0 else if p = 1 then k1 else k2
theorem cw_soY {post : Int32 → Prop} (p k0 k1 k2 : Nat) (hp : p < 3) (h0 : k0 < 9) (h1 : k1 < 9) (h2 : k2 < 9) (h : post (nI (cw_sl p k0 k1 k2))) : wpY_stateOf post (nI (cw_ct k0 k1 k2)) (nI p) := by
  have l : cw_ct k0 k1 k2 < 729 := cw_ctl h0 h1 h2
  have e9 : nI (cw_ct k0 k1 k2) / 9 = nI (cw_ct k0 k1 k2 / 9) := pk_div (d := 9) (by omega) (by decide) (by decide)
  have hp' : p = 0 ∨ p = 1 ∨ p = 2 := by omega
  rcases hp' with e | e | e
  · subst e
    refine br_t rfl ⟨by decide, ?_⟩
    have e : nI (cw_ct k0 k1 k2) / 81 = nI k0 := (pk_div (d := 81) (by omega) (by decide) (by decide)).trans (congrArg nI (by unfold cw_ct; omega))
    rw [e]; exact h
  · subst e
    refine br_f (by decide) (br_t rfl ⟨by decide, by decide, ?_⟩)
    rw [e9]
    have e : nI (cw_ct k0 k1 k2 / 9) - nI (cw_ct k0 k1 k2 / 9) / 9 * 9 = nI k1 := (pk_rem (d := 9) (by omega) (by decide) (by decide)).trans (congrArg nI (by unfold cw_ct; omega))
    rw [e]; exact h
  · subst e
    refine br_f (by decide) (br_f (by decide) ⟨by decide, ?_⟩)
    have e : nI (cw_ct k0 k1 k2) - nI (cw_ct k0 k1 k2) / 9 * 9 = nI k2 := (pk_rem (d := 9) (by omega) (by decide) (by decide)).trans (congrArg nI (by unfold cw_ct; omega))
    rw [e]; exact h
theorem cw_sl_lt {p k0 k1 k2 : Nat} (h0 : k0 < 9) (h1 : k1 < 9) (h2 : k2 < 9) : cw_sl p k0 k1 k2 < 9 := by
  unfold cw_sl
  split
  · exact h0
  · split
    · exact h1
    · exact h2
section
variable (f : Int32) (cn gd kn sd se rc av : Nat → Int32)
theorem cw_p28s {post J2 : Int32 → Prop} (n p k q k0 k1 k2 : Nat) (hp : p < 3) (hk : k < 9) (hq : q < 3) (h0 : k0 < 9) (h1 : k1 < 9) (h2 : k2 < 9) (ht : kn (cw_ix p k q) ≤ nI (cw_sl q k0 k1 k2) → wY_possible_28 post J2 (nI (cw_ct k0 k1 k2)) (nI p) (nI k) f cn gd kn sd se rc av n (nI (q + 1))) (hf : ¬ kn (cw_ix p k q) ≤ nI (cw_sl q k0 k1 k2) → post 0) : wY_possible_28 post J2 (nI (cw_ct k0 k1 k2)) (nI p) (nI k) f cn gd kn sd se rc av (n + 1) (nI q) := by
  have l : cw_ix p k q < 81 := cw_ixl hp hk hq
  unfold wY_possible_28
  refine br_f (cw_3le hq) ?_
  rw [cw_yi, nI_clamp (n := cw_ix p k q) (by omega)]
  exact ⟨vp_in_nI l (by decide), cw_soY q k0 k1 k2 hq h0 h1 h2 (br_c (fun g => nm_r (nI_1 q) (ht g)) hf)⟩
theorem cw_p28 {post J2 : Int32 → Prop} (p k k0 k1 k2 : Nat) (hp : p < 3) (hk : k < 9) (h0 : k0 < 9) (h1 : k1 < 9) (h2 : k2 < 9) (ht : cw_rw kn p k k0 k1 k2 = true → J2 (nI (p + 1))) (hf : cw_rw kn p k k0 k1 k2 = false → post 0) : wY_possible_28 post J2 (nI (cw_ct k0 k1 k2)) (nI p) (nI k) f cn gd kn sd se rc av 4 (nI 0) := by
  unfold cw_rw at ht hf
  refine cw_p28s f cn gd kn sd se rc av 3 p k 0 k0 k1 k2 hp hk (by decide) h0 h1 h2 (fun g0 => ?_) (fun g0 => ?_)
  · refine cw_p28s f cn gd kn sd se rc av 2 p k 1 k0 k1 k2 hp hk (by decide) h0 h1 h2 (fun g1 => ?_) (fun g1 => ?_)
    · refine cw_p28s f cn gd kn sd se rc av 1 p k 2 k0 k1 k2 hp hk (by decide) h0 h1 h2 (fun g2 => ?_) (fun g2 => ?_)
      · unfold wY_possible_28
        refine br_t (nI_le (a := 3) (b := 3) (by decide) (by decide)) (nm_r (nI_1 p) (ht ?_))
        rw [decide_eq_true (p := kn (cw_ix p k 0) ≤ nI k0) g0, decide_eq_true (p := kn (cw_ix p k 1) ≤ nI k1) g1, decide_eq_true (p := kn (cw_ix p k 2) ≤ nI k2) g2]; rfl
      · exact hf (by rw [decide_eq_false (p := kn (cw_ix p k 2) ≤ nI k2) g2, Bool.and_false])
    · exact hf (by rw [decide_eq_false (p := kn (cw_ix p k 1) ≤ nI k1) g1, Bool.and_false, Bool.false_and])
  · exact hf (by rw [decide_eq_false (p := kn (cw_ix p k 0) ≤ nI k0) g0]; rfl)
/-- within the count, and knowing no more than the cut has -/
def cw_ok1 (C : Nat → Nat) (kn : Nat → Int32) (p k0 k1 k2 : Nat) : Bool := decide (cw_sl p k0 k1 k2 ≤ C p) && cw_rw kn p (cw_sl p k0 k1 k2) k0 k1 k2
def cw_ok (C : Nat → Nat) (kn : Nat → Int32) (k0 k1 k2 : Nat) : Bool := cw_ok1 C kn 0 k0 k1 k2 && cw_ok1 C kn 1 k0 k1 k2 && cw_ok1 C kn 2 k0 k1 k2
theorem cw_p2s {post : Int32 → Prop} (C : Nat → Nat) (hC : ∀ p, p < 3 → C p ≤ 8 ∧ cn p = nI (C p)) (n p k0 k1 k2 : Nat) (hp : p < 3) (h0 : k0 < 9) (h1 : k1 < 9) (h2 : k2 < 9) (ht : cw_ok1 C kn p k0 k1 k2 = true → wY_possible_2 post (nI (cw_ct k0 k1 k2)) f cn gd kn sd se rc av n (nI (p + 1))) (hf : cw_ok1 C kn p k0 k1 k2 = false → post 0) : wY_possible_2 post (nI (cw_ct k0 k1 k2)) f cn gd kn sd se rc av (n + 1) (nI p) := by
  have l := cw_sl_lt (p := p) h0 h1 h2
  obtain ⟨c8, ec⟩ := hC p hp
  unfold cw_ok1 at ht hf
  unfold wY_possible_2
  refine br_f (cw_3le hp) (cw_soY p k0 k1 k2 hp h0 h1 h2 ⟨vp_in_nI hp (by decide), ?_⟩)
  rw [nI_clamp (n := p) (by omega), ec]
  refine br_c (fun g => ⟨4, ?_⟩) (fun g => ?_)
  · rw [nI_leI (by omega) (by omega)] at g
    rw [decide_eq_true g] at ht hf
    exact cw_p28 f cn gd kn sd se rc av p _ k0 k1 k2 hp l h0 h1 h2 ht hf
  · rw [nI_leI (by omega) (by omega)] at g
    rw [decide_eq_false g] at hf
    exact hf rfl
theorem cw_okY {post : Int32 → Prop} (C : Nat → Nat) (hC : ∀ p, p < 3 → C p ≤ 8 ∧ cn p = nI (C p)) (k0 k1 k2 : Nat) (h0 : k0 < 9) (h1 : k1 < 9) (h2 : k2 < 9) (h : post (cw_b (cw_ok C kn k0 k1 k2))) : wpY_possible post (f, cn, gd, kn, sd, se, rc, av) (nI (cw_ct k0 k1 k2)) := by
  unfold wpY_possible
  dsimp only
  unfold cw_ok at h
  refine ⟨4, ?_⟩
  refine cw_p2s f cn gd kn sd se rc av C hC 3 0 k0 k1 k2 (by decide) h0 h1 h2 (fun g0 => ?_) (fun g0 => ?_)
  · refine cw_p2s f cn gd kn sd se rc av C hC 2 1 k0 k1 k2 (by decide) h0 h1 h2 (fun g1 => ?_) (fun g1 => ?_)
    · refine cw_p2s f cn gd kn sd se rc av C hC 1 2 k0 k1 k2 (by decide) h0 h1 h2 (fun g2 => ?_) (fun g2 => ?_)
      · unfold wY_possible_2
        refine br_t (nI_le (a := 3) (b := 3) (by decide) (by decide)) ?_
        rw [g0, g1, g2] at h; exact h
      · rw [g0, g1, g2] at h; exact h
    · rw [g0, g1] at h; exact h
  · rw [g0] at h; exact h
theorem cw_gYs {post : Int32 → Prop} (n s p k0 k1 k2 : Nat) (hp : p < 3) (h0 : k0 < 9) (h1 : k1 < 9) (h2 : k2 < 9) (ht : cw_go gd s p (cw_sl p k0 k1 k2) = true → wY_isGood_2 post (nI (cw_ct k0 k1 k2)) (nI s) f cn gd kn sd se rc av n (nI (p + 1))) (hf : cw_go gd s p (cw_sl p k0 k1 k2) = false → post 0) : wY_isGood_2 post (nI (cw_ct k0 k1 k2)) (nI s) f cn gd kn sd se rc av (n + 1) (nI p) := by
  have l := cw_sl_lt (p := p) h0 h1 h2
  unfold cw_go cw_bt at ht hf
  unfold wY_isGood_2
  refine br_f (cw_3le hp) (cw_soY p k0 k1 k2 hp h0 h1 h2 (br_c (fun g => ?_) (fun g => ?_)))
  · rw [decide_eq_true g] at ht hf
    rw [cw_ys, nI_clamp (n := p * 9 + cw_sl p k0 k1 k2) (by omega)]
    refine ⟨vp_in_nI (by omega) (by decide), br_c (fun z => ?_) (fun z => ?_)⟩
    · rw [decide_eq_true z] at hf; exact hf rfl
    · rw [decide_eq_false z] at ht; exact nm_r (nI_1 p) (ht rfl)
  · rw [decide_eq_false g] at ht
    exact nm_r (nI_1 p) (ht rfl)
theorem cw_gsY {post : Int32 → Prop} (s k0 k1 k2 : Nat) (h0 : k0 < 9) (h1 : k1 < 9) (h2 : k2 < 9) (h : post (cw_b (cw_gs gd s k0 k1 k2))) : wpY_isGood post (f, cn, gd, kn, sd, se, rc, av) (nI (cw_ct k0 k1 k2)) (nI s) := by
  unfold wpY_isGood
  dsimp only
  unfold cw_gs at h
  refine ⟨4, ?_⟩
  refine cw_gYs f cn gd kn sd se rc av 3 s 0 k0 k1 k2 (by decide) h0 h1 h2 (fun g0 => ?_) (fun g0 => ?_)
  · refine cw_gYs f cn gd kn sd se rc av 2 s 1 k0 k1 k2 (by decide) h0 h1 h2 (fun g1 => ?_) (fun g1 => ?_)
    · refine cw_gYs f cn gd kn sd se rc av 1 s 2 k0 k1 k2 (by decide) h0 h1 h2 (fun g2 => ?_) (fun g2 => ?_)
      · unfold wY_isGood_2
        refine br_t (nI_le (a := 3) (b := 3) (by decide) (by decide)) ?_
        rw [show cw_go gd s 0 k0 = true from g0, show cw_go gd s 1 k1 = true from g1, show cw_go gd s 2 k2 = true from g2] at h; exact h
      · rw [show cw_go gd s 2 k2 = false from g2, Bool.and_false] at h; exact h
    · rw [show cw_go gd s 1 k1 = false from g1, Bool.and_false, Bool.false_and] at h; exact h
  · rw [show cw_go gd s 0 k0 = false from g0] at h; exact h
end

/-! a cut that follows an avoided one -/
def cw_fo1 (a : Nat → Int32) (k c : Nat) : Bool := decide (0 < k) && !decide (a c = 0)
def cw_fo (a : Nat → Int32) (k0 k1 k2 : Nat) : Bool := decide (cw_ct k0 k1 k2 = 0) || (cw_fo1 a k0 (cw_ct (k0 - 1) k1 k2) || (cw_fo1 a k1 (cw_ct k0 (k1 - 1) k2) || cw_fo1 a k2 (cw_ct k0 k1 (k2 - 1))))
section
variable (f : Int32) (cn gd kn sd se rc av : Nat → Int32)
theorem cw_f48 {post : Int32 → Prop} (k0 k1 k2 : Nat) (h0 : k0 < 9) (h1 : k1 < 9) (h2 : k2 < 9) (h : post (cw_b (cw_fo1 av k2 (cw_ct k0 k1 (k2 - 1))))) : wX_followsAvoided_48 post (nI k0) (nI k1) (nI k2) f cn gd kn sd se rc av := by
  unfold wX_followsAvoided_48
  unfold cw_fo1 at h
  rcases Nat.eq_zero_or_pos k2 with e | e
  · subst e
    refine br_t (by decide) ?_
    exact h
  · refine br_f (nI_nle e (by omega)) ?_
    have l : cw_ct k0 k1 (k2 - 1) < 729 := cw_ctl h0 h1 (by omega)
    refine cw_cX k0 k1 (k2 - 1) rfl rfl (pk_sub (b := 1) e) ?_
    rw [nI_clamp (n := cw_ct k0 k1 (k2 - 1)) (by omega)]
    rw [decide_eq_true e] at h
    refine ⟨vp_in_nI l (by decide), br_c (fun z => ?_) (fun z => ?_)⟩
    · rw [decide_eq_true z] at h; exact h
    · rw [decide_eq_false z] at h; exact h
theorem cw_f28 {post : Int32 → Prop} (k0 k1 k2 : Nat) (h0 : k0 < 9) (h1 : k1 < 9) (h2 : k2 < 9) (h : post (cw_b (cw_fo1 av k1 (cw_ct k0 (k1 - 1) k2) || cw_fo1 av k2 (cw_ct k0 k1 (k2 - 1))))) : wX_followsAvoided_28 post (nI k0) (nI k1) (nI k2) f cn gd kn sd se rc av := by
  unfold wX_followsAvoided_28
  rcases Nat.eq_zero_or_pos k1 with e | e
  · subst e
    refine br_t (by decide) ?_
    exact cw_f48 f cn gd kn sd se rc av k0 0 k2 h0 h1 h2 h
  · refine br_f (nI_nle e (by omega)) ?_
    have l : cw_ct k0 (k1 - 1) k2 < 729 := cw_ctl h0 (by omega) h2
    refine cw_cX k0 (k1 - 1) k2 rfl (pk_sub (b := 1) e) rfl ?_
    rw [nI_clamp (n := cw_ct k0 (k1 - 1) k2) (by omega)]
    refine ⟨vp_in_nI l (by decide), br_c (fun z => ?_) (fun z => ?_)⟩
    · refine cw_f48 f cn gd kn sd se rc av k0 k1 k2 h0 h1 h2 ?_
      rw [show cw_fo1 av k1 (cw_ct k0 (k1 - 1) k2) = false by unfold cw_fo1; rw [decide_eq_true z, Bool.not_true, Bool.and_false]] at h; exact h
    · rw [show cw_fo1 av k1 (cw_ct k0 (k1 - 1) k2) = true by unfold cw_fo1; rw [decide_eq_false z, decide_eq_true e]; rfl] at h; exact h
theorem cw_foX {post : Int32 → Prop} (k0 k1 k2 : Nat) (h0 : k0 < 9) (h1 : k1 < 9) (h2 : k2 < 9) (h : post (cw_b (cw_fo av k0 k1 k2))) : wpX_followsAvoided post (f, cn, gd, kn, sd, se, rc, av) (nI k0) (nI k1) (nI k2) := by
  unfold wpX_followsAvoided
  dsimp only
  unfold cw_fo at h
  rw [nI_add, nI_add]
  refine br_c (fun g => ?_) (fun g => ?_)
  · have g' : k0 + k1 + k2 = 0 := (nI_eq (b := 0) (by omega) (by decide)).mp g
    rw [decide_eq_true (show cw_ct k0 k1 k2 = 0 by unfold cw_ct; omega)] at h; exact h
  · have g' : ¬ k0 + k1 + k2 = 0 := fun z => g ((nI_eq (b := 0) (by omega) (by decide)).mpr z)
    rw [decide_eq_false (show ¬ cw_ct k0 k1 k2 = 0 by unfold cw_ct; omega), Bool.false_or] at h
    rcases Nat.eq_zero_or_pos k0 with e | e
    · subst e
      refine br_t (by decide) ?_
      exact cw_f28 f cn gd kn sd se rc av 0 k1 k2 h0 h1 h2 h
    · refine br_f (nI_nle e (by omega)) ?_
      have l : cw_ct (k0 - 1) k1 k2 < 729 := cw_ctl (by omega) h1 h2
      refine cw_cX (k0 - 1) k1 k2 (pk_sub (b := 1) e) rfl rfl ?_
      rw [nI_clamp (n := cw_ct (k0 - 1) k1 k2) (by omega)]
      refine ⟨vp_in_nI l (by decide), br_c (fun z => ?_) (fun z => ?_)⟩
      · refine cw_f28 f cn gd kn sd se rc av k0 k1 k2 h0 h1 h2 ?_
        rw [show cw_fo1 av k0 (cw_ct (k0 - 1) k1 k2) = false by unfold cw_fo1; rw [decide_eq_true z, Bool.not_true, Bool.and_false]] at h; exact h
      · rw [show cw_fo1 av k0 (cw_ct (k0 - 1) k1 k2) = true by unfold cw_fo1; rw [decide_eq_false z, decide_eq_true e]; rfl] at h; exact h
theorem cw_r33 {post J8 : Int32 → Prop} (p c k0 k1 k2 z : Nat) (hp : p < 3) (h0 : k0 < 9) (h1 : k1 < 9) (h2 : k2 < 9) (hz : 0 < cw_sl p k0 k1 k2 → cw_ct k0 k1 k2 - z = c ∧ z ≤ cw_ct k0 k1 k2) (hf : cw_fo1 av (cw_sl p k0 k1 k2) c = false → J8 (nI (p + 1))) (ht : cw_fo1 av (cw_sl p k0 k1 k2) c = true → post 1) : wY_reached_33 post J8 (nI (cw_ct k0 k1 k2)) (nI p) (nI z) f cn gd kn sd se rc av := by
  have l := cw_sl_lt (p := p) h0 h1 h2
  have lc := cw_ctl h0 h1 h2
  unfold wY_reached_33
  unfold cw_fo1 at ht hf
  refine cw_soY p k0 k1 k2 hp h0 h1 h2 (br_c (fun g => ?_) (fun g => ?_))
  · have g' : cw_sl p k0 k1 k2 ≤ 0 := (nI_leI (b := 0) (by omega) (by decide)).mp g
    exact nm_r (nI_1 p) (hf (by rw [decide_eq_false (by omega)]; rfl))
  · have g' : 0 < cw_sl p k0 k1 k2 := by
      rcases Nat.eq_zero_or_pos (cw_sl p k0 k1 k2) with e | e
      · exact absurd (by rw [e]; decide) g
      · exact e
    obtain ⟨ec, hzc⟩ := hz g'
    rw [pk_sub hzc, ec, nI_clamp (n := c) (by omega)]
    rw [decide_eq_true g'] at ht hf
    refine ⟨vp_in_nI (by omega) (by decide), br_c (fun y => ?_) (fun y => ?_)⟩
    · rw [decide_eq_true y] at hf; exact nm_r (nI_1 p) (hf rfl)
    · rw [decide_eq_false y] at ht; exact ht rfl
theorem cw_foY {post : Int32 → Prop} (k0 k1 k2 : Nat) (h0 : k0 < 9) (h1 : k1 < 9) (h2 : k2 < 9) (h : post (cw_b (cw_fo av k0 k1 k2))) : wpY_reached post (f, cn, gd, kn, sd, se, rc, av) (nI (cw_ct k0 k1 k2)) := by
  have lc := cw_ctl h0 h1 h2
  unfold wpY_reached
  dsimp only
  unfold cw_fo at h
  refine br_c (fun g => ?_) (fun g => ⟨4, ?_⟩)
  · have g' : cw_ct k0 k1 k2 = 0 := (nI_eq (b := 0) (by omega) (by decide)).mp g
    rw [decide_eq_true g'] at h; exact h
  · have g' : ¬ cw_ct k0 k1 k2 = 0 := fun z => g (by rw [z]; rfl)
    rw [decide_eq_false g', Bool.false_or] at h
    unfold wY_reached_8
    refine br_f (by decide) (br_t rfl ?_)
    refine cw_r33 f cn gd kn sd se rc av 0 (cw_ct (k0 - 1) k1 k2) k0 k1 k2 81 (by decide) h0 h1 h2 (fun l => ?_) (fun e => ?_) (fun e => ?_)
    · have l' : 0 < k0 := l
      unfold cw_ct; omega
    · unfold wY_reached_8
      refine br_f (by decide) (br_f (by decide) (br_t rfl ?_))
      refine cw_r33 f cn gd kn sd se rc av 1 (cw_ct k0 (k1 - 1) k2) k0 k1 k2 9 (by decide) h0 h1 h2 (fun l => ?_) (fun e1 => ?_) (fun e1 => ?_)
      · have l' : 0 < k1 := l
        unfold cw_ct; omega
      · unfold wY_reached_8
        refine br_f (by decide) (br_f (by decide) (br_f (by decide) ?_))
        refine cw_r33 f cn gd kn sd se rc av 2 (cw_ct k0 k1 (k2 - 1)) k0 k1 k2 1 (by decide) h0 h1 h2 (fun l => ?_) (fun e2 => ?_) (fun e2 => ?_)
        · have l' : 0 < k2 := l
          unfold cw_ct; omega
        · unfold wY_reached_8
          refine br_t (by decide) ?_
          rw [show cw_fo1 av k0 (cw_ct (k0 - 1) k1 k2) = false from e, show cw_fo1 av k1 (cw_ct k0 (k1 - 1) k2) = false from e1, show cw_fo1 av k2 (cw_ct k0 k1 (k2 - 1)) = false from e2] at h; exact h
        · rw [show cw_fo1 av k2 (cw_ct k0 k1 (k2 - 1)) = true from e2, Bool.or_true, Bool.or_true] at h; exact h
      · rw [show cw_fo1 av k1 (cw_ct k0 (k1 - 1) k2) = true from e1, Bool.true_or, Bool.or_true] at h; exact h
    · rw [show cw_fo1 av k0 (cw_ct (k0 - 1) k1 k2) = true from e, Bool.true_or] at h; exact h
end
