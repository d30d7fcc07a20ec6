/-! definitely: the cuts that a run can come to without a good one -/
def cw_dv (ps gs fo : Bool) : Int32 := vp_nar .boolean (cw_b (ps && (!gs && fo)))
def cw_dH (gd kn : Nat → Int32) (s k0 k1 k2 : Nat) (a : Nat → Int32) : Nat → Int32 := upd a (cw_ct k0 k1 k2) (cw_dv (cw_ps kn k0 k1 k2) (cw_gs gd s k0 k1 k2) (cw_fo a k0 k1 k2))
def cw_dY (C : Nat → Nat) (gd kn : Nat → Int32) (s c : Nat) (a : Nat → Int32) : Nat → Int32 := upd a c (cw_dv (cw_ok C kn (c / 81) (c / 9 % 9) (c % 9)) (cw_gs gd s (c / 81) (c / 9 % 9) (c % 9)) (cw_fo a (c / 81) (c / 9 % 9) (c % 9)))
section
variable (f : Int32) (cn gd kn sd se rc : Nat → Int32)
theorem cw_ma2 {post : SX → Prop} {J2 J14 : Int32 → (Nat → Int32) → (Nat → Int32) → (Nat → Int32) → (Nat → Int32) → (Nat → Int32) → (Nat → Int32) → (Nat → Int32) → Prop} (c2 : Nat) (l2 : c2 ≤ 8) (e2 : cn 2 = nI c2) (s k0 k1 : Nat) (hs : s < 8) (h0 : k0 < 9) (h1 : k1 < 9) (a : Nat → Int32) (h : J14 (nI (k1 + 1)) cn gd kn sd se rc (cw_fr (cw_dH gd kn s k0 k1) 0 (c2 + 1) a)) : wX_markAvoided_27 post J2 J14 (nI s) (nI k0) (nI k1) f (c2 + 2) (nI 0) cn gd kn sd se rc a := by
  refine cw_lp (cw_dH gd kn s k0 k1) c2 (fun n a k => wX_markAvoided_27 post J2 J14 (nI s) (nI k0) (nI k1) f n (nI k) cn gd kn sd se rc a) (fun a => J14 (nI (k1 + 1)) cn gd kn sd se rc a) (fun n a hJ => ?_) (fun n a k hk hW => ?_) a h
  · unfold wX_markAvoided_27
    rw [e2]
    exact br_t (nI_lt (by omega) (by omega)) (nm_r (nI_1 k1) hJ)
  · unfold wX_markAvoided_27
    rw [e2]
    unfold cw_dH cw_dv at hW
    have hk9 : k < 9 := by omega
    have lc : cw_ct k0 k1 k < 729 := cw_ctl h0 h1 hk9
    have hi : vp_in (nI (cw_ct k0 k1 k)) 729 := vp_in_nI lc (by decide)
    refine br_f (nI_nlt hk (by omega)) (cw_cX k0 k1 k rfl rfl rfl ?_)
    rw [nI_clamp (n := cw_ct k0 k1 k) (by omega)]
    refine cw_psX f cn gd kn sd se rc a k0 k1 k h0 h1 hk9 (cw_br (fun e => ⟨hi, nm_e (nm_r (nI_1 k) ?_)⟩) (fun e => cw_gsX f cn gd kn sd se rc a s k0 k1 k hs h0 h1 hk9 (cw_br (fun g => cw_foX f cn gd kn sd se rc a k0 k1 k h0 h1 hk9 (cw_br (fun g2 => ⟨hi, nm_e (nm_r (nI_1 k) ?_)⟩) (fun g2 => ⟨hi, nm_e (nm_r (nI_1 k) ?_)⟩))) (fun g => ⟨hi, nm_e (nm_r (nI_1 k) ?_)⟩))))
    · rw [e] at hW; exact hW
    · rw [e, g, g2] at hW; exact hW
    · rw [e, g, g2] at hW; exact hW
    · rw [e, g] at hW; exact hW
theorem cw_ma1 {post : SX → Prop} {J2 : Int32 → (Nat → Int32) → (Nat → Int32) → (Nat → Int32) → (Nat → Int32) → (Nat → Int32) → (Nat → Int32) → (Nat → Int32) → Prop} (c1 c2 : Nat) (l1 : c1 ≤ 8) (l2 : c2 ≤ 8) (e1 : cn 1 = nI c1) (e2 : cn 2 = nI c2) (s k0 : Nat) (hs : s < 8) (h0 : k0 < 9) (a : Nat → Int32) (h : J2 (nI (k0 + 1)) cn gd kn sd se rc (cw_fr (fun k1 => cw_fr (cw_dH gd kn s k0 k1) 0 (c2 + 1)) 0 (c1 + 1) a)) : wX_markAvoided_14 post J2 (nI s) (nI k0) f (c1 + 2) (nI 0) cn gd kn sd se rc a := by
  refine cw_lp (fun k1 => cw_fr (cw_dH gd kn s k0 k1) 0 (c2 + 1)) c1 (fun n a k => wX_markAvoided_14 post J2 (nI s) (nI k0) f n (nI k) cn gd kn sd se rc a) (fun a => J2 (nI (k0 + 1)) cn gd kn sd se rc a) (fun n a hJ => ?_) (fun n a k hk hW => ?_) a h
  · unfold wX_markAvoided_14
    rw [e1]
    exact br_t (nI_lt (by omega) (by omega)) (nm_r (nI_1 k0) hJ)
  · unfold wX_markAvoided_14
    rw [e1]
    exact br_f (nI_nlt hk (by omega)) ⟨c2 + 2, cw_ma2 f cn gd kn sd se rc c2 l2 e2 s k0 k hs h0 (by omega) a hW⟩
theorem cw_ma0 {post : SX → Prop} (c0 c1 c2 : Nat) (l0 : c0 ≤ 8) (l1 : c1 ≤ 8) (l2 : c2 ≤ 8) (e0 : cn 0 = nI c0) (e1 : cn 1 = nI c1) (e2 : cn 2 = nI c2) (s : Nat) (hs : s < 8) (a : Nat → Int32) (h : post (f, cn, gd, kn, sd, se, rc, cw_fr (cw_hx c0 c1 c2 (cw_dH gd kn s)) 0 729 a)) : wpX_markAvoided post (f, cn, gd, kn, sd, se, rc, a) (nI s) := by
  unfold wpX_markAvoided
  dsimp only
  refine ⟨c0 + 2, ?_⟩
  rw [cw_nest c0 c1 c2 l0 l1 l2] at h
  refine cw_lp (fun k0 => cw_fr (fun k1 => cw_fr (cw_dH gd kn s k0 k1) 0 (c2 + 1)) 0 (c1 + 1)) c0 (fun n a k => wX_markAvoided_2 post (nI s) f n (nI k) cn gd kn sd se rc a) (fun a => post (f, cn, gd, kn, sd, se, rc, a)) (fun n a hJ => ?_) (fun n a k hk hW => ?_) a h
  · unfold wX_markAvoided_2
    rw [e0]
    exact br_t (nI_lt (by omega) (by omega)) hJ
  · unfold wX_markAvoided_2
    rw [e0]
    exact br_f (nI_nlt hk (by omega)) ⟨c1 + 2, cw_ma1 f cn gd kn sd se rc c1 c2 l1 l2 e1 e2 s k hs (by omega) a hW⟩
theorem cw_yc (a b c : Nat) : ((81 * nI a) + (9 * nI b)) + nI c = nI (cw_ct a b c) := by
  show ((nI 81 * nI a) + (nI 9 * nI b)) + nI c = _
  rw [pk_mul, pk_mul, nI_add, nI_add]
  exact congrArg nI (by unfold cw_ct; omega)
theorem cw_deY {post : Int32 → SY → Prop} (C : Nat → Nat) (hC : ∀ p, p < 3 → C p ≤ 8 ∧ cn p = nI (C p)) (s : Nat) (a : Nat → Int32) (h1 : cw_fr (cw_dY C gd kn s) 0 729 a (cw_ct (C 0) (C 1) (C 2)) = 0 → post 1 (f, cn, gd, kn, sd, se, rc, cw_fr (cw_dY C gd kn s) 0 729 a)) (h0 : ¬ cw_fr (cw_dY C gd kn s) 0 729 a (cw_ct (C 0) (C 1) (C 2)) = 0 → post 0 (f, cn, gd, kn, sd, se, rc, cw_fr (cw_dY C gd kn s) 0 729 a)) : wY_definitely_11 post (nI s) f 730 (nI 0) cn gd kn sd se rc a := by
  obtain ⟨a0, b0⟩ := hC 0 (by decide)
  obtain ⟨a1, b1⟩ := hC 1 (by decide)
  obtain ⟨a2, b2⟩ := hC 2 (by decide)
  have lc : cw_ct (C 0) (C 1) (C 2) < 729 := cw_ctl (by omega) (by omega) (by omega)
  refine cw_lp (cw_dY C gd kn s) 728 (fun n a k => wY_definitely_11 post (nI s) f n (nI k) cn gd kn sd se rc a) (fun a => (a (cw_ct (C 0) (C 1) (C 2)) = 0 → post 1 (f, cn, gd, kn, sd, se, rc, a)) ∧ (¬ a (cw_ct (C 0) (C 1) (C 2)) = 0 → post 0 (f, cn, gd, kn, sd, se, rc, a))) (fun n a hJ => ?_) (fun n a k hk hW => ?_) a ⟨h1, h0⟩
  · unfold wY_definitely_11
    rw [b0, b1, b2, cw_yc]
    refine br_t (by decide) (nm_e ⟨vp_in_nI lc (by decide), ?_⟩)
    rw [nI_clamp (n := cw_ct (C 0) (C 1) (C 2)) (by omega)]
    exact hJ
  · unfold wY_definitely_11
    unfold cw_dY cw_dv at hW
    have hi : vp_in (nI k) 729 := vp_in_nI (by omega) (by decide)
    have lk : k < 729 := by omega
    refine br_f (cw_729 hk) ?_
    rw [nI_clamp (n := k) (by omega)]
    refine cw_okYc f cn gd kn sd se rc a C hC k lk (cw_br (fun e => ⟨hi, nm_e (nm_r (nI_1 k) ?_)⟩) (fun e => cw_gsYc f cn gd kn sd se rc a s k lk (cw_br (fun g => cw_foYc f cn gd kn sd se rc a k lk (cw_br (fun g2 => ⟨hi, nm_e (nm_r (nI_1 k) ?_)⟩) (fun g2 => ⟨hi, nm_e (nm_r (nI_1 k) ?_)⟩))) (fun g => ⟨hi, nm_e (nm_r (nI_1 k) ?_)⟩))))
    · rw [e] at hW; exact hW
    · rw [e, g, g2] at hW; exact hW
    · rw [e, g, g2] at hW; exact hW
    · rw [e, g] at hW; exact hW
end
/-! both tables agree on the cuts within the counts -/
theorem cw_in_ct {c0 c1 c2 k0 k1 k2 : Nat} (h1 : k1 < 9) (h2 : k2 < 9) (l0 : k0 ≤ c0) (l1 : k1 ≤ c1) (l2 : k2 ≤ c2) : cw_in c0 c1 c2 (cw_ct k0 k1 k2) = true := by
  have e0 : cw_ct k0 k1 k2 / 81 = k0 := by unfold cw_ct; omega
  have e1 : cw_ct k0 k1 k2 / 9 % 9 = k1 := by unfold cw_ct; omega
  have e2 : cw_ct k0 k1 k2 % 9 = k2 := by unfold cw_ct; omega
  unfold cw_in
  rw [e0, e1, e2]
  simp [l0, l1, l2]
theorem cw_in_le {c0 c1 c2 c : Nat} (h : cw_in c0 c1 c2 c = true) : c / 81 ≤ c0 ∧ c / 9 % 9 ≤ c1 ∧ c % 9 ≤ c2 := by
  unfold cw_in at h
  simp at h
  omega
theorem cw_fo_eq {c0 c1 c2 k0 k1 k2 : Nat} {a b : Nat → Int32} (h1 : k1 < 9) (h2 : k2 < 9) (l0 : k0 ≤ c0) (l1 : k1 ≤ c1) (l2 : k2 ≤ c2) (h : ∀ j, j < cw_ct k0 k1 k2 → cw_in c0 c1 c2 j = true → a j = b j) : cw_fo a k0 k1 k2 = cw_fo b k0 k1 k2 := by
  have F : ∀ k c, (0 < k → a c = b c) → cw_fo1 a k c = cw_fo1 b k c := by
    intro k c hc
    unfold cw_fo1
    rcases Nat.eq_zero_or_pos k with e | e
    · subst e; rfl
    · rw [hc e]
  unfold cw_fo
  rw [F k0 (cw_ct (k0 - 1) k1 k2) (fun z => h _ (by unfold cw_ct; omega) (cw_in_ct h1 h2 (by omega) l1 l2)), F k1 (cw_ct k0 (k1 - 1) k2) (fun z => h _ (by unfold cw_ct; omega) (cw_in_ct (by omega) h2 l0 (by omega) l2)), F k2 (cw_ct k0 k1 (k2 - 1)) (fun z => h _ (by unfold cw_ct; omega) (cw_in_ct h1 (by omega) l0 l1 (by omega)))]
theorem cw_dE (C : Nat → Nat) (gd kn : Nat → Int32) (s : Nat) : ∀ (d c : Nat) (a b : Nat → Int32), c + d = 729 → (∀ j, j < c → cw_in (C 0) (C 1) (C 2) j = true → a j = b j) → ∀ j, j < 729 → cw_in (C 0) (C 1) (C 2) j = true → cw_fr (cw_hx (C 0) (C 1) (C 2) (cw_dH gd kn s)) c d a j = cw_fr (cw_dY C gd kn s) c d b j := by
  intro d
  induction d with
  | zero =>
    intro c a b e h j hj hi
    rw [cw_fr0, cw_fr0]
    exact h j (by omega) hi
  | succ d ih =>
    intro c a b e h
    rw [cw_frS, cw_frS]
    refine ih (c + 1) _ _ (by omega) (fun j hj hi => ?_)
    cases g : cw_in (C 0) (C 1) (C 2) c
    · have n : j ≠ c := by
        intro z
        subst z
        rw [g] at hi
        exact absurd hi (by decide)
      unfold cw_hx cw_dY
      rw [g, pk_un n]
      exact h j (by omega) hi
    · obtain ⟨l0, l1, l2⟩ := cw_in_le g
      have ec : cw_ct (c / 81) (c / 9 % 9) (c % 9) = c := cw_ct_of c (by omega)
      have ef : cw_fo a (c / 81) (c / 9 % 9) (c % 9) = cw_fo b (c / 81) (c / 9 % 9) (c % 9) := cw_fo_eq (by omega) (by omega) l0 l1 l2 (by rw [ec]; exact h)
      unfold cw_hx cw_dY cw_dH
      rw [g, if_pos rfl, cw_okE, g, Bool.true_and, ec, ef]
      by_cases n : j = c
      · subst n
        rw [pk_us, pk_us]
      · rw [pk_un n, pk_un n]
        exact h j (by omega) hi
