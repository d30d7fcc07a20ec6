/-! the reference's walks at a cut given by its number -/
theorem cw_okE (C : Nat → Nat) (kn : Nat → Int32) (c : Nat) : cw_ok C kn (c / 81) (c / 9 % 9) (c % 9) = (cw_in (C 0) (C 1) (C 2) c && cw_ps kn (c / 81) (c / 9 % 9) (c % 9)) := by
  show ((decide (c / 81 ≤ C 0) && cw_rw kn 0 (c / 81) (c / 81) (c / 9 % 9) (c % 9)) && (decide (c / 9 % 9 ≤ C 1) && cw_rw kn 1 (c / 9 % 9) (c / 81) (c / 9 % 9) (c % 9)) && (decide (c % 9 ≤ C 2) && cw_rw kn 2 (c % 9) (c / 81) (c / 9 % 9) (c % 9))) = ((decide (c / 81 ≤ C 0) && decide (c / 9 % 9 ≤ C 1) && decide (c % 9 ≤ C 2)) && (cw_rw kn 0 (c / 81) (c / 81) (c / 9 % 9) (c % 9) && cw_rw kn 1 (c / 9 % 9) (c / 81) (c / 9 % 9) (c % 9) && cw_rw kn 2 (c % 9) (c / 81) (c / 9 % 9) (c % 9)))
  generalize decide (c / 81 ≤ C 0) = a0
  generalize decide (c / 9 % 9 ≤ C 1) = a1
  generalize decide (c % 9 ≤ C 2) = a2
  generalize cw_rw kn 0 _ _ _ _ = b0
  generalize cw_rw kn 1 _ _ _ _ = b1
  generalize cw_rw kn 2 _ _ _ _ = b2
  revert a0 a1 a2 b0 b1 b2
  decide
section
variable (f : Int32) (cn gd kn sd se rc av : Nat → Int32)
theorem cw_okYc {post : Int32 → Prop} (C : Nat → Nat) (hC : ∀ p, p < 3 → C p ≤ 8 ∧ cn p = nI (C p)) (c : Nat) (hc : c < 729) (h : post (cw_b (cw_ok C kn (c / 81) (c / 9 % 9) (c % 9)))) : wpY_possible post (f, cn, gd, kn, sd, se, rc, av) (nI c) := by
  have e := cw_okY f cn gd kn sd se rc av (post := post) C hC (c / 81) (c / 9 % 9) (c % 9) (by omega) (by omega) (by omega) h
  rw [cw_ct_of c hc] at e
  exact e
theorem cw_gsYc {post : Int32 → Prop} (s c : Nat) (hc : c < 729) (h : post (cw_b (cw_gs gd s (c / 81) (c / 9 % 9) (c % 9)))) : wpY_isGood post (f, cn, gd, kn, sd, se, rc, av) (nI c) (nI s) := by
  have e := cw_gsY f cn gd kn sd se rc av (post := post) s (c / 81) (c / 9 % 9) (c % 9) (by omega) (by omega) (by omega) h
  rw [cw_ct_of c hc] at e
  exact e
theorem cw_foYc {post : Int32 → Prop} (c : Nat) (hc : c < 729) (h : post (cw_b (cw_fo av (c / 81) (c / 9 % 9) (c % 9)))) : wpY_reached post (f, cn, gd, kn, sd, se, rc, av) (nI c) := by
  have e := cw_foY f cn gd kn sd se rc av (post := post) (c / 81) (c / 9 % 9) (c % 9) (by omega) (by omega) (by omega) h
  rw [cw_ct_of c hc] at e
  exact e
theorem cw_soYc {post : Int32 → Prop} (p c : Nat) (hp : p < 3) (hc : c < 729) (h : post (nI (cw_sl p (c / 81) (c / 9 % 9) (c % 9)))) : wpY_stateOf post (nI c) (nI p) := by
  have e := cw_soY (post := post) p (c / 81) (c / 9 % 9) (c % 9) hp (by omega) (by omega) (by omega) h
  rw [cw_ct_of c hc] at e
  exact e
end
theorem cw_729 {c : Nat} (h : c ≤ 728) : ¬ (729 : Int32) ≤ nI c := nI_ge (b := 729) (by omega) (by decide)

/-! cuts -/
def cw_cH (kn : Nat → Int32) (k0 k1 k2 : Nat) (s : Int32) : Int32 := if cw_ps kn k0 k1 k2 = true then s + 1 else s
def cw_cY (C : Nat → Nat) (kn : Nat → Int32) (c : Nat) (s : Int32) : Int32 := if cw_ok C kn (c / 81) (c / 9 % 9) (c % 9) = true then s + 1 else s
section
variable (f : Int32) (cn gd kn sd se rc av : Nat → Int32)
theorem cw_cu2 {post : Int32 → Prop} {J4 J16 : Int32 → Int32 → Prop} (c2 : Nat) (l2 : c2 ≤ 8) (e2 : cn 2 = nI c2) (k0 k1 : Nat) (h0 : k0 < 9) (h1 : k1 < 9) (s : Int32) (h : J16 (cw_fr (cw_cH kn k0 k1) 0 (c2 + 1) s) (nI (k1 + 1))) : wX_cuts_29 post J4 J16 (nI k0) (nI k1) f cn gd kn sd se rc av (c2 + 2) s (nI 0) := by
  refine cw_lp (cw_cH kn k0 k1) c2 (fun n s k => wX_cuts_29 post J4 J16 (nI k0) (nI k1) f cn gd kn sd se rc av n s (nI k)) (fun s => J16 s (nI (k1 + 1))) (fun n s hJ => ?_) (fun n s k hk hW => ?_) s h
  · unfold wX_cuts_29
    rw [e2]
    exact br_t (nI_lt (by omega) (by omega)) (nm_r (nI_1 k1) hJ)
  · unfold wX_cuts_29
    rw [e2]
    unfold cw_cH at hW
    refine br_f (nI_nlt hk (by omega)) (cw_psX f cn gd kn sd se rc av k0 k1 k h0 h1 (by omega) (cw_br (fun e => nm_r (nI_1 k) ?_) (fun e => nm_e (nm_r (nI_1 k) ?_))))
    · rw [e] at hW; exact hW
    · rw [e] at hW; exact hW
theorem cw_cu1 {post : Int32 → Prop} {J4 : Int32 → Int32 → Prop} (c1 c2 : Nat) (l1 : c1 ≤ 8) (l2 : c2 ≤ 8) (e1 : cn 1 = nI c1) (e2 : cn 2 = nI c2) (k0 : Nat) (h0 : k0 < 9) (s : Int32) (h : J4 (cw_fr (fun k1 => cw_fr (cw_cH kn k0 k1) 0 (c2 + 1)) 0 (c1 + 1) s) (nI (k0 + 1))) : wX_cuts_16 post J4 (nI k0) f cn gd kn sd se rc av (c1 + 2) s (nI 0) := by
  refine cw_lp (fun k1 => cw_fr (cw_cH kn k0 k1) 0 (c2 + 1)) c1 (fun n s k => wX_cuts_16 post J4 (nI k0) f cn gd kn sd se rc av n s (nI k)) (fun s => J4 s (nI (k0 + 1))) (fun n s hJ => ?_) (fun n s k hk hW => ?_) s h
  · unfold wX_cuts_16
    rw [e1]
    exact br_t (nI_lt (by omega) (by omega)) (nm_r (nI_1 k0) hJ)
  · unfold wX_cuts_16
    rw [e1]
    exact br_f (nI_nlt hk (by omega)) ⟨c2 + 2, cw_cu2 f cn gd kn sd se rc av c2 l2 e2 k0 k h0 (by omega) s hW⟩
theorem cw_cu0 {post : Int32 → Prop} (c0 c1 c2 : Nat) (l0 : c0 ≤ 8) (l1 : c1 ≤ 8) (l2 : c2 ≤ 8) (e0 : cn 0 = nI c0) (e1 : cn 1 = nI c1) (e2 : cn 2 = nI c2) (s : Int32) (h : post (cw_fr (cw_hx c0 c1 c2 (cw_cH kn)) 0 729 s)) : wX_cuts_4 post f cn gd kn sd se rc av (c0 + 2) s (nI 0) := by
  rw [cw_nest c0 c1 c2 l0 l1 l2] at h
  refine cw_lp (fun k0 => cw_fr (fun k1 => cw_fr (cw_cH kn k0 k1) 0 (c2 + 1)) 0 (c1 + 1)) c0 (fun n s k => wX_cuts_4 post f cn gd kn sd se rc av n s (nI k)) post (fun n s hJ => ?_) (fun n s k hk hW => ?_) s h
  · unfold wX_cuts_4
    rw [e0]
    exact br_t (nI_lt (by omega) (by omega)) hJ
  · unfold wX_cuts_4
    rw [e0]
    exact br_f (nI_nlt hk (by omega)) ⟨c1 + 2, cw_cu1 f cn gd kn sd se rc av c1 c2 l1 l2 e1 e2 k (by omega) s hW⟩
theorem cw_cuY {post : Int32 → Prop} (C : Nat → Nat) (hC : ∀ p, p < 3 → C p ≤ 8 ∧ cn p = nI (C p)) (s : Int32) (h : post (cw_fr (cw_cY C kn) 0 729 s)) : wY_cuts_4 post f cn gd kn sd se rc av 730 s (nI 0) := by
  refine cw_lp (cw_cY C kn) 728 (fun n s k => wY_cuts_4 post f cn gd kn sd se rc av n s (nI k)) post (fun n s hJ => ?_) (fun n s k hk hW => ?_) s h
  · unfold wY_cuts_4
    exact br_t (by decide) hJ
  · unfold wY_cuts_4
    unfold cw_cY at hW
    refine br_f (cw_729 hk) (cw_okYc f cn gd kn sd se rc av C hC k (by omega) (cw_br (fun e => nm_r (nI_1 k) ?_) (fun e => nm_e (nm_r (nI_1 k) ?_))))
    · rw [e] at hW; exact hW
    · rw [e] at hW; exact hW
end
theorem cw_cE (C : Nat → Nat) (kn : Nat → Int32) (s : Int32) : cw_fr (cw_cY C kn) 0 729 s = cw_fr (cw_hx (C 0) (C 1) (C 2) (cw_cH kn)) 0 729 s := by
  refine cw_fr_cong _ _ _ _ _ (fun c s _ _ => ?_)
  unfold cw_cY cw_hx cw_cH
  rw [cw_okE]
  cases cw_in (C 0) (C 1) (C 2) c <;> rfl

/-! possibly and least -/
def cw_lv (b : Bool) (st : Nat) (x : Int32) : Int32 := if (b && (decide (x < 0) || decide (nI st < x))) = true then nI st else x
def cw_lH (gd kn : Nat → Int32) (s p k0 k1 k2 : Nat) (x : Int32) : Int32 := cw_lv (cw_gs gd s k0 k1 k2 && cw_ps kn k0 k1 k2) (cw_sl p k0 k1 k2) x
def cw_lY (C : Nat → Nat) (gd kn : Nat → Int32) (s p c : Nat) (x : Int32) : Int32 := cw_lv (cw_ok C kn (c / 81) (c / 9 % 9) (c % 9) && cw_gs gd s (c / 81) (c / 9 % 9) (c % 9)) (cw_sl p (c / 81) (c / 9 % 9) (c % 9)) x
section
variable (f : Int32) (cn gd kn sd se rc av : Nat → Int32)
theorem cw_l82 {post : Int32 → Prop} {J5 J19 J33 : Int32 → Int32 → Prop} (b : Bool) (s k0 k1 k2 : Nat) (x2 x3 x7 : Int32) (hs : s < 8) (h0 : k0 < 9) (h1 : k1 < 9) (h2 : k2 < 9) (h : J33 (if ((cw_gs gd s k0 k1 k2 && cw_ps kn k0 k1 k2) && b) = true then x7 else x3) (nI (k2 + 1))) : wX_lowestState_82 post J5 J19 J33 (nI s) x2 x3 (nI k0) (nI k1) (nI k2) x7 (cw_b b) f cn gd kn sd se rc av := by
  unfold wX_lowestState_82
  refine cw_br (fun e => nm_r (nI_1 k2) ?_) (fun e => cw_gsX f cn gd kn sd se rc av s k0 k1 k2 hs h0 h1 h2 (cw_br (fun g => nm_r (nI_1 k2) ?_) (fun g => cw_psX f cn gd kn sd se rc av k0 k1 k2 h0 h1 h2 (cw_br (fun g2 => nm_r (nI_1 k2) ?_) (fun g2 => nm_r (nI_1 k2) ?_)))))
  · rw [e, Bool.and_false] at h; exact h
  · rw [g] at h; exact h
  · rw [g, g2] at h; exact h
  · rw [e, g, g2] at h; exact h
theorem cw_l65 {post : Int32 → Prop} {J5 J19 J33 : Int32 → Int32 → Prop} (s k0 k1 k2 st : Nat) (x2 x : Int32) (hs : s < 8) (h0 : k0 < 9) (h1 : k1 < 9) (h2 : k2 < 9) (h : J33 (cw_lv (cw_gs gd s k0 k1 k2 && cw_ps kn k0 k1 k2) st x) (nI (k2 + 1))) : wX_lowestState_65 post J5 J19 J33 (nI s) x2 x (nI k0) (nI k1) (nI k2) (nI st) f cn gd kn sd se rc av := by
  unfold wX_lowestState_65
  unfold cw_lv at h
  refine br_c (fun g => ?_) (fun g => br_c (fun g2 => ?_) (fun g2 => ?_))
  · rw [decide_eq_true g, Bool.true_or] at h
    exact cw_l82 f cn gd kn sd se rc av true s k0 k1 k2 x2 x (nI st) hs h0 h1 h2 h
  · rw [decide_eq_false g, decide_eq_false (Int32.not_lt.mpr g2), Bool.or_false] at h
    exact cw_l82 f cn gd kn sd se rc av false s k0 k1 k2 x2 x (nI st) hs h0 h1 h2 h
  · rw [decide_eq_true (Int32.not_le.mp g2), Bool.or_true] at h
    exact cw_l82 f cn gd kn sd se rc av true s k0 k1 k2 x2 x (nI st) hs h0 h1 h2 h
theorem cw_lo2 {post : Int32 → Prop} {J5 J19 : Int32 → Int32 → Prop} (c2 : Nat) (l2 : c2 ≤ 8) (e2 : cn 2 = nI c2) (s p k0 k1 : Nat) (hs : s < 8) (hp : p < 3) (h0 : k0 < 9) (h1 : k1 < 9) (x : Int32) (h : J19 (cw_fr (cw_lH gd kn s p k0 k1) 0 (c2 + 1) x) (nI (k1 + 1))) : wX_lowestState_33 post J5 J19 (nI s) (nI p) (nI k0) (nI k1) f cn gd kn sd se rc av (c2 + 2) x (nI 0) := by
  refine cw_lp (cw_lH gd kn s p k0 k1) c2 (fun n x k => wX_lowestState_33 post J5 J19 (nI s) (nI p) (nI k0) (nI k1) f cn gd kn sd se rc av n x (nI k)) (fun x => J19 x (nI (k1 + 1))) (fun n x hJ => ?_) (fun n x k hk hW => ?_) x h
  · unfold wX_lowestState_33
    rw [e2]
    exact br_t (nI_lt (by omega) (by omega)) (nm_r (nI_1 k1) hJ)
  · unfold wX_lowestState_33
    rw [e2]
    unfold cw_lH at hW
    refine br_f (nI_nlt hk (by omega)) ?_
    have hp' : p = 0 ∨ p = 1 ∨ p = 2 := by omega
    rcases hp' with e | e | e
    · subst e
      exact br_t rfl (cw_l65 f cn gd kn sd se rc av s k0 k1 k k0 _ x hs h0 h1 (by omega) hW)
    · subst e
      exact br_f (by decide) (br_t rfl (cw_l65 f cn gd kn sd se rc av s k0 k1 k k1 _ x hs h0 h1 (by omega) hW))
    · subst e
      exact br_f (by decide) (br_f (by decide) (cw_l65 f cn gd kn sd se rc av s k0 k1 k k _ x hs h0 h1 (by omega) hW))
theorem cw_lo1 {post : Int32 → Prop} {J5 : Int32 → Int32 → Prop} (c1 c2 : Nat) (l1 : c1 ≤ 8) (l2 : c2 ≤ 8) (e1 : cn 1 = nI c1) (e2 : cn 2 = nI c2) (s p k0 : Nat) (hs : s < 8) (hp : p < 3) (h0 : k0 < 9) (x : Int32) (h : J5 (cw_fr (fun k1 => cw_fr (cw_lH gd kn s p k0 k1) 0 (c2 + 1)) 0 (c1 + 1) x) (nI (k0 + 1))) : wX_lowestState_19 post J5 (nI s) (nI p) (nI k0) f cn gd kn sd se rc av (c1 + 2) x (nI 0) := by
  refine cw_lp (fun k1 => cw_fr (cw_lH gd kn s p k0 k1) 0 (c2 + 1)) c1 (fun n x k => wX_lowestState_19 post J5 (nI s) (nI p) (nI k0) f cn gd kn sd se rc av n x (nI k)) (fun x => J5 x (nI (k0 + 1))) (fun n x hJ => ?_) (fun n x k hk hW => ?_) x h
  · unfold wX_lowestState_19
    rw [e1]
    exact br_t (nI_lt (by omega) (by omega)) (nm_r (nI_1 k0) hJ)
  · unfold wX_lowestState_19
    rw [e1]
    exact br_f (nI_nlt hk (by omega)) ⟨c2 + 2, cw_lo2 f cn gd kn sd se rc av c2 l2 e2 s p k0 k hs hp h0 (by omega) x hW⟩
theorem cw_lo0 {post : Int32 → Prop} (c0 c1 c2 : Nat) (l0 : c0 ≤ 8) (l1 : c1 ≤ 8) (l2 : c2 ≤ 8) (e0 : cn 0 = nI c0) (e1 : cn 1 = nI c1) (e2 : cn 2 = nI c2) (s p : Nat) (hs : s < 8) (hp : p < 3) (h : post (cw_fr (cw_hx c0 c1 c2 (cw_lH gd kn s p)) 0 729 (-1))) : wpX_lowestState post (f, cn, gd, kn, sd, se, rc, av) (nI s) (nI p) := by
  unfold wpX_lowestState
  dsimp only
  refine ⟨c0 + 2, ?_⟩
  rw [cw_nest c0 c1 c2 l0 l1 l2] at h
  refine cw_lp (fun k0 => cw_fr (fun k1 => cw_fr (cw_lH gd kn s p k0 k1) 0 (c2 + 1)) 0 (c1 + 1)) c0 (fun n x k => wX_lowestState_5 post (nI s) (nI p) f cn gd kn sd se rc av n x (nI k)) post (fun n x hJ => ?_) (fun n x k hk hW => ?_) (-1) h
  · unfold wX_lowestState_5
    rw [e0]
    exact br_t (nI_lt (by omega) (by omega)) hJ
  · unfold wX_lowestState_5
    rw [e0]
    exact br_f (nI_nlt hk (by omega)) ⟨c1 + 2, cw_lo1 f cn gd kn sd se rc av c1 c2 l1 l2 e1 e2 s p k hs hp (by omega) x hW⟩
theorem cw_leaY {post : Int32 → Prop} (C : Nat → Nat) (hC : ∀ p, p < 3 → C p ≤ 8 ∧ cn p = nI (C p)) (s p : Nat) (hp : p < 3) (x : Int32) (h : post (cw_fr (cw_lY C gd kn s p) 0 729 x)) : wY_least_21 post (nI s) (nI p) f cn gd kn sd se rc av 730 x (nI 0) := by
  refine cw_lp (cw_lY C gd kn s p) 728 (fun n x k => wY_least_21 post (nI s) (nI p) f cn gd kn sd se rc av n x (nI k)) post (fun n x hJ => ?_) (fun n x k hk hW => ?_) x h
  · unfold wY_least_21
    exact br_t (by decide) hJ
  · unfold wY_least_21
    unfold cw_lY cw_lv at hW
    refine br_f (cw_729 hk) (cw_soYc p k hp (by omega) (cw_okYc f cn gd kn sd se rc av C hC k (by omega) (cw_br (fun e => nm_r (nI_1 k) ?_) (fun e => cw_gsYc f cn gd kn sd se rc av s k (by omega) (cw_br (fun e1 => nm_r (nI_1 k) ?_) (fun e1 => br_c (fun g => nm_r (nI_1 k) ?_) (fun g => br_c (fun g2 => nm_r (nI_1 k) ?_) (fun g2 => nm_r (nI_1 k) ?_))))))))
    · rw [e] at hW; exact hW
    · rw [e, e1] at hW; exact hW
    · rw [e, e1, decide_eq_true g] at hW; exact hW
    · rw [e, e1, decide_eq_false g, decide_eq_false (Int32.not_lt.mpr g2)] at hW; exact hW
    · rw [e, e1, decide_eq_false g, decide_eq_true (Int32.not_le.mp g2)] at hW; exact hW
end
theorem cw_lE (C : Nat → Nat) (gd kn : Nat → Int32) (s p : Nat) (x : Int32) : cw_fr (cw_lY C gd kn s p) 0 729 x = cw_fr (cw_hx (C 0) (C 1) (C 2) (cw_lH gd kn s p)) 0 729 x := by
  refine cw_fr_cong _ _ _ _ _ (fun c x _ _ => ?_)
  unfold cw_lY cw_hx cw_lH
  rw [cw_okE]
  cases cw_in (C 0) (C 1) (C 2) c
  · rfl
  · rw [Bool.true_and, Bool.and_comm, if_pos rfl]
theorem cw_lv_nn {b : Bool} {st : Nat} {x : Int32} (hst : st < 9) (h : ¬ x < 0) : ¬ cw_lv b st x < 0 := by
  unfold cw_lv
  split
  · exact nI_pos (by omega)
  · exact h
theorem cw_lY_nn (C : Nat → Nat) (gd kn : Nat → Int32) (s p : Nat) : ∀ (d c : Nat) (x : Int32), c + d = 729 → ¬ x < 0 → ¬ cw_fr (cw_lY C gd kn s p) c d x < 0 := by
  intro d
  induction d with
  | zero => intro c x _ h; rw [cw_fr0]; exact h
  | succ d ih =>
    intro c x e h
    rw [cw_frS]
    exact ih (c + 1) _ (by omega) (cw_lv_nn (cw_sl_lt (by omega) (by omega) (by omega)) h)
section
variable (f : Int32) (cn gd kn sd se rc av : Nat → Int32)
theorem cw_posY {post : Int32 → Prop} (C : Nat → Nat) (hC : ∀ p, p < 3 → C p ≤ 8 ∧ cn p = nI (C p)) (s : Nat) : ∀ (d c : Nat), c + d = 729 → (cw_fr (cw_lY C gd kn s 0) c d (-1) < 0 → post 0) → (¬ cw_fr (cw_lY C gd kn s 0) c d (-1) < 0 → post 1) → wY_possibly_11 post (nI s) f cn gd kn sd se rc av (d + 1) (nI c) := by
  intro d
  induction d with
  | zero =>
    intro c e h0 h1
    have : c = 729 := by omega
    subst this
    unfold wY_possibly_11
    exact br_t (by decide) (h0 (by rw [cw_fr0]; decide))
  | succ d ih =>
    intro c e h0 h1
    rw [cw_frS] at h0 h1
    unfold wY_possibly_11
    have nx : ∀ b : Bool, (cw_ok C kn (c / 81) (c / 9 % 9) (c % 9) && cw_gs gd s (c / 81) (c / 9 % 9) (c % 9)) = b → cw_lY C gd kn s 0 c (-1) = (if b = true then nI (c / 81) else -1) := by
      intro b hb
      unfold cw_lY cw_lv
      rw [hb, decide_eq_true (show (-1 : Int32) < 0 by decide), Bool.true_or, Bool.and_true]
      rfl
    refine br_f (cw_729 (by omega)) (cw_okYc f cn gd kn sd se rc av C hC c (by omega) (cw_br (fun g => nm_r (nI_1 c) ?_) (fun g => cw_gsYc f cn gd kn sd se rc av s c (by omega) (cw_br (fun g1 => nm_r (nI_1 c) ?_) (fun g1 => ?_)))))
    · rw [nx false (by rw [g]; rfl)] at h0 h1
      exact ih (c + 1) (by omega) h0 h1
    · rw [nx false (by rw [g, g1]; rfl)] at h0 h1
      exact ih (c + 1) (by omega) h0 h1
    · rw [nx true (by rw [g, g1]; rfl)] at h0 h1
      exact h1 (cw_lY_nn C gd kn s 0 d (c + 1) _ (by omega) (by rw [if_pos rfl]; exact nI_pos (by omega)))
end
