/-! the two states are the same but for the scratch of definitely -/
def i_Rel (_ : Nat) (u : SX) (v : SY) : Prop := ∃ (m : Nat) (C : Nat → Nat) (cn gd kn sd se rc ax ay : Nat → Int32), u = (nI m, cn, gd, kn, sd, se, rc, ax) ∧ v = (nI m, cn, gd, kn, sd, se, rc, ay) ∧ cw_I C cn kn sd se m
theorem i_up {k : Nat} {u : SX} {v : SY} (h : i_Rel k u v) : i_Rel (k + 4) u v := h
theorem i_vc0 : wpX_init (fun u => wpY_init (fun v => i_Rel 0 u v)) := by
  unfold wpX_init wpY_init
  refine ⟨0, fun _ => 0, fun _ => 0, fun _ => 0, fun _ => 0, fun _ => 0, fun _ => 0, fun _ => 0, fun _ => 0, fun _ => 0, rfl, rfl, fun p _ => ⟨Nat.zero_le 8, rfl⟩, Nat.zero_le _, fun j hj => absurd hj (by omega), fun p k q _ _ _ => ?_⟩
  show (0 : Int32) ≤ nI 0
  decide
theorem i_vc_start {k : Nat} {u : SX} {v : SY} (I : i_Rel k u v) (hk : k + 4 ≤ 2048) (v1 : Int32) (v2 : Int32) : wpX_start (fun r u' => wpY_start (fun r' v' => r' = r ∧ i_Rel (k + 4) u' v') v v1 (lw_bz v2)) u v1 (lw_bz v2) := by
  obtain ⟨m, C, cn, gd, kn, sd, se, rc, ax, ay, rfl, rfl, I⟩ := I
  unfold wpX_start wpY_start
  dsimp only
  rcases cw_proc v1 with ⟨p, hp, rfl⟩ | ⟨hX, hY⟩
  · have hi : vp_in (nI (p * 9 + 0)) 27 := vp_in_nI (by omega) (by decide)
    refine cw_pX hp (br_f (by decide) (cw_sX p 0 rfl rfl ⟨hi, nm_e (cw_pY hp (br_t rfl ?_))⟩))
    rw [cw_y0]
    exact ⟨hi, nm_e ⟨rfl, m, C, cn, _, kn, sd, se, rc, ax, ay, rfl, rfl, I⟩⟩
  · exact hX _ (br_t rfl (hY _ (br_f (by decide) ⟨rfl, m, C, cn, gd, kn, sd, se, rc, ax, ay, rfl, rfl, I⟩)))
theorem i_vc_step {k : Nat} {u : SX} {v : SY} (I : i_Rel k u v) (hk : k + 4 ≤ 2048) (v1 : Int32) (v2 : Int32) : wpX_step (fun r u' => wpY_step (fun r' v' => r' = r ∧ i_Rel (k + 4) u' v') v v1 (lw_bz v2)) u v1 (lw_bz v2) := by
  obtain ⟨m, C, cn, gd, kn, sd, se, rc, ax, ay, rfl, rfl, I⟩ := I
  unfold wpX_step wpY_step
  dsimp only
  rcases cw_proc v1 with ⟨p, hp, rfl⟩ | ⟨hX, hY⟩
  · have hi : vp_in (nI p) 3 := vp_in_nI hp (by decide)
    obtain ⟨c8, ec⟩ := I.1 p hp
    rw [nI_clamp (n := p) (by omega), ec]
    by_cases hc : C p < 8
    · refine cw_meT _ cn gd kn sd se rc ax p (C p) hp hc ec (br_f (by decide) (cw_aeX _ cn gd kn sd se rc ax p (C p) hp hc ec _ ?_))
      refine ⟨hi, cw_pY hp (br_t rfl ⟨hi, br_f (cw_c8 hc) (cw_aeY _ cn gd kn sd se rc ay p (C p) hp hc ec _ ?_)⟩)⟩
      exact ⟨hi, rfl, m, cw_up C p, _, _, _, sd, se, rc, ax, ay, rfl, rfl, (cw_I_ev hp hc I).1⟩
    · have e8 : C p = 8 := by omega
      rw [e8] at ec ⊢
      exact cw_meF _ cn gd kn sd se rc ax p hp ec (br_t rfl (cw_pY hp (br_t rfl ⟨hi, br_t rfl ⟨rfl, m, C, cn, gd, kn, sd, se, rc, ax, ay, rfl, rfl, I⟩⟩)))
  · exact cw_meB _ cn gd kn sd se rc ax hX (br_t rfl (hY _ (br_f (by decide) ⟨rfl, m, C, cn, gd, kn, sd, se, rc, ax, ay, rfl, rfl, I⟩)))
theorem i_vc_send {k : Nat} {u : SX} {v : SY} (I : i_Rel k u v) (hk : k + 4 ≤ 2048) (v1 : Int32) (v2 : Int32) : wpX_send (fun r u' => wpY_send (fun r' v' => r' = r ∧ i_Rel (k + 4) u' v') v v1 (lw_bz v2)) u v1 (lw_bz v2) := by
  obtain ⟨m, C, cn, gd, kn, sd, se, rc, ax, ay, rfl, rfl, I⟩ := I
  unfold wpX_send wpY_send
  dsimp only
  rcases cw_proc v1 with ⟨p, hp, rfl⟩ | ⟨hX, hY⟩
  · have hi : vp_in (nI p) 3 := vp_in_nI hp (by decide)
    obtain ⟨c8, ec⟩ := I.1 p hp
    rw [nI_clamp (n := p) (by omega), ec]
    by_cases hc : C p < 8
    · have I2 := cw_I_ev hp hc I
      have m24 : m + 1 ≤ 24 := by
        have a0 := (I2.1.1 0 (by decide)).1
        have a1 := (I2.1.1 1 (by decide)).1
        have a2 := (I2.1.1 2 (by decide)).1
        have := I2.2
        omega
      have hm : vp_in (nI m) 24 := vp_in_nI (by omega) (by decide)
      refine cw_meT _ cn gd kn sd se rc ax p (C p) hp hc ec (br_f (by decide) (br_t (nI_lt (b := 24) (by omega) (by decide)) (cw_aeX _ cn gd kn sd se rc ax p (C p) hp hc ec _ ?_)))
      dsimp only
      rw [nI_clamp (n := m) (by omega), pk_us]
      refine ⟨hm, nm_e ⟨hi, hm, nm_e (nm_r (nI_1 m) (cw_pY hp (br_t rfl ⟨hi, br_f (cw_c8 hc) (cw_aeY _ cn gd kn sd se rc ay p (C p) hp hc ec _ ?_)⟩)))⟩⟩
      dsimp only
      rw [nI_clamp (n := m) (by omega), pk_us]
      refine ⟨hm, nm_e ⟨hi, hm, nm_e (nm_r (nI_1 m) ⟨nI_pred m, m + 1, cw_up C p, _, _, _, _, _, rc, ax, ay, rfl, rfl, ?_⟩)⟩⟩
      have I3 := cw_I_sd hp I2.1 I2.2
      rw [cw_up_s] at I3
      exact I3
    · have e8 : C p = 8 := by omega
      rw [e8] at ec ⊢
      exact cw_meF _ cn gd kn sd se rc ax p hp ec (br_t rfl (cw_pY hp (br_t rfl ⟨hi, br_t rfl ⟨rfl, m, C, cn, gd, kn, sd, se, rc, ax, ay, rfl, rfl, I⟩⟩)))
  · exact cw_meB _ cn gd kn sd se rc ax hX (br_t rfl (hY _ (br_f (by decide) ⟨rfl, m, C, cn, gd, kn, sd, se, rc, ax, ay, rfl, rfl, I⟩)))
theorem i_vc_receive {k : Nat} {u : SX} {v : SY} (I : i_Rel k u v) (hk : k + 4 ≤ 2048) (v1 : Int32) (v2 : Int32) (v3 : Int32) : wpX_receive (fun r u' => wpY_receive (fun r' v' => r' = r ∧ i_Rel (k + 4) u' v') v v1 v2 (lw_bz v3)) u v1 v2 (lw_bz v3) := by
  obtain ⟨m, C, cn, gd, kn, sd, se, rc, ax, ay, rfl, rfl, I⟩ := I
  have Z : i_Rel (k + 4) (nI m, cn, gd, kn, sd, se, rc, ax) (nI m, cn, gd, kn, sd, se, rc, ay) := ⟨m, C, cn, gd, kn, sd, se, rc, ax, ay, rfl, rfl, I⟩
  unfold wpX_receive wpY_receive wpX_mayReceive
  dsimp only
  rcases cw_proc v1 with ⟨p, hp, rfl⟩ | ⟨hX, hY⟩
  · have hi : vp_in (nI p) 3 := vp_in_nI hp (by decide)
    obtain ⟨c8, ec⟩ := I.1 p hp
    rw [nI_clamp (n := p) (by omega), ec]
    by_cases hc : C p < 8
    · refine cw_meT _ cn gd kn sd se rc ax p (C p) hp hc ec (br_f (by decide) ?_)
      have m24 := cw_I_24 I
      rcases pk_ix v2 (n := m) (by omega) with h | h | ⟨j, hj, rfl⟩
      · exact br_t h (br_t rfl (cw_pY hp (br_t rfl ⟨hi, br_f (cw_c8 hc) (br_t h ⟨rfl, Z⟩)⟩)))
      · have h0 : ¬ v2 < 0 := Int32.not_lt.mpr (Int32.le_trans (nI_pos' (n := m) (by omega)) h)
        exact br_f h0 (br_t h (br_t rfl (cw_pY hp (br_t rfl ⟨hi, br_f (cw_c8 hc) (br_f h0 (br_f (Int32.not_lt.mpr h) ⟨rfl, Z⟩))⟩))))
      · have h0 : ¬ nI j < 0 := nI_pos (by omega)
        have hlt : nI j < nI m := nI_lt hj (by omega)
        have hj24 : vp_in (nI j) 24 := vp_in_nI (by omega) (by decide)
        rw [nI_clamp (n := j) (by omega)]
        refine br_f h0 (br_f (Int32.not_le.mpr hlt) ⟨hj24, ?_⟩)
        by_cases hr : rc j = 0
        · refine br_t hr ⟨hj24, ?_⟩
          by_cases hs : sd j = nI p
          · exact br_t hs (br_t rfl (cw_pY hp (br_t rfl ⟨hi, br_f (cw_c8 hc) (br_f h0 (br_t hlt ⟨hj24, br_t hr ⟨hj24, br_t hs ⟨rfl, Z⟩⟩⟩))⟩)))
          · refine br_f hs (br_f (by decide) (cw_aeX _ cn gd kn sd se rc ax p (C p) hp hc ec _ ?_))
            obtain ⟨I2, _⟩ := cw_I_ev hp hc I
            obtain ⟨s, e, s3, e8, es, ee⟩ := I2.2.2.1 j hj
            have u8 := (I2.1 s s3).1
            have hK := I2.2.2.2
            have hD : cw_D (cw_ev kn p (C p)) s e p (C p + 1) := by
              have q := hK s e p s3 e8 hp
              rw [cw_up_s] at q
              unfold cw_D
              rw [show cw_ev kn p (C p) (cw_ix p (C p + 1) p) = nI (C p + 1) by unfold cw_ev; rw [pk_us]]
              exact q
            dsimp only
            refine cw_leX _ _ _ _ sd se rc ax s e p (C p + 1) j s3 (by omega) hp (by omega) (by omega) pk_us es ee hD ?_
            dsimp only
            refine ⟨hj24, nm_e ⟨hi, cw_pY hp (br_t rfl ⟨hi, br_f (cw_c8 hc) (br_f h0 (br_t hlt ⟨hj24, br_t hr ⟨hj24, br_f hs (cw_aeY _ cn gd kn sd se rc ay p (C p) hp hc ec _ ?_)⟩⟩))⟩)⟩⟩
            dsimp only
            rw [es, pk_us]
            refine ⟨hj24, nm_e ⟨hj24, nm_e ⟨hi, nm_e ⟨4, cw_leY _ _ _ _ sd se _ ay s e p (C p + 1) j s3 (by omega) hp (by omega) (by omega) ee ⟨rfl, m, cw_up C p, _, _, _, sd, se, _, ax, ay, rfl, rfl, ?_⟩⟩⟩⟩⟩
            exact ⟨I2.1, I2.2.1, I2.2.2.1, cw_K_ly s3 e8 (by decide) (cw_K_ly s3 e8 (by decide) (cw_K_ly s3 e8 (by decide) hK))⟩
        · exact br_f hr (br_t rfl (cw_pY hp (br_t rfl ⟨hi, br_f (cw_c8 hc) (br_f h0 (br_t hlt ⟨hj24, br_f hr ⟨rfl, Z⟩⟩))⟩)))
    · have e8 : C p = 8 := by omega
      rw [e8] at ec ⊢
      exact cw_meF _ cn gd kn sd se rc ax p hp ec (br_t rfl (cw_pY hp (br_t rfl ⟨hi, br_t rfl ⟨rfl, Z⟩⟩)))
  · exact cw_meB _ cn gd kn sd se rc ax hX (br_t rfl (hY _ (br_f (by decide) ⟨rfl, Z⟩)))
theorem i_vc_knows {k : Nat} {u : SX} {v : SY} (I : i_Rel k u v) (hk : k + 4 ≤ 2048) (v1 : Int32) (v2 : Int32) (v3 : Int32) : wpX_knows (fun r => wpY_knows (fun r' => r' = r ∧ i_Rel (k + 4) u v) v v1 v2 v3) u v1 v2 v3 := by
  obtain ⟨m, C, cn, gd, kn, sd, se, rc, ax, ay, rfl, rfl, I⟩ := I
  have Z : i_Rel (k + 4) (nI m, cn, gd, kn, sd, se, rc, ax) (nI m, cn, gd, kn, sd, se, rc, ay) := ⟨m, C, cn, gd, kn, sd, se, rc, ax, ay, rfl, rfl, I⟩
  unfold wpX_knows wpY_knows
  dsimp only
  rcases cw_proc v1 with ⟨p, hp, rfl⟩ | ⟨hX, hY⟩
  · have hi : vp_in (nI p) 3 := vp_in_nI hp (by decide)
    obtain ⟨c8, ec⟩ := I.1 p hp
    rw [nI_clamp (n := p) (by omega), ec]
    rcases cw_proc v3 with ⟨q, hq, rfl⟩ | ⟨hX, hY⟩
    · refine cw_pX hp (br_f (by decide) (cw_pX hq (br_f (by decide) ?_)))
      by_cases h0 : v2 < 0
      · exact br_t h0 (cw_pY hp (br_t rfl (cw_pY hq (br_t rfl (br_t h0 ⟨rfl, Z⟩)))))
      · obtain ⟨j, hj, rfl⟩ := nI_of h0
        refine br_f h0 ⟨hi, ?_⟩
        by_cases hle : nI j ≤ nI (C p)
        · have hj2 : j ≤ C p := (nI_leI hj (by omega)).mp hle
          have l : cw_ix p j q < 81 := cw_ixl hp (by omega) hq
          have hx : vp_in (nI (cw_ix p j q)) 81 := vp_in_nI l (by decide)
          refine br_t hle (cw_kX p j q rfl rfl rfl ⟨hx, cw_pY hp (br_t rfl (cw_pY hq (br_t rfl (br_f h0 ⟨hi, br_t hle ?_⟩))))⟩)
          rw [cw_yi]
          exact ⟨hx, rfl, Z⟩
        · exact br_f hle (cw_pY hp (br_t rfl (cw_pY hq (br_t rfl (br_f h0 ⟨hi, br_f hle ⟨rfl, Z⟩⟩)))))
    · exact cw_pX hp (br_f (by decide) (hX _ (br_t rfl (cw_pY hp (br_t rfl (hY _ (br_f (by decide) ⟨rfl, Z⟩)))))))
  · exact hX _ (br_t rfl (hY _ (br_f (by decide) ⟨rfl, Z⟩)))
theorem i_vc_possibly {k : Nat} {u : SX} {v : SY} (I : i_Rel k u v) (hk : k + 4 ≤ 2048) (v1 : Int32) : wpX_possibly (fun r => wpY_possibly (fun r' => r' = r ∧ i_Rel (k + 4) u v) v v1) u v1 := by
  obtain ⟨m, C, cn, gd, kn, sd, se, rc, ax, ay, rfl, rfl, I⟩ := I
  have Z : i_Rel (k + 4) (nI m, cn, gd, kn, sd, se, rc, ax) (nI m, cn, gd, kn, sd, se, rc, ay) := ⟨m, C, cn, gd, kn, sd, se, rc, ax, ay, rfl, rfl, I⟩
  have hC := I.1
  unfold wpX_possibly wpY_possibly
  dsimp only
  rcases cw_set v1 with ⟨s, h1, h7, rfl⟩ | ⟨hX, hY⟩
  · refine cw_tX h1 h7 (br_f (by decide) (cw_lo0 _ cn gd kn sd se rc ax (C 0) (C 1) (C 2) (hC 0 (by decide)).1 (hC 1 (by decide)).1 (hC 2 (by decide)).1 (hC 0 (by decide)).2 (hC 1 (by decide)).2 (hC 2 (by decide)).2 s 0 (by omega) (by decide) ?_))
    rw [← cw_lE]
    refine br_c (fun g => cw_tY h1 h7 (br_t rfl ⟨730, ?_⟩)) (fun g => cw_tY h1 h7 (br_t rfl ⟨730, ?_⟩))
    · exact cw_posY _ cn gd kn sd se rc ay C hC s 729 0 rfl (fun _ => ⟨rfl, Z⟩) (fun n => absurd g n)
    · exact cw_posY _ cn gd kn sd se rc ay C hC s 729 0 rfl (fun n => absurd n g) (fun _ => ⟨rfl, Z⟩)
  · exact hX _ (br_t rfl (hY _ (br_f (by decide) ⟨rfl, Z⟩)))
theorem i_vc_least {k : Nat} {u : SX} {v : SY} (I : i_Rel k u v) (hk : k + 4 ≤ 2048) (v1 : Int32) (v2 : Int32) : wpX_least (fun r => wpY_least (fun r' => r' = r ∧ i_Rel (k + 4) u v) v v1 v2) u v1 v2 := by
  obtain ⟨m, C, cn, gd, kn, sd, se, rc, ax, ay, rfl, rfl, I⟩ := I
  have Z : i_Rel (k + 4) (nI m, cn, gd, kn, sd, se, rc, ax) (nI m, cn, gd, kn, sd, se, rc, ay) := ⟨m, C, cn, gd, kn, sd, se, rc, ax, ay, rfl, rfl, I⟩
  have hC := I.1
  unfold wpX_least wpY_least
  dsimp only
  rcases cw_set v1 with ⟨s, h1, h7, rfl⟩ | ⟨hX, hY⟩
  · rcases cw_proc v2 with ⟨p, hp, rfl⟩ | ⟨hX, hY⟩
    · refine cw_tX h1 h7 (br_f (by decide) (cw_pX hp (br_f (by decide) (cw_lo0 _ cn gd kn sd se rc ax (C 0) (C 1) (C 2) (hC 0 (by decide)).1 (hC 1 (by decide)).1 (hC 2 (by decide)).1 (hC 0 (by decide)).2 (hC 1 (by decide)).2 (hC 2 (by decide)).2 s p (by omega) hp ?_))))
      rw [← cw_lE]
      exact cw_tY h1 h7 (br_t rfl (cw_pY hp (br_t rfl ⟨730, cw_leaY _ cn gd kn sd se rc ay C hC s p hp (-1) ⟨rfl, Z⟩⟩)))
    · exact cw_tX h1 h7 (br_f (by decide) (hX _ (br_t rfl (cw_tY h1 h7 (br_t rfl (hY _ (br_f (by decide) ⟨rfl, Z⟩)))))))
  · exact hX _ (br_t rfl (hY _ (br_f (by decide) ⟨rfl, Z⟩)))
theorem i_vc_definitely {k : Nat} {u : SX} {v : SY} (I : i_Rel k u v) (hk : k + 4 ≤ 2048) (v1 : Int32) : wpX_definitely (fun r u' => wpY_definitely (fun r' v' => r' = r ∧ i_Rel (k + 4) u' v') v v1) u v1 := by
  obtain ⟨m, C, cn, gd, kn, sd, se, rc, ax, ay, rfl, rfl, I⟩ := I
  have hC := I.1
  obtain ⟨a0, b0⟩ := hC 0 (by decide)
  obtain ⟨a1, b1⟩ := hC 1 (by decide)
  obtain ⟨a2, b2⟩ := hC 2 (by decide)
  unfold wpX_definitely wpY_definitely
  dsimp only
  rcases cw_set v1 with ⟨s, h1, h7, rfl⟩ | ⟨hX, hY⟩
  · have lc : cw_ct (C 0) (C 1) (C 2) < 729 := cw_ctl (by omega) (by omega) (by omega)
    have E := cw_dE C gd kn s 729 0 ax ay rfl (fun j hj => absurd hj (by omega)) (cw_ct (C 0) (C 1) (C 2)) lc (cw_in_ct (by omega) (by omega) (Nat.le_refl _) (Nat.le_refl _) (Nat.le_refl _))
    refine cw_tX h1 h7 (br_f (by decide) (cw_ma0 _ cn gd kn sd se rc (C 0) (C 1) (C 2) a0 a1 a2 b0 b1 b2 s (by omega) ax ?_))
    dsimp only
    refine cw_cX (C 0) (C 1) (C 2) b0 b1 b2 ⟨vp_in_nI lc (by decide), ?_⟩
    rw [nI_clamp (n := cw_ct (C 0) (C 1) (C 2)) (by omega)]
    rw [E]
    refine br_c (fun g => cw_tY h1 h7 (br_t rfl ⟨730, ?_⟩)) (fun g => cw_tY h1 h7 (br_t rfl ⟨730, ?_⟩))
    · exact cw_deY _ cn gd kn sd se rc C hC s ay (fun _ => ⟨rfl, m, C, cn, gd, kn, sd, se, rc, _, _, rfl, rfl, I⟩) (fun n => absurd g n)
    · exact cw_deY _ cn gd kn sd se rc C hC s ay (fun n => absurd n g) (fun _ => ⟨rfl, m, C, cn, gd, kn, sd, se, rc, _, _, rfl, rfl, I⟩)
  · exact hX _ (br_t rfl (hY _ (br_f (by decide) ⟨rfl, m, C, cn, gd, kn, sd, se, rc, ax, ay, rfl, rfl, I⟩)))
theorem i_vc_cuts {k : Nat} {u : SX} {v : SY} (I : i_Rel k u v) (hk : k + 4 ≤ 2048) : wpX_cuts (fun r => wpY_cuts (fun r' => r' = r ∧ i_Rel (k + 4) u v) v) u := by
  obtain ⟨m, C, cn, gd, kn, sd, se, rc, ax, ay, rfl, rfl, I⟩ := I
  have hC := I.1
  unfold wpX_cuts wpY_cuts
  dsimp only
  refine ⟨C 0 + 2, cw_cu0 _ cn gd kn sd se rc ax (C 0) (C 1) (C 2) (hC 0 (by decide)).1 (hC 1 (by decide)).1 (hC 2 (by decide)).1 (hC 0 (by decide)).2 (hC 1 (by decide)).2 (hC 2 (by decide)).2 0 ?_⟩
  rw [← cw_cE]
  exact ⟨730, cw_cuY _ cn gd kn sd se rc ay C hC 0 ⟨rfl, m, C, cn, gd, kn, sd, se, rc, ax, ay, rfl, rfl, I⟩⟩
theorem i_vc_events {k : Nat} {u : SX} {v : SY} (I : i_Rel k u v) (hk : k + 4 ≤ 2048) (v1 : Int32) : wpX_events (fun r => wpY_events (fun r' => r' = r ∧ i_Rel (k + 4) u v) v v1) u v1 := by
  obtain ⟨m, C, cn, gd, kn, sd, se, rc, ax, ay, rfl, rfl, I⟩ := I
  have Z : i_Rel (k + 4) (nI m, cn, gd, kn, sd, se, rc, ax) (nI m, cn, gd, kn, sd, se, rc, ay) := ⟨m, C, cn, gd, kn, sd, se, rc, ax, ay, rfl, rfl, I⟩
  unfold wpX_events wpY_events
  dsimp only
  rcases cw_proc v1 with ⟨p, hp, rfl⟩ | ⟨hX, hY⟩
  · have hi : vp_in (nI p) 3 := vp_in_nI hp (by decide)
    exact cw_pX hp (br_f (by decide) ⟨hi, cw_pY hp (br_t rfl ⟨hi, rfl, Z⟩)⟩)
  · exact hX _ (br_t rfl (hY _ (br_f (by decide) ⟨rfl, Z⟩)))
