/-! one more event: the row of the state before, then the own count -/
def cw_cp (kn : Nat → Int32) (p c q : Nat) : Nat → Int32 := upd kn (cw_ix p (c + 1) q) (kn (cw_ix p c q))
def cw_ev (kn : Nat → Int32) (p c : Nat) : Nat → Int32 := upd (cw_cp (cw_cp (cw_cp kn p c 0) p c 1) p c 2) (cw_ix p (c + 1) p) (nI (c + 1))
section
variable (f : Int32) (cn gd kn sd se rc av : Nat → Int32)
theorem cw_aX1 {post : SX → Prop} (n p c q : Nat) (hp : p < 3) (hc : c < 8) (hq : q < 3) (g : Int32) (h : wX_addEvent_12 post (nI p) g (nI (c + 1)) f n (nI (q + 1)) cn gd (cw_cp kn p c q) sd se rc av) : wX_addEvent_12 post (nI p) g (nI (c + 1)) f (n + 1) (nI q) cn gd kn sd se rc av := by
  have l1 : cw_ix p (c + 1) q < 81 := cw_ixl hp (by omega) hq
  have l0 : cw_ix p c q < 81 := cw_ixl hp (by omega) hq
  unfold wX_addEvent_12
  refine br_f (cw_3le hq) (cw_kX p (c + 1) q rfl rfl rfl (cw_kX p c q rfl (nI_pred c) rfl ⟨vp_in_nI l0 (by decide), vp_in_nI l1 (by decide), nm_r (e' := cw_cp kn p c q) ?_ (nm_r (nI_1 q) h)⟩))
  rw [nI_clamp (n := cw_ix p c q) (by omega), nI_clamp (n := cw_ix p (c + 1) q) (by omega)]; rfl
theorem cw_aeX {post : SX → Prop} (p c : Nat) (hp : p < 3) (hc : c < 8) (ec : cn p = nI c) (g : Int32) (h : post (f, upd cn p (nI (c + 1)), upd gd (p * 9 + (c + 1)) (vp_nar .boolean g), cw_ev kn p c, sd, se, rc, av)) : wpX_addEvent post (f, cn, gd, kn, sd, se, rc, av) (nI p) g := by
  unfold wpX_addEvent
  dsimp only
  rw [nI_clamp (n := p) (by omega), ec]
  refine ⟨vp_in_nI hp (by decide), nm_r (nI_1 c) ⟨4, ?_⟩⟩
  refine cw_aX1 f cn gd kn sd se rc av 3 p c 0 hp hc (by decide) g ?_
  refine cw_aX1 f cn gd _ sd se rc av 2 p c 1 hp hc (by decide) g ?_
  refine cw_aX1 f cn gd _ sd se rc av 1 p c 2 hp hc (by decide) g ?_
  have l1 : cw_ix p (c + 1) p < 81 := cw_ixl hp (by omega) hp
  unfold wX_addEvent_12
  refine br_t (by decide) (cw_kX p (c + 1) p rfl rfl rfl ⟨vp_in_nI l1 (by decide), nm_r (e' := cw_ev kn p c) ?_ (cw_sX p (c + 1) rfl rfl ⟨vp_in_nI (by omega) (by decide), nm_r (e' := upd gd (p * 9 + (c + 1)) (vp_nar .boolean g)) ?_ ⟨vp_in_nI hp (by decide), nm_r (e' := upd cn p (nI (c + 1))) ?_ h⟩⟩)⟩)
  · rw [nI_clamp (n := cw_ix p (c + 1) p) (by omega)]; rfl
  · rw [nI_clamp (n := p * 9 + (c + 1)) (by omega)]
  · rw [nI_clamp (n := p) (by omega)]
theorem cw_aY1 {post : SY → Prop} (n p c q : Nat) (hp : p < 3) (hc : c < 8) (hq : q < 3) (h : wY_event_32 post (nI p) (nI (c + 1)) f n (nI (q + 1)) cn gd (cw_cp kn p c q) sd se rc av) : wY_event_32 post (nI p) (nI (c + 1)) f (n + 1) (nI q) cn gd kn sd se rc av := by
  have l1 : cw_ix p (c + 1) q < 81 := cw_ixl hp (by omega) hq
  have l0 : cw_ix p c q < 81 := cw_ixl hp (by omega) hq
  unfold wY_event_32
  refine br_f (cw_3le hq) ?_
  rw [nI_pred c, cw_yi, cw_yi, nI_clamp (n := cw_ix p c q) (by omega), nI_clamp (n := cw_ix p (c + 1) q) (by omega)]
  exact ⟨vp_in_nI l0 (by decide), vp_in_nI l1 (by decide), nm_r (e' := cw_cp kn p c q) rfl (nm_r (nI_1 q) h)⟩
theorem cw_aeY {post : SY → Prop} (p c : Nat) (hp : p < 3) (hc : c < 8) (ec : cn p = nI c) (g : Int32) (h : post (f, upd cn p (nI (c + 1)), upd gd (p * 9 + (c + 1)) (vp_nar .boolean g), cw_ev kn p c, sd, se, rc, av)) : wpY_event post (f, cn, gd, kn, sd, se, rc, av) (nI p) g := by
  have hi : vp_in (nI p) 3 := vp_in_nI hp (by decide)
  unfold wpY_event
  dsimp only
  rw [nI_clamp (n := p) (by omega), ec]
  refine ⟨hi, hi, nm_r (e' := upd cn p (nI (c + 1))) (by rw [nI_1]) ⟨hi, nm_r (e' := nI (c + 1)) pk_us ?_⟩⟩
  rw [cw_ys, nI_clamp (n := p * 9 + (c + 1)) (by omega)]
  refine ⟨vp_in_nI (by omega) (by decide), nm_e ⟨4, ?_⟩⟩
  refine cw_aY1 f _ _ kn sd se rc av 3 p c 0 hp hc (by decide) ?_
  refine cw_aY1 f _ _ _ sd se rc av 2 p c 1 hp hc (by decide) ?_
  refine cw_aY1 f _ _ _ sd se rc av 1 p c 2 hp hc (by decide) ?_
  have l1 : cw_ix p (c + 1) p < 81 := cw_ixl hp (by omega) hp
  unfold wY_event_32
  refine br_t (by decide) ?_
  rw [cw_yi, nI_clamp (n := cw_ix p (c + 1) p) (by omega)]
  exact ⟨vp_in_nI l1 (by decide), nm_r (e' := cw_ev kn p c) rfl h⟩
theorem cw_meT {post : Int32 → Prop} (p c : Nat) (hp : p < 3) (hc : c < 8) (ec : cn p = nI c) (h : post 1) : wpX_mayHaveEvent post (f, cn, gd, kn, sd, se, rc, av) (nI p) := by
  unfold wpX_mayHaveEvent
  dsimp only
  rw [nI_clamp (n := p) (by omega), ec]
  exact cw_pX hp (br_f (by decide) ⟨vp_in_nI hp (by decide), br_f (nI_ge (b := 8) hc (by decide)) h⟩)
theorem cw_meF {post : Int32 → Prop} (p : Nat) (hp : p < 3) (ec : cn p = nI 8) (h : post 0) : wpX_mayHaveEvent post (f, cn, gd, kn, sd, se, rc, av) (nI p) := by
  unfold wpX_mayHaveEvent
  dsimp only
  rw [nI_clamp (n := p) (by omega), ec]
  exact cw_pX hp (br_f (by decide) ⟨vp_in_nI hp (by decide), br_t (by decide) h⟩)
theorem cw_meB {post : Int32 → Prop} {x : Int32} (hx : ∀ post : Int32 → Prop, post 0 → wpX_isProcess post x) (h : post 0) : wpX_mayHaveEvent post (f, cn, gd, kn, sd, se, rc, av) x := by
  unfold wpX_mayHaveEvent
  dsimp only
  exact hx _ (br_t rfl h)
end
theorem cw_c8 {c : Nat} (h : c < 8) : ¬ nI c = 8 := by
  intro e
  have := (nI_eq (b := 8) (by omega) (by decide)).mp e
  omega

/-! what a message brings -/
def cw_ly (kn : Nat → Int32) (s e p k q : Nat) : Nat → Int32 := if q = p then kn else if kn (cw_ix s e q) ≤ kn (cw_ix p k q) then kn else upd kn (cw_ix p k q) (kn (cw_ix s e q))
def cw_D (kn : Nat → Int32) (s e p k : Nat) : Prop := kn (cw_ix s e p) ≤ kn (cw_ix p k p)
theorem cw_ly_D {kn : Nat → Int32} {s e p k q : Nat} (hp : p < 3) (hq : q < 3) (h : cw_D kn s e p k) : cw_D (cw_ly kn s e p k q) s e p k := by
  unfold cw_ly
  split
  · exact h
  · rename_i n
    split
    · exact h
    · unfold cw_D
      have a : cw_ix s e p ≠ cw_ix p k q := by unfold cw_ix; omega
      have b : cw_ix p k p ≠ cw_ix p k q := by unfold cw_ix; omega
      rw [pk_un a, pk_un b]
      exact h
section
variable (f : Int32) (cn gd kn sd se rc av : Nat → Int32)
theorem cw_lX1 {post : SX → Prop} (n s e p k q : Nat) (hs : s < 3) (he : e < 9) (hp : p < 3) (hk : k < 9) (hq : q < 3) (hD : cw_D kn s e p k) (h : wX_learn_26 post (nI p) (nI k) (nI s) (nI e) f n (nI (q + 1)) cn gd (cw_ly kn s e p k q) sd se rc av) : wX_learn_26 post (nI p) (nI k) (nI s) (nI e) f (n + 1) (nI q) cn gd kn sd se rc av := by
  have l1 : cw_ix p k q < 81 := cw_ixl hp hk hq
  have l0 : cw_ix s e q < 81 := cw_ixl hs he hq
  unfold wX_learn_26
  refine br_f (cw_3le hq) (cw_kX s e q rfl rfl rfl ⟨vp_in_nI l0 (by decide), nm_r (e' := kn (cw_ix s e q)) (by rw [nI_clamp (n := cw_ix s e q) (by omega)]) (cw_kX p k q rfl rfl rfl ⟨vp_in_nI l1 (by decide), ?_⟩)⟩)
  rw [nI_clamp (n := cw_ix p k q) (by omega)]
  refine br_c (fun g => nm_r (nI_1 q) ?_) (fun g => ⟨vp_in_nI l1 (by decide), nm_r (e' := upd kn (cw_ix p k q) (kn (cw_ix s e q))) rfl (nm_r (nI_1 q) ?_)⟩)
  · rw [show cw_ly kn s e p k q = kn by unfold cw_ly; rw [if_pos g, ite_self]] at h
    exact h
  · have n1 : ¬ q = p := by
      intro z
      subst z
      exact g hD
    rw [show cw_ly kn s e p k q = upd kn (cw_ix p k q) (kn (cw_ix s e q)) by unfold cw_ly; rw [if_neg n1, if_neg g]] at h
    exact h
theorem cw_leX {post : SX → Prop} (s e p k j : Nat) (hs : s < 3) (he : e < 9) (hp : p < 3) (hk : k < 9) (hj : j < 24) (ek : cn p = nI k) (es : sd j = nI s) (ee : se j = nI e) (hD : cw_D kn s e p k) (h : post (f, cn, gd, cw_ly (cw_ly (cw_ly kn s e p k 0) s e p k 1) s e p k 2, sd, se, rc, av)) : wpX_learn post (f, cn, gd, kn, sd, se, rc, av) (nI p) (nI j) := by
  unfold wpX_learn
  dsimp only
  rw [nI_clamp (n := p) (by omega), nI_clamp (n := j) (by omega), ek, es, ee]
  refine ⟨vp_in_nI hp (by decide), nm_e ⟨vp_in_nI hj (by decide), nm_e ⟨vp_in_nI hj (by decide), nm_e ⟨4, ?_⟩⟩⟩⟩
  have hD1 := cw_ly_D (q := 0) hp (by decide) hD
  have hD2 := cw_ly_D (q := 1) hp (by decide) hD1
  refine cw_lX1 f cn gd kn sd se rc av 3 s e p k 0 hs he hp hk (by decide) hD ?_
  refine cw_lX1 f cn gd _ sd se rc av 2 s e p k 1 hs he hp hk (by decide) hD1 ?_
  refine cw_lX1 f cn gd _ sd se rc av 1 s e p k 2 hs he hp hk (by decide) hD2 ?_
  unfold wX_learn_26
  exact br_t (by decide) h
theorem cw_lY1 {post : Int32 → SY → Prop} (n s e p k q j : Nat) (hs : s < 3) (he : e < 9) (hp : p < 3) (hk : k < 9) (hq : q < 3) (hj : j < 24) (ee : se j = nI e) (h : wY_receive_85 post (nI p) (nI j) (nI s) (nI k) f n (nI (q + 1)) cn gd (cw_ly kn s e p k q) sd se rc av) : wY_receive_85 post (nI p) (nI j) (nI s) (nI k) f (n + 1) (nI q) cn gd kn sd se rc av := by
  have l1 : cw_ix p k q < 81 := cw_ixl hp hk hq
  have l0 : cw_ix s e q < 81 := cw_ixl hs he hq
  unfold wY_receive_85
  refine br_f (cw_3le hq) ?_
  rw [nI_clamp (n := j) (by omega), ee, cw_yi, cw_yi, nI_clamp (n := cw_ix s e q) (by omega), nI_clamp (n := cw_ix p k q) (by omega)]
  refine ⟨vp_in_nI hj (by decide), vp_in_nI l0 (by decide), nm_e ?_⟩
  refine br_c (fun g => nm_r (nI_1 q) ?_) (fun g => ⟨vp_in_nI l1 (by decide), br_c (fun g2 => nm_r (nI_1 q) ?_) (fun g2 => ⟨vp_in_nI l1 (by decide), nm_e (nm_r (nI_1 q) ?_)⟩)⟩)
  · have g' : q = p := (nI_eq (by omega) (by omega)).mp g
    rw [show cw_ly kn s e p k q = kn by unfold cw_ly; rw [if_pos g']] at h
    exact h
  · rw [show cw_ly kn s e p k q = kn by unfold cw_ly; rw [if_pos g2, ite_self]] at h
    exact h
  · have g' : ¬ q = p := fun z => g (by rw [z])
    rw [show cw_ly kn s e p k q = upd kn (cw_ix p k q) (kn (cw_ix s e q)) by unfold cw_ly; rw [if_neg g', if_neg g2]] at h
    exact h
theorem cw_leY {post : Int32 → SY → Prop} (s e p k j : Nat) (hs : s < 3) (he : e < 9) (hp : p < 3) (hk : k < 9) (hj : j < 24) (ee : se j = nI e) (h : post (nI k) (f, cn, gd, cw_ly (cw_ly (cw_ly kn s e p k 0) s e p k 1) s e p k 2, sd, se, rc, av)) : wY_receive_85 post (nI p) (nI j) (nI s) (nI k) f 4 (nI 0) cn gd kn sd se rc av := by
  refine cw_lY1 f cn gd kn sd se rc av 3 s e p k 0 j hs he hp hk (by decide) hj ee ?_
  refine cw_lY1 f cn gd _ sd se rc av 2 s e p k 1 j hs he hp hk (by decide) hj ee ?_
  refine cw_lY1 f cn gd _ sd se rc av 1 s e p k 2 j hs he hp hk (by decide) hj ee ?_
  unfold wY_receive_85
  exact br_t (by decide) h
end

/-! what the relation keeps: the counts, the messages, and that no one knows more of a process than it has -/
def cw_K (C : Nat → Nat) (kn : Nat → Int32) : Prop := ∀ p k q, p < 3 → k ≤ C p → q < 3 → kn (cw_ix p k q) ≤ nI (C q)
def cw_up (C : Nat → Nat) (p : Nat) : Nat → Nat := fun j => if j = p then C p + 1 else C j
theorem cw_up_s {C : Nat → Nat} {p : Nat} : cw_up C p p = C p + 1 := if_pos rfl
theorem cw_up_n {C : Nat → Nat} {p j : Nat} (h : ¬ j = p) : cw_up C p j = C j := if_neg h
theorem cw_up_le (C : Nat → Nat) (p j : Nat) : C j ≤ cw_up C p j := by
  unfold cw_up
  split
  · rename_i h; subst h; omega
  · exact Nat.le_refl _
theorem cw_up_8 {C : Nat → Nat} {p : Nat} (hc : C p < 8) (h : ∀ j, j < 3 → C j ≤ 8) (j : Nat) (hj : j < 3) : cw_up C p j ≤ 8 := by
  unfold cw_up
  split
  · omega
  · exact h j hj
theorem cw_ev_old {kn : Nat → Int32} {p c p' k' q : Nat} (hp : p < 3) (hc : c < 8) (hk : k' < 9) (hq : q < 3) (h : ¬ (p' = p ∧ k' = c + 1)) : cw_ev kn p c (cw_ix p' k' q) = kn (cw_ix p' k' q) := by
  have A : ∀ r, r < 3 → cw_ix p' k' q ≠ cw_ix p (c + 1) r := by
    intro r hr
    unfold cw_ix
    omega
  unfold cw_ev cw_cp
  rw [pk_un (A p hp), pk_un (A 2 (by decide)), pk_un (A 1 (by decide)), pk_un (A 0 (by decide))]
theorem cw_ev_new {kn : Nat → Int32} {p c q : Nat} (hp : p < 3) (hq : q < 3) (h : ¬ q = p) : cw_ev kn p c (cw_ix p (c + 1) q) = kn (cw_ix p c q) := by
  have A : ∀ a b, a < 3 → b < 3 → cw_ix p c a ≠ cw_ix p (c + 1) b := by
    intro a b ha hb
    unfold cw_ix
    omega
  have B : ∀ a b, a < 3 → b < 3 → a ≠ b → cw_ix p (c + 1) a ≠ cw_ix p (c + 1) b := by
    intro a b ha hb hab
    unfold cw_ix
    omega
  unfold cw_ev
  rw [pk_un (B q p hq hp h)]
  have hq' : q = 0 ∨ q = 1 ∨ q = 2 := by omega
  unfold cw_cp
  rcases hq' with e | e | e
  · subst e
    rw [pk_un (B 0 2 (by decide) (by decide) (by decide)), pk_un (B 0 1 (by decide) (by decide) (by decide)), pk_us]
  · subst e
    rw [pk_un (B 1 2 (by decide) (by decide) (by decide)), pk_us, pk_un (A 1 0 (by decide) (by decide))]
  · subst e
    rw [pk_us, pk_un (A 2 1 (by decide) (by decide)), pk_un (A 2 0 (by decide) (by decide))]
theorem cw_K_ev {C : Nat → Nat} {kn : Nat → Int32} {p : Nat} (hp : p < 3) (hc : C p < 8) (h8 : ∀ j, j < 3 → C j ≤ 8) (h : cw_K C kn) : cw_K (cw_up C p) (cw_ev kn p (C p)) := by
  intro p' k' q hp' hk' hq
  have u8 := cw_up_8 hc h8
  have up : nI (C q) ≤ nI (cw_up C p q) := nI_le (cw_up_le C p q) (by have := u8 q hq; omega)
  by_cases e : p' = p ∧ k' = C p + 1
  · obtain ⟨e1, e2⟩ := e
    subst e1
    subst e2
    by_cases eq : q = p'
    · subst eq
      unfold cw_ev
      rw [pk_us, cw_up_s]
      exact nI_le (Nat.le_refl _) (by omega)
    · rw [cw_ev_new hp hq eq]
      exact Int32.le_trans (h p' (C p') q hp' (Nat.le_refl _) hq) up
  · have k8 := u8 p' hp'
    rw [cw_ev_old hp hc (by omega) hq e]
    refine Int32.le_trans (h p' k' q hp' ?_ hq) up
    by_cases e1 : p' = p
    · subst e1
      rw [cw_up_s] at hk'
      omega
    · rw [cw_up_n e1] at hk'
      exact hk'
theorem cw_K_ly {C : Nat → Nat} {kn : Nat → Int32} {s e p k q : Nat} (hs : s < 3) (he : e ≤ C s) (hq : q < 3) (h : cw_K C kn) : cw_K C (cw_ly kn s e p k q) := by
  intro p' k' q' hp' hk' hq'
  unfold cw_ly
  split
  · exact h p' k' q' hp' hk' hq'
  · split
    · exact h p' k' q' hp' hk' hq'
    · by_cases hj : cw_ix p' k' q' = cw_ix p k q
      · have eq : q' = q := by unfold cw_ix at hj; omega
        subst eq
        rw [hj, pk_us]
        exact h s e q' hs he hq'
      · rw [pk_un hj]
        exact h p' k' q' hp' hk' hq'
def cw_M (C : Nat → Nat) (sd se : Nat → Int32) (m : Nat) : Prop := ∀ j, j < m → ∃ s e : Nat, s < 3 ∧ e ≤ C s ∧ sd j = nI s ∧ se j = nI e
def cw_I (C : Nat → Nat) (cn kn sd se : Nat → Int32) (m : Nat) : Prop := (∀ p, p < 3 → C p ≤ 8 ∧ cn p = nI (C p)) ∧ m ≤ C 0 + C 1 + C 2 ∧ cw_M C sd se m ∧ cw_K C kn
theorem cw_I_ev {C : Nat → Nat} {cn kn sd se : Nat → Int32} {m p : Nat} (hp : p < 3) (hc : C p < 8) (h : cw_I C cn kn sd se m) : cw_I (cw_up C p) (upd cn p (nI (C p + 1))) (cw_ev kn p (C p)) sd se m ∧ m + 1 ≤ cw_up C p 0 + cw_up C p 1 + cw_up C p 2 := by
  obtain ⟨hC, hm, hM, hK⟩ := h
  have h8 : ∀ j, j < 3 → C j ≤ 8 := fun j hj => (hC j hj).1
  have hs : m + 1 ≤ cw_up C p 0 + cw_up C p 1 + cw_up C p 2 := by
    have hp' : p = 0 ∨ p = 1 ∨ p = 2 := by omega
    rcases hp' with e | e | e
    · subst e
      rw [cw_up_s, cw_up_n (j := 1) (by decide), cw_up_n (j := 2) (by decide)]; omega
    · subst e
      rw [cw_up_s, cw_up_n (j := 0) (by decide), cw_up_n (j := 2) (by decide)]; omega
    · subst e
      rw [cw_up_s, cw_up_n (j := 0) (by decide), cw_up_n (j := 1) (by decide)]; omega
  refine ⟨⟨fun j hj => ⟨cw_up_8 hc h8 j hj, ?_⟩, by omega, fun j hj => ?_, cw_K_ev hp hc h8 hK⟩, hs⟩
  · by_cases e : j = p
    · subst e
      rw [pk_us, cw_up_s]
    · rw [pk_un e, cw_up_n e]
      exact (hC j hj).2
  · obtain ⟨s, e, h1, h2, h3, h4⟩ := hM j hj
    exact ⟨s, e, h1, Nat.le_trans h2 (cw_up_le C p s), h3, h4⟩
theorem cw_I_sd {C : Nat → Nat} {cn kn sd se : Nat → Int32} {m p : Nat} (hp : p < 3) (h : cw_I C cn kn sd se m) (hm : m + 1 ≤ C 0 + C 1 + C 2) : cw_I C cn kn (upd sd m (nI p)) (upd se m (nI (C p))) (m + 1) := by
  obtain ⟨hC, _, hM, hK⟩ := h
  refine ⟨hC, hm, fun j hj => ?_, hK⟩
  by_cases e : j = m
  · subst e
    exact ⟨p, C p, hp, Nat.le_refl _, pk_us, pk_us⟩
  · rw [pk_un e, pk_un e]
    exact hM j (by omega)
theorem cw_I_24 {C : Nat → Nat} {cn kn sd se : Nat → Int32} {m : Nat} (h : cw_I C cn kn sd se m) : m ≤ 24 := by
  have h0 := (h.1 0 (by decide)).1
  have h1 := (h.1 1 (by decide)).1
  have h2 := (h.1 2 (by decide)).1
  have := h.2.1
  omega
