section
/-! rows of kit/rows/PURE-ROWS, pasted -/
theorem pk_us {f : Nat → Int32} {k : Nat} {x : Int32} : upd f k x k = x := if_pos rfl
theorem pk_un {f : Nat → Int32} {k j : Nat} {x : Int32} (h : j ≠ k) : upd f k x j = f j := if_neg h
theorem pk_sub {a b : Nat} (h : b ≤ a) : nI a - nI b = nI (a - b) := by
  obtain ⟨c, rfl⟩ : ∃ c, a = c + b := ⟨a - b, by omega⟩
  rw [← nI_add, Int32.add_sub_cancel, Nat.add_sub_cancel]
theorem pk_mul (a b : Nat) : nI a * nI b = nI (a * b) := (Int32.ofNat_mul a b).symm
theorem pk_div {a d : Nat} (ha : a < 2 ^ 31) (h0 : 0 < d) (hd : d < 2 ^ 31) : nI a / nI d = nI (a / d) := by
  apply Int32.toInt_inj.mp
  rw [lg_idiv_nonneg (by rw [nI_toInt ha]; omega) (by rw [nI_toInt hd]; omega), nI_toInt ha, nI_toInt hd, nI_toInt (Nat.lt_of_le_of_lt (Nat.div_le_self a d) ha)]
  first | rfl | exact (Int.natCast_ediv _ _).symm
theorem pk_rem {a d : Nat} (ha : a < 2 ^ 31) (h0 : 0 < d) (hd : d < 2 ^ 31) : nI a - nI a / nI d * nI d = nI (a % d) := by
  rw [pk_div ha h0 hd, pk_mul, pk_sub (Nat.div_mul_le_self a d)]
  exact congrArg nI (by have := Nat.div_add_mod' a d; omega)
theorem pk_ix (x : Int32) {n : Nat} (hn : n < 2 ^ 31) : x < 0 ∨ nI n ≤ x ∨ ∃ j : Nat, j < n ∧ x = nI j := by
  by_cases h : x < 0
  · exact Or.inl h
  · obtain ⟨j, hj, rfl⟩ := nI_of h
    by_cases h2 : j < n
    · exact Or.inr (Or.inr ⟨j, h2, rfl⟩)
    · exact Or.inr (Or.inl (nI_le (by omega) hj))

/-! a counted walk: from k on, d steps -/
def cw_fr {σ : Type} (g : Nat → σ → σ) : Nat → Nat → σ → σ
  | _, 0, s => s
  | k, d + 1, s => cw_fr g (k + 1) d (g k s)
theorem cw_fr0 {σ : Type} (g : Nat → σ → σ) (k : Nat) (s : σ) : cw_fr g k 0 s = s := by
  unfold cw_fr; rfl
theorem cw_frS {σ : Type} (g : Nat → σ → σ) (k d : Nat) (s : σ) : cw_fr g k (d + 1) s = cw_fr g (k + 1) d (g k s) := by
  conv => lhs; unfold cw_fr
theorem cw_fr_add {σ : Type} (g : Nat → σ → σ) (b : Nat) : ∀ (a k : Nat) (s : σ), cw_fr g k (a + b) s = cw_fr g (k + a) b (cw_fr g k a s) := by
  intro a
  induction a with
  | zero => intro k s; rw [Nat.zero_add, cw_fr0, Nat.add_zero]
  | succ a ih =>
    intro k s
    rw [Nat.add_right_comm a 1 b, cw_frS, cw_frS, ih, Nat.add_assoc k 1 a, Nat.add_comm 1 a]
theorem cw_fr_cong {σ : Type} (g g' : Nat → σ → σ) : ∀ (d k : Nat) (s : σ), (∀ j s, k ≤ j → j < k + d → g j s = g' j s) → cw_fr g k d s = cw_fr g' k d s := by
  intro d
  induction d with
  | zero => intro k s _; rw [cw_fr0, cw_fr0]
  | succ d ih =>
    intro k s h
    rw [cw_frS, cw_frS, h k s (Nat.le_refl k) (by omega)]
    exact ih (k + 1) _ (fun j s h1 h2 => h j s (by omega) (by omega))
theorem cw_fr_id {σ : Type} (g : Nat → σ → σ) : ∀ (d k : Nat) (s : σ), (∀ j s, k ≤ j → j < k + d → g j s = s) → cw_fr g k d s = s := by
  intro d
  induction d with
  | zero => intro k s _; rw [cw_fr0]
  | succ d ih =>
    intro k s h
    rw [cw_frS, h k s (Nat.le_refl k) (by omega)]
    exact ih (k + 1) _ (fun j s h1 h2 => h j s (by omega) (by omega))
theorem cw_fr_sh {σ : Type} (g : Nat → σ → σ) (b : Nat) : ∀ (d k : Nat) (s : σ), cw_fr g (b + k) d s = cw_fr (fun j => g (b + j)) k d s := by
  intro d
  induction d with
  | zero => intro k s; rw [cw_fr0, cw_fr0]
  | succ d ih => intro k s; rw [cw_frS, cw_frS]; exact ih (k + 1) (g (b + k) s)
theorem cw_fr_blk {σ : Type} (g : Nat → σ → σ) (a : Nat) : ∀ (n k : Nat) (s : σ), cw_fr g (a * k) (a * n) s = cw_fr (fun i => cw_fr g (a * i) a) k n s := by
  intro n
  induction n with
  | zero => intro k s; rw [Nat.mul_zero, cw_fr0, cw_fr0]
  | succ n ih =>
    intro k s
    rw [cw_frS, Nat.mul_succ a n, Nat.add_comm (a * n) a, cw_fr_add, ← Nat.mul_succ]
    exact ih (k + 1) _
theorem cw_fr_cut {σ : Type} (g : Nat → σ → σ) (c : Nat) (hc : c ≤ 8) (s : σ) (h : ∀ j s, c < j → j < 9 → g j s = s) : cw_fr g 0 9 s = cw_fr g 0 (c + 1) s := by
  have e := cw_fr_add g (8 - c) (c + 1) 0 s
  rw [show (c + 1) + (8 - c) = 9 by omega] at e
  rw [e]
  exact cw_fr_id g _ _ _ (fun j s h1 h2 => h j s (by omega) (by omega))

/-! the cuts within the counts, one after the other, as three nested walks -/
def cw_in (c0 c1 c2 c : Nat) : Bool := decide (c / 81 ≤ c0) && decide (c / 9 % 9 ≤ c1) && decide (c % 9 ≤ c2)
def cw_hx {σ : Type} (c0 c1 c2 : Nat) (H : Nat → Nat → Nat → σ → σ) (c : Nat) (s : σ) : σ := if cw_in c0 c1 c2 c = true then H (c / 81) (c / 9 % 9) (c % 9) s else s
theorem cw_hx_t {σ : Type} {c0 c1 c2 : Nat} {H : Nat → Nat → Nat → σ → σ} {s : σ} (k0 k1 k2 : Nat) (h1 : k1 < 9) (h2 : k2 < 9) (l0 : k0 ≤ c0) (l1 : k1 ≤ c1) (l2 : k2 ≤ c2) : cw_hx c0 c1 c2 H (9 * (9 * k0 + k1) + k2) s = H k0 k1 k2 s := by
  have e0 : (9 * (9 * k0 + k1) + k2) / 81 = k0 := by omega
  have e1 : (9 * (9 * k0 + k1) + k2) / 9 % 9 = k1 := by omega
  have e2 : (9 * (9 * k0 + k1) + k2) % 9 = k2 := by omega
  unfold cw_hx cw_in
  rw [e0, e1, e2]
  simp [l0, l1, l2]
theorem cw_hx_f {σ : Type} {c0 c1 c2 : Nat} {H : Nat → Nat → Nat → σ → σ} {s : σ} (k0 k1 k2 : Nat) (h1 : k1 < 9) (h2 : k2 < 9) (l : c0 < k0 ∨ c1 < k1 ∨ c2 < k2) : cw_hx c0 c1 c2 H (9 * (9 * k0 + k1) + k2) s = s := by
  have e0 : (9 * (9 * k0 + k1) + k2) / 81 = k0 := by omega
  have e1 : (9 * (9 * k0 + k1) + k2) / 9 % 9 = k1 := by omega
  have e2 : (9 * (9 * k0 + k1) + k2) % 9 = k2 := by omega
  unfold cw_hx cw_in
  rw [e0, e1, e2]
  refine if_neg ?_
  simp
  omega
theorem cw_n2 {σ : Type} (c0 c1 c2 : Nat) (h2 : c2 ≤ 8) (H : Nat → Nat → Nat → σ → σ) (k0 k1 : Nat) (l0 : k0 ≤ c0) (l1 : k1 ≤ c1) (h1 : c1 ≤ 8) (s : σ) : cw_fr (cw_hx c0 c1 c2 H) (9 * (9 * k0 + k1)) 9 s = cw_fr (H k0 k1) 0 (c2 + 1) s := by
  have e := cw_fr_sh (cw_hx c0 c1 c2 H) (9 * (9 * k0 + k1)) 9 0 s
  rw [Nat.add_zero] at e
  rw [e, cw_fr_cut _ c2 h2 s (fun j s hj h9 => cw_hx_f k0 k1 j (by omega) h9 (Or.inr (Or.inr hj)))]
  exact cw_fr_cong _ _ _ _ _ (fun j s _ hj => cw_hx_t k0 k1 j (by omega) (by omega) l0 l1 (by omega))
theorem cw_n2f {σ : Type} (c0 c1 c2 : Nat) (H : Nat → Nat → Nat → σ → σ) (k0 k1 : Nat) (h1 : k1 < 9) (l : c0 < k0 ∨ c1 < k1) (s : σ) : cw_fr (cw_hx c0 c1 c2 H) (9 * (9 * k0 + k1)) 9 s = s := by
  have e := cw_fr_sh (cw_hx c0 c1 c2 H) (9 * (9 * k0 + k1)) 9 0 s
  rw [Nat.add_zero] at e
  rw [e]
  exact cw_fr_id _ _ _ _ (fun j s _ hj => cw_hx_f k0 k1 j h1 (by omega) (by omega))
theorem cw_n1e {σ : Type} (h : Nat → σ → σ) (k0 : Nat) (s : σ) : cw_fr h (81 * k0) 81 s = cw_fr (fun j => cw_fr h (9 * (9 * k0 + j)) 9) 0 9 s := by
  have e := cw_fr_blk h 9 9 (9 * k0) s
  have e2 := cw_fr_sh (fun i => cw_fr h (9 * i) 9) (9 * k0) 9 0 s
  rw [Nat.add_zero] at e2
  rw [show 81 * k0 = 9 * (9 * k0) by omega]
  exact e.trans e2
theorem cw_n1 {σ : Type} (c0 c1 c2 : Nat) (h1 : c1 ≤ 8) (h2 : c2 ≤ 8) (H : Nat → Nat → Nat → σ → σ) (k0 : Nat) (l0 : k0 ≤ c0) (s : σ) : cw_fr (cw_hx c0 c1 c2 H) (81 * k0) 81 s = cw_fr (fun k1 => cw_fr (H k0 k1) 0 (c2 + 1)) 0 (c1 + 1) s := by
  rw [cw_n1e, cw_fr_cut _ c1 h1 s (fun j s hj h9 => cw_n2f c0 c1 c2 H k0 j h9 (Or.inr hj) s)]
  exact cw_fr_cong _ _ _ _ _ (fun j s _ hj => cw_n2 c0 c1 c2 h2 H k0 j l0 (by omega) h1 s)
theorem cw_n1f {σ : Type} (c0 c1 c2 : Nat) (H : Nat → Nat → Nat → σ → σ) (k0 : Nat) (l0 : c0 < k0) (s : σ) : cw_fr (cw_hx c0 c1 c2 H) (81 * k0) 81 s = s := by
  rw [cw_n1e]
  exact cw_fr_id _ _ _ _ (fun j s _ hj => cw_n2f c0 c1 c2 H k0 j (by omega) (Or.inl l0) s)
theorem cw_nest {σ : Type} (c0 c1 c2 : Nat) (h0 : c0 ≤ 8) (h1 : c1 ≤ 8) (h2 : c2 ≤ 8) (H : Nat → Nat → Nat → σ → σ) (s : σ) : cw_fr (cw_hx c0 c1 c2 H) 0 729 s = cw_fr (fun k0 => cw_fr (fun k1 => cw_fr (H k0 k1) 0 (c2 + 1)) 0 (c1 + 1)) 0 (c0 + 1) s := by
  have e := cw_fr_blk (cw_hx c0 c1 c2 H) 81 9 0 s
  refine e.trans ?_
  rw [cw_fr_cut _ c0 h0 s (fun j s hj _ => cw_n1f c0 c1 c2 H j hj s)]
  exact cw_fr_cong _ _ _ _ _ (fun j s _ hj => cw_n1 c0 c1 c2 h1 h2 H j (by omega) s)

/-! a counted loop's walk -/
theorem cw_lp {σ : Type} (g : Nat → σ → σ) (c : Nat) (W : Nat → σ → Nat → Prop) (J : σ → Prop) (hx : ∀ n s, J s → W (n + 1) s (c + 1)) (hs : ∀ n s k, k ≤ c → W n (g k s) (k + 1) → W (n + 1) s k) (s : σ) (h : J (cw_fr g 0 (c + 1) s)) : W (c + 2) s 0 := by
  have A : ∀ (d k : Nat) (s : σ), k + d = c + 1 → J (cw_fr g k d s) → W (d + 1) s k := by
    intro d
    induction d with
    | zero =>
      intro k s e h
      rw [cw_fr0] at h
      have : k = c + 1 := by omega
      subst this
      exact hx 0 s h
    | succ d ih =>
      intro k s e h
      rw [cw_frS] at h
      exact hs (d + 1) s k (by omega) (ih (k + 1) _ (by omega) h)
  exact A (c + 1) 0 s (by omega) h
end
section
/-! indices and small numbers -/
def cw_ix (p k q : Nat) : Nat := (p * 9 + k) * 3 + q
def cw_ct (a b c : Nat) : Nat := (a * 9 + b) * 9 + c
theorem cw_ixl {p k q : Nat} (hp : p < 3) (hk : k < 9) (hq : q < 3) : cw_ix p k q < 81 := by unfold cw_ix; omega
theorem cw_ctl {a b c : Nat} (ha : a < 9) (hb : b < 9) (hc : c < 9) : cw_ct a b c < 729 := by unfold cw_ct; omega
theorem cw_ct_of (c : Nat) (h : c < 729) : cw_ct (c / 81) (c / 9 % 9) (c % 9) = c := by unfold cw_ct; omega
theorem cw_xi (p k q : Nat) : ((nI p * 9) + nI k) * 3 + nI q = nI (cw_ix p k q) := by
  show ((nI p * nI 9) + nI k) * nI 3 + nI q = _
  rw [pk_mul, nI_add, pk_mul, nI_add]; rfl
theorem cw_yi (p k q : Nat) : ((27 * nI p) + (3 * nI k)) + nI q = nI (cw_ix p k q) := by
  show ((nI 27 * nI p) + (nI 3 * nI k)) + nI q = _
  rw [pk_mul, pk_mul, nI_add, nI_add]
  exact congrArg nI (by unfold cw_ix; omega)
theorem cw_xs (p k : Nat) : (nI p * 9) + nI k = nI (p * 9 + k) := by
  show (nI p * nI 9) + nI k = _
  rw [pk_mul, nI_add]
theorem cw_ys (p k : Nat) : (9 * nI p) + nI k = nI (p * 9 + k) := by
  show (nI 9 * nI p) + nI k = _
  rw [pk_mul, nI_add, Nat.mul_comm]
theorem cw_y0 (p : Nat) : 9 * nI p = nI (p * 9 + 0) := by
  show nI 9 * nI p = _
  rw [pk_mul, Nat.mul_comm, Nat.add_zero]
theorem cw_xc (a b c : Nat) : ((nI a * 9) + nI b) * 9 + nI c = nI (cw_ct a b c) := by
  show ((nI a * nI 9) + nI b) * nI 9 + nI c = _
  rw [pk_mul, nI_add, pk_mul, nI_add]; rfl
theorem cw_kX {post : Int32 → Prop} {x y z : Int32} (p k q : Nat) (hx : x = nI p) (hy : y = nI k) (hz : z = nI q) (h : post (nI (cw_ix p k q))) : wpX_knownIndex post x y z := by
  subst hx hy hz; unfold wpX_knownIndex; rw [cw_xi]; exact h
theorem cw_sX {post : Int32 → Prop} {x y : Int32} (p k : Nat) (hx : x = nI p) (hy : y = nI k) (h : post (nI (p * 9 + k))) : wpX_stateIndex post x y := by
  subst hx hy; unfold wpX_stateIndex; rw [cw_xs]; exact h
theorem cw_cX {post : Int32 → Prop} {x y z : Int32} (a b c : Nat) (hx : x = nI a) (hy : y = nI b) (hz : z = nI c) (h : post (nI (cw_ct a b c))) : wpX_cutIndex post x y z := by
  subst hx hy hz; unfold wpX_cutIndex; rw [cw_xc]; exact h
theorem cw_3le {q : Nat} (h : q < 3) : ¬ (3 : Int32) ≤ nI q := nI_ge (b := 3) h (by decide)

/-! answers that are yes or no -/
def cw_b (b : Bool) : Int32 := if b = true then 1 else 0
theorem cw_br {b : Bool} {A B : Prop} (f : b = false → A) (g : b = true → B) : (cw_b b = 0 → A) ∧ (¬ cw_b b = 0 → B) := by
  cases b
  · exact br_t rfl (f rfl)
  · exact br_f (by decide) (g rfl)

/-! the guards -/
theorem cw_pX {post : Int32 → Prop} {p : Nat} (hp : p < 3) (h : post 1) : wpX_isProcess post (nI p) :=
  br_f (nI_pos (by omega)) (br_f (cw_3le hp) h)
theorem cw_pY {post : Int32 → Prop} {p : Nat} (hp : p < 3) (h : post 0) : wpY_bad post (nI p) :=
  br_f (nI_pos (by omega)) (br_t (nI_le (b := 2) (by omega) (by decide)) h)
theorem cw_proc (x : Int32) : (∃ p : Nat, p < 3 ∧ x = nI p) ∨ ((∀ post : Int32 → Prop, post 0 → wpX_isProcess post x) ∧ (∀ post : Int32 → Prop, post 1 → wpY_bad post x)) := by
  rcases pk_ix x (n := 3) (by decide) with h | h | h
  · exact Or.inr ⟨fun _ hp => br_t h hp, fun _ hp => br_t h hp⟩
  · have h0 : ¬ x < 0 := Int32.not_lt.mpr (Int32.le_trans (nI_pos' (n := 3) (by decide)) h)
    have h2 : ¬ x ≤ 2 := by
      intro h3
      exact absurd (Int32.le_trans h h3) (by decide)
    exact Or.inr ⟨fun _ hp => br_f h0 (br_t h hp), fun _ hp => br_f h0 (br_f h2 hp)⟩
  · exact Or.inl h
theorem cw_tX {post : Int32 → Prop} {s : Nat} (h1 : 1 ≤ s) (h7 : s ≤ 7) (h : post 1) : wpX_isSet post (nI s) :=
  br_f (nI_nlt (b := 1) h1 (by omega)) (br_f (nI_nlt (a := 7) h7 (by decide)) h)
theorem cw_tY {post : Int32 → Prop} {s : Nat} (h1 : 1 ≤ s) (h7 : s ≤ 7) (h : post 0) : wpY_badSet post (nI s) :=
  br_f (nI_nlt (b := 1) h1 (by omega)) (br_t (nI_le (b := 7) h7 (by decide)) h)
theorem cw_set (x : Int32) : (∃ s : Nat, 1 ≤ s ∧ s ≤ 7 ∧ x = nI s) ∨ ((∀ post : Int32 → Prop, post 0 → wpX_isSet post x) ∧ (∀ post : Int32 → Prop, post 1 → wpY_badSet post x)) := by
  by_cases h1 : x < 1
  · exact Or.inr ⟨fun _ hp => br_t h1 hp, fun _ hp => br_t h1 hp⟩
  · by_cases h7 : x ≤ 7
    · have h0 : ¬ x < 0 := by
        intro h
        exact h1 (Int32.lt_trans h (by decide))
      obtain ⟨j, hj, rfl⟩ := nI_of2 (M := 7) (n := 7) (by decide) h0 h7
      refine Or.inl ⟨j, ?_, hj, rfl⟩
      rcases Nat.eq_zero_or_pos j with e | e
      · subst e; exact absurd (by decide) h1
      · exact e
    · exact Or.inr ⟨fun _ hp => br_f h1 (br_t (Int32.not_le.mp h7) hp), fun _ hp => br_f h1 (br_f h7 hp)⟩

/-! what a process in a state knows, against a cut -/
def cw_rw (kn : Nat → Int32) (p k k0 k1 k2 : Nat) : Bool := decide (kn (cw_ix p k 0) ≤ nI k0) && decide (kn (cw_ix p k 1) ≤ nI k1) && decide (kn (cw_ix p k 2) ≤ nI k2)
def cw_ps (kn : Nat → Int32) (k0 k1 k2 : Nat) : Bool := cw_rw kn 0 k0 k0 k1 k2 && cw_rw kn 1 k1 k0 k1 k2 && cw_rw kn 2 k2 k0 k1 k2
section
variable (f : Int32) (cn gd kn sd se rc av : Nat → Int32)
theorem cw_nmX {post : Int32 → Prop} (p k k0 k1 k2 : Nat) (hp : p < 3) (hk : k < 9) (h : post (cw_b (cw_rw kn p k k0 k1 k2))) : wpX_knowsNoMore post (f, cn, gd, kn, sd, se, rc, av) (nI p) (nI k) (nI k0) (nI k1) (nI k2) := by
  unfold wpX_knowsNoMore
  dsimp only
  refine cw_kX p k 0 rfl rfl rfl ?_
  have l0 : cw_ix p k 0 < 81 := cw_ixl hp hk (by decide)
  have l1 : cw_ix p k 1 < 81 := cw_ixl hp hk (by decide)
  have l2 : cw_ix p k 2 < 81 := cw_ixl hp hk (by decide)
  have e1 : nI (cw_ix p k 0) + 1 = nI (cw_ix p k 1) := nI_1 _
  have e2 : nI (cw_ix p k 0) + 2 = nI (cw_ix p k 2) := nI_add _ 2
  rw [e1, e2, nI_clamp (n := cw_ix p k 0) (by omega), nI_clamp (n := cw_ix p k 1) (by omega), nI_clamp (n := cw_ix p k 2) (by omega)]
  unfold cw_rw at h
  refine ⟨vp_in_nI l0 (by decide), br_c (fun g0 => ?_) (fun g0 => ⟨vp_in_nI l1 (by decide), br_c (fun g1 => ?_) (fun g1 => ⟨vp_in_nI l2 (by decide), br_c (fun g2 => ?_) (fun g2 => ?_)⟩)⟩)⟩
  · rw [decide_eq_false (Int32.not_le.mpr g0)] at h; exact h
  · rw [decide_eq_false (Int32.not_le.mpr g1), Bool.and_false] at h; exact h
  · rw [decide_eq_false (Int32.not_le.mpr g2), Bool.and_false] at h; exact h
  · rw [decide_eq_true (Int32.not_lt.mp g0), decide_eq_true (Int32.not_lt.mp g1), decide_eq_true (Int32.not_lt.mp g2)] at h; exact h
theorem cw_psX {post : Int32 → Prop} (k0 k1 k2 : Nat) (h0 : k0 < 9) (h1 : k1 < 9) (h2 : k2 < 9) (h : post (cw_b (cw_ps kn k0 k1 k2))) : wpX_isPossible post (f, cn, gd, kn, sd, se, rc, av) (nI k0) (nI k1) (nI k2) := by
  unfold wpX_isPossible
  dsimp only
  unfold cw_ps at h
  refine cw_nmX f cn gd kn sd se rc av 0 k0 k0 k1 k2 (by decide) h0 (cw_br (fun e => ?_) (fun e => ?_))
  · rw [e] at h; exact h
  refine cw_nmX f cn gd kn sd se rc av 1 k1 k0 k1 k2 (by decide) h1 (cw_br (fun e1 => ?_) (fun e1 => ?_))
  · rw [e, e1] at h; exact h
  refine cw_nmX f cn gd kn sd se rc av 2 k2 k0 k1 k2 (by decide) h2 (cw_br (fun e2 => ?_) (fun e2 => ?_))
  · rw [e, e1, e2] at h; exact h
  · rw [e, e1, e2] at h; exact h
end

/-! good -/
def cw_bt (s p : Nat) : Bool := decide (((nI s >>> (nI p &&& 31)) &&& 1) = 1)
def cw_go (gd : Nat → Int32) (s p k : Nat) : Bool := !cw_bt s p || !decide (gd (p * 9 + k) = 0)
def cw_gs (gd : Nat → Int32) (s k0 k1 k2 : Nat) : Bool := cw_go gd s 0 k0 && cw_go gd s 1 k1 && cw_go gd s 2 k2
theorem cw_bt0 : ∀ s, s < 8 → ((nI s &&& 1 = 0) ↔ cw_bt s 0 = false) := by decide +kernel
theorem cw_bt1 : ∀ s, s < 8 → ((nI s &&& 2 = 0) ↔ cw_bt s 1 = false) := by decide +kernel
theorem cw_bt2 : ∀ s, s < 8 → ((nI s &&& 4 = 0) ↔ cw_bt s 2 = false) := by decide +kernel
section
variable (f : Int32) (cn gd kn sd se rc av : Nat → Int32)
theorem cw_g38 {post : Int32 → Prop} (s k2 : Nat) (hs : s < 8) (h2 : k2 < 9) (h : post (cw_b (cw_go gd s 2 k2))) : wX_isGood_38 post (nI s) (nI k2) f cn gd kn sd se rc av := by
  unfold wX_isGood_38
  unfold cw_go at h
  refine br_c (fun g => ?_) (fun g => ?_)
  · rw [(cw_bt2 s hs).mp g] at h; exact h
  · have g' : cw_bt s 2 = true := by
      cases e : cw_bt s 2
      · exact absurd ((cw_bt2 s hs).mpr e) g
      · rfl
    rw [g'] at h
    refine cw_sX 2 k2 rfl rfl ?_
    rw [nI_clamp (n := 2 * 9 + k2) (by omega)]
    refine ⟨vp_in_nI (by omega) (by decide), br_c (fun z => ?_) (fun z => ?_)⟩
    · rw [decide_eq_true z] at h; exact h
    · rw [decide_eq_false z] at h; exact h
theorem cw_g19 {post : Int32 → Prop} (s k1 k2 : Nat) (hs : s < 8) (h1 : k1 < 9) (h2 : k2 < 9) (h : post (cw_b (cw_go gd s 1 k1 && cw_go gd s 2 k2))) : wX_isGood_19 post (nI s) (nI k1) (nI k2) f cn gd kn sd se rc av := by
  unfold wX_isGood_19
  refine br_c (fun g => ?_) (fun g => ?_)
  · refine cw_g38 f cn gd kn sd se rc av s k2 hs h2 ?_
    rw [show cw_go gd s 1 k1 = true by unfold cw_go; rw [(cw_bt1 s hs).mp g]; rfl] at h; exact h
  · have g' : cw_bt s 1 = true := by
      cases e : cw_bt s 1
      · exact absurd ((cw_bt1 s hs).mpr e) g
      · rfl
    refine cw_sX 1 k1 rfl rfl ?_
    rw [nI_clamp (n := 1 * 9 + k1) (by omega)]
    refine ⟨vp_in_nI (by omega) (by decide), br_c (fun z => ?_) (fun z => ?_)⟩
    · rw [show cw_go gd s 1 k1 = false by unfold cw_go; rw [g', decide_eq_true z]; rfl] at h; exact h
    · rw [show cw_go gd s 1 k1 = true by unfold cw_go; rw [g', decide_eq_false z]; rfl] at h
      exact cw_g38 f cn gd kn sd se rc av s k2 hs h2 h
theorem cw_gsX {post : Int32 → Prop} (s k0 k1 k2 : Nat) (hs : s < 8) (h0 : k0 < 9) (h1 : k1 < 9) (h2 : k2 < 9) (h : post (cw_b (cw_gs gd s k0 k1 k2))) : wpX_isGood post (f, cn, gd, kn, sd, se, rc, av) (nI s) (nI k0) (nI k1) (nI k2) := by
  unfold wpX_isGood
  dsimp only
  unfold cw_gs at h
  rw [Bool.and_assoc] at h
  refine br_c (fun g => ?_) (fun g => ?_)
  · refine cw_g19 f cn gd kn sd se rc av s k1 k2 hs h1 h2 ?_
    rw [show cw_go gd s 0 k0 = true by unfold cw_go; rw [(cw_bt0 s hs).mp g]; rfl] at h; exact h
  · have g' : cw_bt s 0 = true := by
      cases e : cw_bt s 0
      · exact absurd ((cw_bt0 s hs).mpr e) g
      · rfl
    refine cw_sX 0 k0 rfl rfl ?_
    rw [nI_clamp (n := 0 * 9 + k0) (by omega)]
    refine ⟨vp_in_nI (by omega) (by decide), br_c (fun z => ?_) (fun z => ?_)⟩
    · rw [show cw_go gd s 0 k0 = false by unfold cw_go; rw [g', decide_eq_true z]; rfl] at h; exact h
    · rw [show cw_go gd s 0 k0 = true by unfold cw_go; rw [g', decide_eq_false z]; rfl] at h
      exact cw_g19 f cn gd kn sd se rc av s k1 k2 hs h1 h2 h
end
end
section
/-! the reference reads a cut's states out of one number -/
def cw_sl (p k0 k1 k2 : Nat) : Nat := if p = 0 then k0 else if p = 1 then k1 else k2
theorem cw_soY {post : Int32 → Prop} (p k0 k1 k2 : Nat) (hp : p < 3) (h0 : k0 < 9) (h1 : k1 < 9) (h2 : k2 < 9) (h : post (nI (cw_sl p k0 k1 k2))) : wpY_stateOf post (nI (cw_ct k0 k1 k2)) (nI p) := by
  have l : cw_ct k0 k1 k2 < 729 := cw_ctl h0 h1 h2
  have e9 : nI (cw_ct k0 k1 k2) / 9 = nI (cw_ct k0 k1 k2 / 9) := pk_div (d := 9) (by omega) (by decide) (by decide)
  have hp' : p = 0 ∨ p = 1 ∨ p = 2 := by omega
  rcases hp' with e | e | e
  · subst e
    refine br_t rfl ⟨by decide, ?_⟩
    have e : nI (cw_ct k0 k1 k2) / 81 = nI k0 := (pk_div (d := 81) (by omega) (by decide) (by decide)).trans (congrArg nI (by unfold cw_ct; omega))
    rw [e]; exact h
  · subst e
    refine br_f (by decide) (br_t rfl ⟨by decide, by decide, ?_⟩)
    rw [e9]
    have e : nI (cw_ct k0 k1 k2 / 9) - nI (cw_ct k0 k1 k2 / 9) / 9 * 9 = nI k1 := (pk_rem (d := 9) (by omega) (by decide) (by decide)).trans (congrArg nI (by unfold cw_ct; omega))
    rw [e]; exact h
  · subst e
    refine br_f (by decide) (br_f (by decide) ⟨by decide, ?_⟩)
    have e : nI (cw_ct k0 k1 k2) - nI (cw_ct k0 k1 k2) / 9 * 9 = nI k2 := (pk_rem (d := 9) (by omega) (by decide) (by decide)).trans (congrArg nI (by unfold cw_ct; omega))
    rw [e]; exact h
theorem cw_sl_lt {p k0 k1 k2 : Nat} (h0 : k0 < 9) (h1 : k1 < 9) (h2 : k2 < 9) : cw_sl p k0 k1 k2 < 9 := by
  unfold cw_sl
  split
  · exact h0
  · split
    · exact h1
    · exact h2
section
variable (f : Int32) (cn gd kn sd se rc av : Nat → Int32)
theorem cw_p28s {post J2 : Int32 → Prop} (n p k q k0 k1 k2 : Nat) (hp : p < 3) (hk : k < 9) (hq : q < 3) (h0 : k0 < 9) (h1 : k1 < 9) (h2 : k2 < 9) (ht : kn (cw_ix p k q) ≤ nI (cw_sl q k0 k1 k2) → wY_possible_28 post J2 (nI (cw_ct k0 k1 k2)) (nI p) (nI k) f cn gd kn sd se rc av n (nI (q + 1))) (hf : ¬ kn (cw_ix p k q) ≤ nI (cw_sl q k0 k1 k2) → post 0) : wY_possible_28 post J2 (nI (cw_ct k0 k1 k2)) (nI p) (nI k) f cn gd kn sd se rc av (n + 1) (nI q) := by
  have l : cw_ix p k q < 81 := cw_ixl hp hk hq
  unfold wY_possible_28
  refine br_f (cw_3le hq) ?_
  rw [cw_yi, nI_clamp (n := cw_ix p k q) (by omega)]
  exact ⟨vp_in_nI l (by decide), cw_soY q k0 k1 k2 hq h0 h1 h2 (br_c (fun g => nm_r (nI_1 q) (ht g)) hf)⟩
theorem cw_p28 {post J2 : Int32 → Prop} (p k k0 k1 k2 : Nat) (hp : p < 3) (hk : k < 9) (h0 : k0 < 9) (h1 : k1 < 9) (h2 : k2 < 9) (ht : cw_rw kn p k k0 k1 k2 = true → J2 (nI (p + 1))) (hf : cw_rw kn p k k0 k1 k2 = false → post 0) : wY_possible_28 post J2 (nI (cw_ct k0 k1 k2)) (nI p) (nI k) f cn gd kn sd se rc av 4 (nI 0) := by
  unfold cw_rw at ht hf
  refine cw_p28s f cn gd kn sd se rc av 3 p k 0 k0 k1 k2 hp hk (by decide) h0 h1 h2 (fun g0 => ?_) (fun g0 => ?_)
  · refine cw_p28s f cn gd kn sd se rc av 2 p k 1 k0 k1 k2 hp hk (by decide) h0 h1 h2 (fun g1 => ?_) (fun g1 => ?_)
    · refine cw_p28s f cn gd kn sd se rc av 1 p k 2 k0 k1 k2 hp hk (by decide) h0 h1 h2 (fun g2 => ?_) (fun g2 => ?_)
      · unfold wY_possible_28
        refine br_t (nI_le (a := 3) (b := 3) (by decide) (by decide)) (nm_r (nI_1 p) (ht ?_))
        rw [decide_eq_true (p := kn (cw_ix p k 0) ≤ nI k0) g0, decide_eq_true (p := kn (cw_ix p k 1) ≤ nI k1) g1, decide_eq_true (p := kn (cw_ix p k 2) ≤ nI k2) g2]; rfl
      · exact hf (by rw [decide_eq_false (p := kn (cw_ix p k 2) ≤ nI k2) g2, Bool.and_false])
    · exact hf (by rw [decide_eq_false (p := kn (cw_ix p k 1) ≤ nI k1) g1, Bool.and_false, Bool.false_and])
  · exact hf (by rw [decide_eq_false (p := kn (cw_ix p k 0) ≤ nI k0) g0]; rfl)
/-- within the count, and knowing no more than the cut has -/
def cw_ok1 (C : Nat → Nat) (kn : Nat → Int32) (p k0 k1 k2 : Nat) : Bool := decide (cw_sl p k0 k1 k2 ≤ C p) && cw_rw kn p (cw_sl p k0 k1 k2) k0 k1 k2
def cw_ok (C : Nat → Nat) (kn : Nat → Int32) (k0 k1 k2 : Nat) : Bool := cw_ok1 C kn 0 k0 k1 k2 && cw_ok1 C kn 1 k0 k1 k2 && cw_ok1 C kn 2 k0 k1 k2
theorem cw_p2s {post : Int32 → Prop} (C : Nat → Nat) (hC : ∀ p, p < 3 → C p ≤ 8 ∧ cn p = nI (C p)) (n p k0 k1 k2 : Nat) (hp : p < 3) (h0 : k0 < 9) (h1 : k1 < 9) (h2 : k2 < 9) (ht : cw_ok1 C kn p k0 k1 k2 = true → wY_possible_2 post (nI (cw_ct k0 k1 k2)) f cn gd kn sd se rc av n (nI (p + 1))) (hf : cw_ok1 C kn p k0 k1 k2 = false → post 0) : wY_possible_2 post (nI (cw_ct k0 k1 k2)) f cn gd kn sd se rc av (n + 1) (nI p) := by
  have l := cw_sl_lt (p := p) h0 h1 h2
  obtain ⟨c8, ec⟩ := hC p hp
  unfold cw_ok1 at ht hf
  unfold wY_possible_2
  refine br_f (cw_3le hp) (cw_soY p k0 k1 k2 hp h0 h1 h2 ⟨vp_in_nI hp (by decide), ?_⟩)
  rw [nI_clamp (n := p) (by omega), ec]
  refine br_c (fun g => ⟨4, ?_⟩) (fun g => ?_)
  · rw [nI_leI (by omega) (by omega)] at g
    rw [decide_eq_true g] at ht hf
    exact cw_p28 f cn gd kn sd se rc av p _ k0 k1 k2 hp l h0 h1 h2 ht hf
  · rw [nI_leI (by omega) (by omega)] at g
    rw [decide_eq_false g] at hf
    exact hf rfl
theorem cw_okY {post : Int32 → Prop} (C : Nat → Nat) (hC : ∀ p, p < 3 → C p ≤ 8 ∧ cn p = nI (C p)) (k0 k1 k2 : Nat) (h0 : k0 < 9) (h1 : k1 < 9) (h2 : k2 < 9) (h : post (cw_b (cw_ok C kn k0 k1 k2))) : wpY_possible post (f, cn, gd, kn, sd, se, rc, av) (nI (cw_ct k0 k1 k2)) := by
  unfold wpY_possible
  dsimp only
  unfold cw_ok at h
  refine ⟨4, ?_⟩
  refine cw_p2s f cn gd kn sd se rc av C hC 3 0 k0 k1 k2 (by decide) h0 h1 h2 (fun g0 => ?_) (fun g0 => ?_)
  · refine cw_p2s f cn gd kn sd se rc av C hC 2 1 k0 k1 k2 (by decide) h0 h1 h2 (fun g1 => ?_) (fun g1 => ?_)
    · refine cw_p2s f cn gd kn sd se rc av C hC 1 2 k0 k1 k2 (by decide) h0 h1 h2 (fun g2 => ?_) (fun g2 => ?_)
      · unfold wY_possible_2
        refine br_t (nI_le (a := 3) (b := 3) (by decide) (by decide)) ?_
        rw [g0, g1, g2] at h; exact h
      · rw [g0, g1, g2] at h; exact h
    · rw [g0, g1] at h; exact h
  · rw [g0] at h; exact h
theorem cw_gYs {post : Int32 → Prop} (n s p k0 k1 k2 : Nat) (hp : p < 3) (h0 : k0 < 9) (h1 : k1 < 9) (h2 : k2 < 9) (ht : cw_go gd s p (cw_sl p k0 k1 k2) = true → wY_isGood_2 post (nI (cw_ct k0 k1 k2)) (nI s) f cn gd kn sd se rc av n (nI (p + 1))) (hf : cw_go gd s p (cw_sl p k0 k1 k2) = false → post 0) : wY_isGood_2 post (nI (cw_ct k0 k1 k2)) (nI s) f cn gd kn sd se rc av (n + 1) (nI p) := by
  have l := cw_sl_lt (p := p) h0 h1 h2
  unfold cw_go cw_bt at ht hf
  unfold wY_isGood_2
  refine br_f (cw_3le hp) (cw_soY p k0 k1 k2 hp h0 h1 h2 (br_c (fun g => ?_) (fun g => ?_)))
  · rw [decide_eq_true g] at ht hf
    rw [cw_ys, nI_clamp (n := p * 9 + cw_sl p k0 k1 k2) (by omega)]
    refine ⟨vp_in_nI (by omega) (by decide), br_c (fun z => ?_) (fun z => ?_)⟩
    · rw [decide_eq_true z] at hf; exact hf rfl
    · rw [decide_eq_false z] at ht; exact nm_r (nI_1 p) (ht rfl)
  · rw [decide_eq_false g] at ht
    exact nm_r (nI_1 p) (ht rfl)
theorem cw_gsY {post : Int32 → Prop} (s k0 k1 k2 : Nat) (h0 : k0 < 9) (h1 : k1 < 9) (h2 : k2 < 9) (h : post (cw_b (cw_gs gd s k0 k1 k2))) : wpY_isGood post (f, cn, gd, kn, sd, se, rc, av) (nI (cw_ct k0 k1 k2)) (nI s) := by
  unfold wpY_isGood
  dsimp only
  unfold cw_gs at h
  refine ⟨4, ?_⟩
  refine cw_gYs f cn gd kn sd se rc av 3 s 0 k0 k1 k2 (by decide) h0 h1 h2 (fun g0 => ?_) (fun g0 => ?_)
  · refine cw_gYs f cn gd kn sd se rc av 2 s 1 k0 k1 k2 (by decide) h0 h1 h2 (fun g1 => ?_) (fun g1 => ?_)
    · refine cw_gYs f cn gd kn sd se rc av 1 s 2 k0 k1 k2 (by decide) h0 h1 h2 (fun g2 => ?_) (fun g2 => ?_)
      · unfold wY_isGood_2
        refine br_t (nI_le (a := 3) (b := 3) (by decide) (by decide)) ?_
        rw [show cw_go gd s 0 k0 = true from g0, show cw_go gd s 1 k1 = true from g1, show cw_go gd s 2 k2 = true from g2] at h; exact h
      · rw [show cw_go gd s 2 k2 = false from g2, Bool.and_false] at h; exact h
    · rw [show cw_go gd s 1 k1 = false from g1, Bool.and_false, Bool.false_and] at h; exact h
  · rw [show cw_go gd s 0 k0 = false from g0] at h; exact h
end

/-! a cut that follows an avoided one -/
def cw_fo1 (a : Nat → Int32) (k c : Nat) : Bool := decide (0 < k) && !decide (a c = 0)
def cw_fo (a : Nat → Int32) (k0 k1 k2 : Nat) : Bool := decide (cw_ct k0 k1 k2 = 0) || (cw_fo1 a k0 (cw_ct (k0 - 1) k1 k2) || (cw_fo1 a k1 (cw_ct k0 (k1 - 1) k2) || cw_fo1 a k2 (cw_ct k0 k1 (k2 - 1))))
section
variable (f : Int32) (cn gd kn sd se rc av : Nat → Int32)
theorem cw_f48 {post : Int32 → Prop} (k0 k1 k2 : Nat) (h0 : k0 < 9) (h1 : k1 < 9) (h2 : k2 < 9) (h : post (cw_b (cw_fo1 av k2 (cw_ct k0 k1 (k2 - 1))))) : wX_followsAvoided_48 post (nI k0) (nI k1) (nI k2) f cn gd kn sd se rc av := by
  unfold wX_followsAvoided_48
  unfold cw_fo1 at h
  rcases Nat.eq_zero_or_pos k2 with e | e
  · subst e
    refine br_t (by decide) ?_
    exact h
  · refine br_f (nI_nle e (by omega)) ?_
    have l : cw_ct k0 k1 (k2 - 1) < 729 := cw_ctl h0 h1 (by omega)
    refine cw_cX k0 k1 (k2 - 1) rfl rfl (pk_sub (b := 1) e) ?_
    rw [nI_clamp (n := cw_ct k0 k1 (k2 - 1)) (by omega)]
    rw [decide_eq_true e] at h
    refine ⟨vp_in_nI l (by decide), br_c (fun z => ?_) (fun z => ?_)⟩
    · rw [decide_eq_true z] at h; exact h
    · rw [decide_eq_false z] at h; exact h
theorem cw_f28 {post : Int32 → Prop} (k0 k1 k2 : Nat) (h0 : k0 < 9) (h1 : k1 < 9) (h2 : k2 < 9) (h : post (cw_b (cw_fo1 av k1 (cw_ct k0 (k1 - 1) k2) || cw_fo1 av k2 (cw_ct k0 k1 (k2 - 1))))) : wX_followsAvoided_28 post (nI k0) (nI k1) (nI k2) f cn gd kn sd se rc av := by
  unfold wX_followsAvoided_28
  rcases Nat.eq_zero_or_pos k1 with e | e
  · subst e
    refine br_t (by decide) ?_
    exact cw_f48 f cn gd kn sd se rc av k0 0 k2 h0 h1 h2 h
  · refine br_f (nI_nle e (by omega)) ?_
    have l : cw_ct k0 (k1 - 1) k2 < 729 := cw_ctl h0 (by omega) h2
    refine cw_cX k0 (k1 - 1) k2 rfl (pk_sub (b := 1) e) rfl ?_
    rw [nI_clamp (n := cw_ct k0 (k1 - 1) k2) (by omega)]
    refine ⟨vp_in_nI l (by decide), br_c (fun z => ?_) (fun z => ?_)⟩
    · refine cw_f48 f cn gd kn sd se rc av k0 k1 k2 h0 h1 h2 ?_
      rw [show cw_fo1 av k1 (cw_ct k0 (k1 - 1) k2) = false by unfold cw_fo1; rw [decide_eq_true z, Bool.not_true, Bool.and_false]] at h; exact h
    · rw [show cw_fo1 av k1 (cw_ct k0 (k1 - 1) k2) = true by unfold cw_fo1; rw [decide_eq_false z, decide_eq_true e]; rfl] at h; exact h
theorem cw_foX {post : Int32 → Prop} (k0 k1 k2 : Nat) (h0 : k0 < 9) (h1 : k1 < 9) (h2 : k2 < 9) (h : post (cw_b (cw_fo av k0 k1 k2))) : wpX_followsAvoided post (f, cn, gd, kn, sd, se, rc, av) (nI k0) (nI k1) (nI k2) := by
  unfold wpX_followsAvoided
  dsimp only
  unfold cw_fo at h
  rw [nI_add, nI_add]
  refine br_c (fun g => ?_) (fun g => ?_)
  · have g' : k0 + k1 + k2 = 0 := (nI_eq (b := 0) (by omega) (by decide)).mp g
    rw [decide_eq_true (show cw_ct k0 k1 k2 = 0 by unfold cw_ct; omega)] at h; exact h
  · have g' : ¬ k0 + k1 + k2 = 0 := fun z => g ((nI_eq (b := 0) (by omega) (by decide)).mpr z)
    rw [decide_eq_false (show ¬ cw_ct k0 k1 k2 = 0 by unfold cw_ct; omega), Bool.false_or] at h
    rcases Nat.eq_zero_or_pos k0 with e | e
    · subst e
      refine br_t (by decide) ?_
      exact cw_f28 f cn gd kn sd se rc av 0 k1 k2 h0 h1 h2 h
    · refine br_f (nI_nle e (by omega)) ?_
      have l : cw_ct (k0 - 1) k1 k2 < 729 := cw_ctl (by omega) h1 h2
      refine cw_cX (k0 - 1) k1 k2 (pk_sub (b := 1) e) rfl rfl ?_
      rw [nI_clamp (n := cw_ct (k0 - 1) k1 k2) (by omega)]
      refine ⟨vp_in_nI l (by decide), br_c (fun z => ?_) (fun z => ?_)⟩
      · refine cw_f28 f cn gd kn sd se rc av k0 k1 k2 h0 h1 h2 ?_
        rw [show cw_fo1 av k0 (cw_ct (k0 - 1) k1 k2) = false by unfold cw_fo1; rw [decide_eq_true z, Bool.not_true, Bool.and_false]] at h; exact h
      · rw [show cw_fo1 av k0 (cw_ct (k0 - 1) k1 k2) = true by unfold cw_fo1; rw [decide_eq_false z, decide_eq_true e]; rfl] at h; exact h
theorem cw_r33 {post J8 : Int32 → Prop} (p c k0 k1 k2 z : Nat) (hp : p < 3) (h0 : k0 < 9) (h1 : k1 < 9) (h2 : k2 < 9) (hz : 0 < cw_sl p k0 k1 k2 → cw_ct k0 k1 k2 - z = c ∧ z ≤ cw_ct k0 k1 k2) (hf : cw_fo1 av (cw_sl p k0 k1 k2) c = false → J8 (nI (p + 1))) (ht : cw_fo1 av (cw_sl p k0 k1 k2) c = true → post 1) : wY_reached_33 post J8 (nI (cw_ct k0 k1 k2)) (nI p) (nI z) f cn gd kn sd se rc av := by
  have l := cw_sl_lt (p := p) h0 h1 h2
  have lc := cw_ctl h0 h1 h2
  unfold wY_reached_33
  unfold cw_fo1 at ht hf
  refine cw_soY p k0 k1 k2 hp h0 h1 h2 (br_c (fun g => ?_) (fun g => ?_))
  · have g' : cw_sl p k0 k1 k2 ≤ 0 := (nI_leI (b := 0) (by omega) (by decide)).mp g
    exact nm_r (nI_1 p) (hf (by rw [decide_eq_false (by omega)]; rfl))
  · have g' : 0 < cw_sl p k0 k1 k2 := by
      rcases Nat.eq_zero_or_pos (cw_sl p k0 k1 k2) with e | e
      · exact absurd (by rw [e]; decide) g
      · exact e
    obtain ⟨ec, hzc⟩ := hz g'
    rw [pk_sub hzc, ec, nI_clamp (n := c) (by omega)]
    rw [decide_eq_true g'] at ht hf
    refine ⟨vp_in_nI (by omega) (by decide), br_c (fun y => ?_) (fun y => ?_)⟩
    · rw [decide_eq_true y] at hf; exact nm_r (nI_1 p) (hf rfl)
    · rw [decide_eq_false y] at ht; exact ht rfl
theorem cw_foY {post : Int32 → Prop} (k0 k1 k2 : Nat) (h0 : k0 < 9) (h1 : k1 < 9) (h2 : k2 < 9) (h : post (cw_b (cw_fo av k0 k1 k2))) : wpY_reached post (f, cn, gd, kn, sd, se, rc, av) (nI (cw_ct k0 k1 k2)) := by
  have lc := cw_ctl h0 h1 h2
  unfold wpY_reached
  dsimp only
  unfold cw_fo at h
  refine br_c (fun g => ?_) (fun g => ⟨4, ?_⟩)
  · have g' : cw_ct k0 k1 k2 = 0 := (nI_eq (b := 0) (by omega) (by decide)).mp g
    rw [decide_eq_true g'] at h; exact h
  · have g' : ¬ cw_ct k0 k1 k2 = 0 := fun z => g (by rw [z]; rfl)
    rw [decide_eq_false g', Bool.false_or] at h
    unfold wY_reached_8
    refine br_f (by decide) (br_t rfl ?_)
    refine cw_r33 f cn gd kn sd se rc av 0 (cw_ct (k0 - 1) k1 k2) k0 k1 k2 81 (by decide) h0 h1 h2 (fun l => ?_) (fun e => ?_) (fun e => ?_)
    · have l' : 0 < k0 := l
      unfold cw_ct; omega
    · unfold wY_reached_8
      refine br_f (by decide) (br_f (by decide) (br_t rfl ?_))
      refine cw_r33 f cn gd kn sd se rc av 1 (cw_ct k0 (k1 - 1) k2) k0 k1 k2 9 (by decide) h0 h1 h2 (fun l => ?_) (fun e1 => ?_) (fun e1 => ?_)
      · have l' : 0 < k1 := l
        unfold cw_ct; omega
      · unfold wY_reached_8
        refine br_f (by decide) (br_f (by decide) (br_f (by decide) ?_))
        refine cw_r33 f cn gd kn sd se rc av 2 (cw_ct k0 k1 (k2 - 1)) k0 k1 k2 1 (by decide) h0 h1 h2 (fun l => ?_) (fun e2 => ?_) (fun e2 => ?_)
        · have l' : 0 < k2 := l
          unfold cw_ct; omega
        · unfold wY_reached_8
          refine br_t (by decide) ?_
          rw [show cw_fo1 av k0 (cw_ct (k0 - 1) k1 k2) = false from e, show cw_fo1 av k1 (cw_ct k0 (k1 - 1) k2) = false from e1, show cw_fo1 av k2 (cw_ct k0 k1 (k2 - 1)) = false from e2] at h; exact h
        · rw [show cw_fo1 av k2 (cw_ct k0 k1 (k2 - 1)) = true from e2, Bool.or_true, Bool.or_true] at h; exact h
      · rw [show cw_fo1 av k1 (cw_ct k0 (k1 - 1) k2) = true from e1, Bool.true_or, Bool.or_true] at h; exact h
    · rw [show cw_fo1 av k0 (cw_ct (k0 - 1) k1 k2) = true from e, Bool.true_or] at h; exact h
end
end
section
/-! one more event: the row of the state before, then the own count -/
def cw_cp (kn : Nat → Int32) (p c q : Nat) : Nat → Int32 := upd kn (cw_ix p (c + 1) q) (kn (cw_ix p c q))
def cw_ev (kn : Nat → Int32) (p c : Nat) : Nat → Int32 := upd (cw_cp (cw_cp (cw_cp kn p c 0) p c 1) p c 2) (cw_ix p (c + 1) p) (nI (c + 1))
section
variable (f : Int32) (cn gd kn sd se rc av : Nat → Int32)
theorem cw_aX1 {post : SX → Prop} (n p c q : Nat) (hp : p < 3) (hc : c < 8) (hq : q < 3) (g : Int32) (h : wX_addEvent_12 post (nI p) g (nI (c + 1)) f n (nI (q + 1)) cn gd (cw_cp kn p c q) sd se rc av) : wX_addEvent_12 post (nI p) g (nI (c + 1)) f (n + 1) (nI q) cn gd kn sd se rc av := by
  have l1 : cw_ix p (c + 1) q < 81 := cw_ixl hp (by omega) hq
  have l0 : cw_ix p c q < 81 := cw_ixl hp (by omega) hq
  unfold wX_addEvent_12
  refine br_f (cw_3le hq) (cw_kX p (c + 1) q rfl rfl rfl (cw_kX p c q rfl (nI_pred c) rfl ⟨vp_in_nI l0 (by decide), vp_in_nI l1 (by decide), nm_r (e' := cw_cp kn p c q) ?_ (nm_r (nI_1 q) h)⟩))
  rw [nI_clamp (n := cw_ix p c q) (by omega), nI_clamp (n := cw_ix p (c + 1) q) (by omega)]; rfl
theorem cw_aeX {post : SX → Prop} (p c : Nat) (hp : p < 3) (hc : c < 8) (ec : cn p = nI c) (g : Int32) (h : post (f, upd cn p (nI (c + 1)), upd gd (p * 9 + (c + 1)) (vp_nar .boolean g), cw_ev kn p c, sd, se, rc, av)) : wpX_addEvent post (f, cn, gd, kn, sd, se, rc, av) (nI p) g := by
  unfold wpX_addEvent
  dsimp only
  rw [nI_clamp (n := p) (by omega), ec]
  refine ⟨vp_in_nI hp (by decide), nm_r (nI_1 c) ⟨4, ?_⟩⟩
  refine cw_aX1 f cn gd kn sd se rc av 3 p c 0 hp hc (by decide) g ?_
  refine cw_aX1 f cn gd _ sd se rc av 2 p c 1 hp hc (by decide) g ?_
  refine cw_aX1 f cn gd _ sd se rc av 1 p c 2 hp hc (by decide) g ?_
  have l1 : cw_ix p (c + 1) p < 81 := cw_ixl hp (by omega) hp
  unfold wX_addEvent_12
  refine br_t (by decide) (cw_kX p (c + 1) p rfl rfl rfl ⟨vp_in_nI l1 (by decide), nm_r (e' := cw_ev kn p c) ?_ (cw_sX p (c + 1) rfl rfl ⟨vp_in_nI (by omega) (by decide), nm_r (e' := upd gd (p * 9 + (c + 1)) (vp_nar .boolean g)) ?_ ⟨vp_in_nI hp (by decide), nm_r (e' := upd cn p (nI (c + 1))) ?_ h⟩⟩)⟩)
  · rw [nI_clamp (n := cw_ix p (c + 1) p) (by omega)]; rfl
  · rw [nI_clamp (n := p * 9 + (c + 1)) (by omega)]
  · rw [nI_clamp (n := p) (by omega)]
theorem cw_aY1 {post : SY → Prop} (n p c q : Nat) (hp : p < 3) (hc : c < 8) (hq : q < 3) (h : wY_event_32 post (nI p) (nI (c + 1)) f n (nI (q + 1)) cn gd (cw_cp kn p c q) sd se rc av) : wY_event_32 post (nI p) (nI (c + 1)) f (n + 1) (nI q) cn gd kn sd se rc av := by
  have l1 : cw_ix p (c + 1) q < 81 := cw_ixl hp (by omega) hq
  have l0 : cw_ix p c q < 81 := cw_ixl hp (by omega) hq
  unfold wY_event_32
  refine br_f (cw_3le hq) ?_
  rw [nI_pred c, cw_yi, cw_yi, nI_clamp (n := cw_ix p c q) (by omega), nI_clamp (n := cw_ix p (c + 1) q) (by omega)]
  exact ⟨vp_in_nI l0 (by decide), vp_in_nI l1 (by decide), nm_r (e' := cw_cp kn p c q) rfl (nm_r (nI_1 q) h)⟩
theorem cw_aeY {post : SY → Prop} (p c : Nat) (hp : p < 3) (hc : c < 8) (ec : cn p = nI c) (g : Int32) (h : post (f, upd cn p (nI (c + 1)), upd gd (p * 9 + (c + 1)) (vp_nar .boolean g), cw_ev kn p c, sd, se, rc, av)) : wpY_event post (f, cn, gd, kn, sd, se, rc, av) (nI p) g := by
  have hi : vp_in (nI p) 3 := vp_in_nI hp (by decide)
  unfold wpY_event
  dsimp only
  rw [nI_clamp (n := p) (by omega), ec]
  refine ⟨hi, hi, nm_r (e' := upd cn p (nI (c + 1))) (by rw [nI_1]) ⟨hi, nm_r (e' := nI (c + 1)) pk_us ?_⟩⟩
  rw [cw_ys, nI_clamp (n := p * 9 + (c + 1)) (by omega)]
  refine ⟨vp_in_nI (by omega) (by decide), nm_e ⟨4, ?_⟩⟩
  refine cw_aY1 f _ _ kn sd se rc av 3 p c 0 hp hc (by decide) ?_
  refine cw_aY1 f _ _ _ sd se rc av 2 p c 1 hp hc (by decide) ?_
  refine cw_aY1 f _ _ _ sd se rc av 1 p c 2 hp hc (by decide) ?_
  have l1 : cw_ix p (c + 1) p < 81 := cw_ixl hp (by omega) hp
  unfold wY_event_32
  refine br_t (by decide) ?_
  rw [cw_yi, nI_clamp (n := cw_ix p (c + 1) p) (by omega)]
  exact ⟨vp_in_nI l1 (by decide), nm_r (e' := cw_ev kn p c) rfl h⟩
theorem cw_meT {post : Int32 → Prop} (p c : Nat) (hp : p < 3) (hc : c < 8) (ec : cn p = nI c) (h : post 1) : wpX_mayHaveEvent post (f, cn, gd, kn, sd, se, rc, av) (nI p) := by
  unfold wpX_mayHaveEvent
  dsimp only
  rw [nI_clamp (n := p) (by omega), ec]
  exact cw_pX hp (br_f (by decide) ⟨vp_in_nI hp (by decide), br_f (nI_ge (b := 8) hc (by decide)) h⟩)
theorem cw_meF {post : Int32 → Prop} (p : Nat) (hp : p < 3) (ec : cn p = nI 8) (h : post 0) : wpX_mayHaveEvent post (f, cn, gd, kn, sd, se, rc, av) (nI p) := by
  unfold wpX_mayHaveEvent
  dsimp only
  rw [nI_clamp (n := p) (by omega), ec]
  exact cw_pX hp (br_f (by decide) ⟨vp_in_nI hp (by decide), br_t (by decide) h⟩)
theorem cw_meB {post : Int32 → Prop} {x : Int32} (hx : ∀ post : Int32 → Prop, post 0 → wpX_isProcess post x) (h : post 0) : wpX_mayHaveEvent post (f, cn, gd, kn, sd, se, rc, av) x := by
  unfold wpX_mayHaveEvent
  dsimp only
  exact hx _ (br_t rfl h)
end
theorem cw_c8 {c : Nat} (h : c < 8) : ¬ nI c = 8 := by
  intro e
  have := (nI_eq (b := 8) (by omega) (by decide)).mp e
  omega

/-! what a message brings -/
def cw_ly (kn : Nat → Int32) (s e p k q : Nat) : Nat → Int32 := if q = p then kn else if kn (cw_ix s e q) ≤ kn (cw_ix p k q) then kn else upd kn (cw_ix p k q) (kn (cw_ix s e q))
def cw_D (kn : Nat → Int32) (s e p k : Nat) : Prop := kn (cw_ix s e p) ≤ kn (cw_ix p k p)
theorem cw_ly_D {kn : Nat → Int32} {s e p k q : Nat} (hp : p < 3) (hq : q < 3) (h : cw_D kn s e p k) : cw_D (cw_ly kn s e p k q) s e p k := by
  unfold cw_ly
  split
  · exact h
  · rename_i n
    split
    · exact h
    · unfold cw_D
      have a : cw_ix s e p ≠ cw_ix p k q := by unfold cw_ix; omega
      have b : cw_ix p k p ≠ cw_ix p k q := by unfold cw_ix; omega
      rw [pk_un a, pk_un b]
      exact h
section
variable (f : Int32) (cn gd kn sd se rc av : Nat → Int32)
theorem cw_lX1 {post : SX → Prop} (n s e p k q : Nat) (hs : s < 3) (he : e < 9) (hp : p < 3) (hk : k < 9) (hq : q < 3) (hD : cw_D kn s e p k) (h : wX_learn_26 post (nI p) (nI k) (nI s) (nI e) f n (nI (q + 1)) cn gd (cw_ly kn s e p k q) sd se rc av) : wX_learn_26 post (nI p) (nI k) (nI s) (nI e) f (n + 1) (nI q) cn gd kn sd se rc av := by
  have l1 : cw_ix p k q < 81 := cw_ixl hp hk hq
  have l0 : cw_ix s e q < 81 := cw_ixl hs he hq
  unfold wX_learn_26
  refine br_f (cw_3le hq) (cw_kX s e q rfl rfl rfl ⟨vp_in_nI l0 (by decide), nm_r (e' := kn (cw_ix s e q)) (by rw [nI_clamp (n := cw_ix s e q) (by omega)]) (cw_kX p k q rfl rfl rfl ⟨vp_in_nI l1 (by decide), ?_⟩)⟩)
  rw [nI_clamp (n := cw_ix p k q) (by omega)]
  refine br_c (fun g => nm_r (nI_1 q) ?_) (fun g => ⟨vp_in_nI l1 (by decide), nm_r (e' := upd kn (cw_ix p k q) (kn (cw_ix s e q))) rfl (nm_r (nI_1 q) ?_)⟩)
  · rw [show cw_ly kn s e p k q = kn by unfold cw_ly; rw [if_pos g, ite_self]] at h
    exact h
  · have n1 : ¬ q = p := by
      intro z
      subst z
      exact g hD
    rw [show cw_ly kn s e p k q = upd kn (cw_ix p k q) (kn (cw_ix s e q)) by unfold cw_ly; rw [if_neg n1, if_neg g]] at h
    exact h
theorem cw_leX {post : SX → Prop} (s e p k j : Nat) (hs : s < 3) (he : e < 9) (hp : p < 3) (hk : k < 9) (hj : j < 24) (ek : cn p = nI k) (es : sd j = nI s) (ee : se j = nI e) (hD : cw_D kn s e p k) (h : post (f, cn, gd, cw_ly (cw_ly (cw_ly kn s e p k 0) s e p k 1) s e p k 2, sd, se, rc, av)) : wpX_learn post (f, cn, gd, kn, sd, se, rc, av) (nI p) (nI j) := by
  unfold wpX_learn
  dsimp only
  rw [nI_clamp (n := p) (by omega), nI_clamp (n := j) (by omega), ek, es, ee]
  refine ⟨vp_in_nI hp (by decide), nm_e ⟨vp_in_nI hj (by decide), nm_e ⟨vp_in_nI hj (by decide), nm_e ⟨4, ?_⟩⟩⟩⟩
  have hD1 := cw_ly_D (q := 0) hp (by decide) hD
  have hD2 := cw_ly_D (q := 1) hp (by decide) hD1
  refine cw_lX1 f cn gd kn sd se rc av 3 s e p k 0 hs he hp hk (by decide) hD ?_
  refine cw_lX1 f cn gd _ sd se rc av 2 s e p k 1 hs he hp hk (by decide) hD1 ?_
  refine cw_lX1 f cn gd _ sd se rc av 1 s e p k 2 hs he hp hk (by decide) hD2 ?_
  unfold wX_learn_26
  exact br_t (by decide) h
theorem cw_lY1 {post : Int32 → SY → Prop} (n s e p k q j : Nat) (hs : s < 3) (he : e < 9) (hp : p < 3) (hk : k < 9) (hq : q < 3) (hj : j < 24) (ee : se j = nI e) (h : wY_receive_85 post (nI p) (nI j) (nI s) (nI k) f n (nI (q + 1)) cn gd (cw_ly kn s e p k q) sd se rc av) : wY_receive_85 post (nI p) (nI j) (nI s) (nI k) f (n + 1) (nI q) cn gd kn sd se rc av := by
  have l1 : cw_ix p k q < 81 := cw_ixl hp hk hq
  have l0 : cw_ix s e q < 81 := cw_ixl hs he hq
  unfold wY_receive_85
  refine br_f (cw_3le hq) ?_
  rw [nI_clamp (n := j) (by omega), ee, cw_yi, cw_yi, nI_clamp (n := cw_ix s e q) (by omega), nI_clamp (n := cw_ix p k q) (by omega)]
  refine ⟨vp_in_nI hj (by decide), vp_in_nI l0 (by decide), nm_e ?_⟩
  refine br_c (fun g => nm_r (nI_1 q) ?_) (fun g => ⟨vp_in_nI l1 (by decide), br_c (fun g2 => nm_r (nI_1 q) ?_) (fun g2 => ⟨vp_in_nI l1 (by decide), nm_e (nm_r (nI_1 q) ?_)⟩)⟩)
  · have g' : q = p := (nI_eq (by omega) (by omega)).mp g
    rw [show cw_ly kn s e p k q = kn by unfold cw_ly; rw [if_pos g']] at h
    exact h
  · rw [show cw_ly kn s e p k q = kn by unfold cw_ly; rw [if_pos g2, ite_self]] at h
    exact h
  · have g' : ¬ q = p := fun z => g (by rw [z])
    rw [show cw_ly kn s e p k q = upd kn (cw_ix p k q) (kn (cw_ix s e q)) by unfold cw_ly; rw [if_neg g', if_neg g2]] at h
    exact h
theorem cw_leY {post : Int32 → SY → Prop} (s e p k j : Nat) (hs : s < 3) (he : e < 9) (hp : p < 3) (hk : k < 9) (hj : j < 24) (ee : se j = nI e) (h : post (nI k) (f, cn, gd, cw_ly (cw_ly (cw_ly kn s e p k 0) s e p k 1) s e p k 2, sd, se, rc, av)) : wY_receive_85 post (nI p) (nI j) (nI s) (nI k) f 4 (nI 0) cn gd kn sd se rc av := by
  refine cw_lY1 f cn gd kn sd se rc av 3 s e p k 0 j hs he hp hk (by decide) hj ee ?_
  refine cw_lY1 f cn gd _ sd se rc av 2 s e p k 1 j hs he hp hk (by decide) hj ee ?_
  refine cw_lY1 f cn gd _ sd se rc av 1 s e p k 2 j hs he hp hk (by decide) hj ee ?_
  unfold wY_receive_85
  exact br_t (by decide) h
end

/-! what the relation keeps: the counts, the messages, and that no one knows more of a process than it has -/
def cw_K (C : Nat → Nat) (kn : Nat → Int32) : Prop := ∀ p k q, p < 3 → k ≤ C p → q < 3 → kn (cw_ix p k q) ≤ nI (C q)
def cw_up (C : Nat → Nat) (p : Nat) : Nat → Nat := fun j => if j = p then C p + 1 else C j
theorem cw_up_s {C : Nat → Nat} {p : Nat} : cw_up C p p = C p + 1 := if_pos rfl
theorem cw_up_n {C : Nat → Nat} {p j : Nat} (h : ¬ j = p) : cw_up C p j = C j := if_neg h
theorem cw_up_le (C : Nat → Nat) (p j : Nat) : C j ≤ cw_up C p j := by
  unfold cw_up
  split
  · rename_i h; subst h; omega
  · exact Nat.le_refl _
theorem cw_up_8 {C : Nat → Nat} {p : Nat} (hc : C p < 8) (h : ∀ j, j < 3 → C j ≤ 8) (j : Nat) (hj : j < 3) : cw_up C p j ≤ 8 := by
  unfold cw_up
  split
  · omega
  · exact h j hj
theorem cw_ev_old {kn : Nat → Int32} {p c p' k' q : Nat} (hp : p < 3) (hc : c < 8) (hk : k' < 9) (hq : q < 3) (h : ¬ (p' = p ∧ k' = c + 1)) : cw_ev kn p c (cw_ix p' k' q) = kn (cw_ix p' k' q) := by
  have A : ∀ r, r < 3 → cw_ix p' k' q ≠ cw_ix p (c + 1) r := by
    intro r hr
    unfold cw_ix
    omega
  unfold cw_ev cw_cp
  rw [pk_un (A p hp), pk_un (A 2 (by decide)), pk_un (A 1 (by decide)), pk_un (A 0 (by decide))]
theorem cw_ev_new {kn : Nat → Int32} {p c q : Nat} (hp : p < 3) (hq : q < 3) (h : ¬ q = p) : cw_ev kn p c (cw_ix p (c + 1) q) = kn (cw_ix p c q) := by
  have A : ∀ a b, a < 3 → b < 3 → cw_ix p c a ≠ cw_ix p (c + 1) b := by
    intro a b ha hb
    unfold cw_ix
    omega
  have B : ∀ a b, a < 3 → b < 3 → a ≠ b → cw_ix p (c + 1) a ≠ cw_ix p (c + 1) b := by
    intro a b ha hb hab
    unfold cw_ix
    omega
  unfold cw_ev
  rw [pk_un (B q p hq hp h)]
  have hq' : q = 0 ∨ q = 1 ∨ q = 2 := by omega
  unfold cw_cp
  rcases hq' with e | e | e
  · subst e
    rw [pk_un (B 0 2 (by decide) (by decide) (by decide)), pk_un (B 0 1 (by decide) (by decide) (by decide)), pk_us]
  · subst e
    rw [pk_un (B 1 2 (by decide) (by decide) (by decide)), pk_us, pk_un (A 1 0 (by decide) (by decide))]
  · subst e
    rw [pk_us, pk_un (A 2 1 (by decide) (by decide)), pk_un (A 2 0 (by decide) (by decide))]
theorem cw_K_ev {C : Nat → Nat} {kn : Nat → Int32} {p : Nat} (hp : p < 3) (hc : C p < 8) (h8 : ∀ j, j < 3 → C j ≤ 8) (h : cw_K C kn) : cw_K (cw_up C p) (cw_ev kn p (C p)) := by
  intro p' k' q hp' hk' hq
  have u8 := cw_up_8 hc h8
  have up : nI (C q) ≤ nI (cw_up C p q) := nI_le (cw_up_le C p q) (by have := u8 q hq; omega)
  by_cases e : p' = p ∧ k' = C p + 1
  · obtain ⟨e1, e2⟩ := e
    subst e1
    subst e2
    by_cases eq : q = p'
    · subst eq
      unfold cw_ev
      rw [pk_us, cw_up_s]
      exact nI_le (Nat.le_refl _) (by omega)
    · rw [cw_ev_new hp hq eq]
      exact Int32.le_trans (h p' (C p') q hp' (Nat.le_refl _) hq) up
  · have k8 := u8 p' hp'
    rw [cw_ev_old hp hc (by omega) hq e]
    refine Int32.le_trans (h p' k' q hp' ?_ hq) up
    by_cases e1 : p' = p
    · subst e1
      rw [cw_up_s] at hk'
      omega
    · rw [cw_up_n e1] at hk'
      exact hk'
theorem cw_K_ly {C : Nat → Nat} {kn : Nat → Int32} {s e p k q : Nat} (hs : s < 3) (he : e ≤ C s) (hq : q < 3) (h : cw_K C kn) : cw_K C (cw_ly kn s e p k q) := by
  intro p' k' q' hp' hk' hq'
  unfold cw_ly
  split
  · exact h p' k' q' hp' hk' hq'
  · split
    · exact h p' k' q' hp' hk' hq'
    · by_cases hj : cw_ix p' k' q' = cw_ix p k q
      · have eq : q' = q := by unfold cw_ix at hj; omega
        subst eq
        rw [hj, pk_us]
        exact h s e q' hs he hq'
      · rw [pk_un hj]
        exact h p' k' q' hp' hk' hq'
def cw_M (C : Nat → Nat) (sd se : Nat → Int32) (m : Nat) : Prop := ∀ j, j < m → ∃ s e : Nat, s < 3 ∧ e ≤ C s ∧ sd j = nI s ∧ se j = nI e
def cw_I (C : Nat → Nat) (cn kn sd se : Nat → Int32) (m : Nat) : Prop := (∀ p, p < 3 → C p ≤ 8 ∧ cn p = nI (C p)) ∧ m ≤ C 0 + C 1 + C 2 ∧ cw_M C sd se m ∧ cw_K C kn
theorem cw_I_ev {C : Nat → Nat} {cn kn sd se : Nat → Int32} {m p : Nat} (hp : p < 3) (hc : C p < 8) (h : cw_I C cn kn sd se m) : cw_I (cw_up C p) (upd cn p (nI (C p + 1))) (cw_ev kn p (C p)) sd se m ∧ m + 1 ≤ cw_up C p 0 + cw_up C p 1 + cw_up C p 2 := by
  obtain ⟨hC, hm, hM, hK⟩ := h
  have h8 : ∀ j, j < 3 → C j ≤ 8 := fun j hj => (hC j hj).1
  have hs : m + 1 ≤ cw_up C p 0 + cw_up C p 1 + cw_up C p 2 := by
    have hp' : p = 0 ∨ p = 1 ∨ p = 2 := by omega
    rcases hp' with e | e | e
    · subst e
      rw [cw_up_s, cw_up_n (j := 1) (by decide), cw_up_n (j := 2) (by decide)]; omega
    · subst e
      rw [cw_up_s, cw_up_n (j := 0) (by decide), cw_up_n (j := 2) (by decide)]; omega
    · subst e
      rw [cw_up_s, cw_up_n (j := 0) (by decide), cw_up_n (j := 1) (by decide)]; omega
  refine ⟨⟨fun j hj => ⟨cw_up_8 hc h8 j hj, ?_⟩, by omega, fun j hj => ?_, cw_K_ev hp hc h8 hK⟩, hs⟩
  · by_cases e : j = p
    · subst e
      rw [pk_us, cw_up_s]
    · rw [pk_un e, cw_up_n e]
      exact (hC j hj).2
  · obtain ⟨s, e, h1, h2, h3, h4⟩ := hM j hj
    exact ⟨s, e, h1, Nat.le_trans h2 (cw_up_le C p s), h3, h4⟩
theorem cw_I_sd {C : Nat → Nat} {cn kn sd se : Nat → Int32} {m p : Nat} (hp : p < 3) (h : cw_I C cn kn sd se m) (hm : m + 1 ≤ C 0 + C 1 + C 2) : cw_I C cn kn (upd sd m (nI p)) (upd se m (nI (C p))) (m + 1) := by
  obtain ⟨hC, _, hM, hK⟩ := h
  refine ⟨hC, hm, fun j hj => ?_, hK⟩
  by_cases e : j = m
  · subst e
    exact ⟨p, C p, hp, Nat.le_refl _, pk_us, pk_us⟩
  · rw [pk_un e, pk_un e]
    exact hM j (by omega)
theorem cw_I_24 {C : Nat → Nat} {cn kn sd se : Nat → Int32} {m : Nat} (h : cw_I C cn kn sd se m) : m ≤ 24 := by
  have h0 := (h.1 0 (by decide)).1
  have h1 := (h.1 1 (by decide)).1
  have h2 := (h.1 2 (by decide)).1
  have := h.2.1
  omega
end
section
/-! the reference's walks at a cut given by its number -/
theorem cw_okE (C : Nat → Nat) (kn : Nat → Int32) (c : Nat) : cw_ok C kn (c / 81) (c / 9 % 9) (c % 9) = (cw_in (C 0) (C 1) (C 2) c && cw_ps kn (c / 81) (c / 9 % 9) (c % 9)) := by
  show ((decide (c / 81 ≤ C 0) && cw_rw kn 0 (c / 81) (c / 81) (c / 9 % 9) (c % 9)) && (decide (c / 9 % 9 ≤ C 1) && cw_rw kn 1 (c / 9 % 9) (c / 81) (c / 9 % 9) (c % 9)) && (decide (c % 9 ≤ C 2) && cw_rw kn 2 (c % 9) (c / 81) (c / 9 % 9) (c % 9))) = ((decide (c / 81 ≤ C 0) && decide (c / 9 % 9 ≤ C 1) && decide (c % 9 ≤ C 2)) && (cw_rw kn 0 (c / 81) (c / 81) (c / 9 % 9) (c % 9) && cw_rw kn 1 (c / 9 % 9) (c / 81) (c / 9 % 9) (c % 9) && cw_rw kn 2 (c % 9) (c / 81) (c / 9 % 9) (c % 9)))
  generalize decide (c / 81 ≤ C 0) = a0
  generalize decide (c / 9 % 9 ≤ C 1) = a1
  generalize decide (c % 9 ≤ C 2) = a2
  generalize cw_rw kn 0 _ _ _ _ = b0
  generalize cw_rw kn 1 _ _ _ _ = b1
  generalize cw_rw kn 2 _ _ _ _ = b2
  revert a0 a1 a2 b0 b1 b2
  decide
section
variable (f : Int32) (cn gd kn sd se rc av : Nat → Int32)
theorem cw_okYc {post : Int32 → Prop} (C : Nat → Nat) (hC : ∀ p, p < 3 → C p ≤ 8 ∧ cn p = nI (C p)) (c : Nat) (hc : c < 729) (h : post (cw_b (cw_ok C kn (c / 81) (c / 9 % 9) (c % 9)))) : wpY_possible post (f, cn, gd, kn, sd, se, rc, av) (nI c) := by
  have e := cw_okY f cn gd kn sd se rc av (post := post) C hC (c / 81) (c / 9 % 9) (c % 9) (by omega) (by omega) (by omega) h
  rw [cw_ct_of c hc] at e
  exact e
theorem cw_gsYc {post : Int32 → Prop} (s c : Nat) (hc : c < 729) (h : post (cw_b (cw_gs gd s (c / 81) (c / 9 % 9) (c % 9)))) : wpY_isGood post (f, cn, gd, kn, sd, se, rc, av) (nI c) (nI s) := by
  have e := cw_gsY f cn gd kn sd se rc av (post := post) s (c / 81) (c / 9 % 9) (c % 9) (by omega) (by omega) (by omega) h
  rw [cw_ct_of c hc] at e
  exact e
theorem cw_foYc {post : Int32 → Prop} (c : Nat) (hc : c < 729) (h : post (cw_b (cw_fo av (c / 81) (c / 9 % 9) (c % 9)))) : wpY_reached post (f, cn, gd, kn, sd, se, rc, av) (nI c) := by
  have e := cw_foY f cn gd kn sd se rc av (post := post) (c / 81) (c / 9 % 9) (c % 9) (by omega) (by omega) (by omega) h
  rw [cw_ct_of c hc] at e
  exact e
theorem cw_soYc {post : Int32 → Prop} (p c : Nat) (hp : p < 3) (hc : c < 729) (h : post (nI (cw_sl p (c / 81) (c / 9 % 9) (c % 9)))) : wpY_stateOf post (nI c) (nI p) := by
  have e := cw_soY (post := post) p (c / 81) (c / 9 % 9) (c % 9) hp (by omega) (by omega) (by omega) h
  rw [cw_ct_of c hc] at e
  exact e
end
theorem cw_729 {c : Nat} (h : c ≤ 728) : ¬ (729 : Int32) ≤ nI c := nI_ge (b := 729) (by omega) (by decide)

/-! cuts -/
def cw_cH (kn : Nat → Int32) (k0 k1 k2 : Nat) (s : Int32) : Int32 := if cw_ps kn k0 k1 k2 = true then s + 1 else s
def cw_cY (C : Nat → Nat) (kn : Nat → Int32) (c : Nat) (s : Int32) : Int32 := if cw_ok C kn (c / 81) (c / 9 % 9) (c % 9) = true then s + 1 else s
section
variable (f : Int32) (cn gd kn sd se rc av : Nat → Int32)
theorem cw_cu2 {post : Int32 → Prop} {J4 J16 : Int32 → Int32 → Prop} (c2 : Nat) (l2 : c2 ≤ 8) (e2 : cn 2 = nI c2) (k0 k1 : Nat) (h0 : k0 < 9) (h1 : k1 < 9) (s : Int32) (h : J16 (cw_fr (cw_cH kn k0 k1) 0 (c2 + 1) s) (nI (k1 + 1))) : wX_cuts_29 post J4 J16 (nI k0) (nI k1) f cn gd kn sd se rc av (c2 + 2) s (nI 0) := by
  refine cw_lp (cw_cH kn k0 k1) c2 (fun n s k => wX_cuts_29 post J4 J16 (nI k0) (nI k1) f cn gd kn sd se rc av n s (nI k)) (fun s => J16 s (nI (k1 + 1))) (fun n s hJ => ?_) (fun n s k hk hW => ?_) s h
  · unfold wX_cuts_29
    rw [e2]
    exact br_t (nI_lt (by omega) (by omega)) (nm_r (nI_1 k1) hJ)
  · unfold wX_cuts_29
    rw [e2]
    unfold cw_cH at hW
    refine br_f (nI_nlt hk (by omega)) (cw_psX f cn gd kn sd se rc av k0 k1 k h0 h1 (by omega) (cw_br (fun e => nm_r (nI_1 k) ?_) (fun e => nm_e (nm_r (nI_1 k) ?_))))
    · rw [e] at hW; exact hW
    · rw [e] at hW; exact hW
theorem cw_cu1 {post : Int32 → Prop} {J4 : Int32 → Int32 → Prop} (c1 c2 : Nat) (l1 : c1 ≤ 8) (l2 : c2 ≤ 8) (e1 : cn 1 = nI c1) (e2 : cn 2 = nI c2) (k0 : Nat) (h0 : k0 < 9) (s : Int32) (h : J4 (cw_fr (fun k1 => cw_fr (cw_cH kn k0 k1) 0 (c2 + 1)) 0 (c1 + 1) s) (nI (k0 + 1))) : wX_cuts_16 post J4 (nI k0) f cn gd kn sd se rc av (c1 + 2) s (nI 0) := by
  refine cw_lp (fun k1 => cw_fr (cw_cH kn k0 k1) 0 (c2 + 1)) c1 (fun n s k => wX_cuts_16 post J4 (nI k0) f cn gd kn sd se rc av n s (nI k)) (fun s => J4 s (nI (k0 + 1))) (fun n s hJ => ?_) (fun n s k hk hW => ?_) s h
  · unfold wX_cuts_16
    rw [e1]
    exact br_t (nI_lt (by omega) (by omega)) (nm_r (nI_1 k0) hJ)
  · unfold wX_cuts_16
    rw [e1]
    exact br_f (nI_nlt hk (by omega)) ⟨c2 + 2, cw_cu2 f cn gd kn sd se rc av c2 l2 e2 k0 k h0 (by omega) s hW⟩
theorem cw_cu0 {post : Int32 → Prop} (c0 c1 c2 : Nat) (l0 : c0 ≤ 8) (l1 : c1 ≤ 8) (l2 : c2 ≤ 8) (e0 : cn 0 = nI c0) (e1 : cn 1 = nI c1) (e2 : cn 2 = nI c2) (s : Int32) (h : post (cw_fr (cw_hx c0 c1 c2 (cw_cH kn)) 0 729 s)) : wX_cuts_4 post f cn gd kn sd se rc av (c0 + 2) s (nI 0) := by
  rw [cw_nest c0 c1 c2 l0 l1 l2] at h
  refine cw_lp (fun k0 => cw_fr (fun k1 => cw_fr (cw_cH kn k0 k1) 0 (c2 + 1)) 0 (c1 + 1)) c0 (fun n s k => wX_cuts_4 post f cn gd kn sd se rc av n s (nI k)) post (fun n s hJ => ?_) (fun n s k hk hW => ?_) s h
  · unfold wX_cuts_4
    rw [e0]
    exact br_t (nI_lt (by omega) (by omega)) hJ
  · unfold wX_cuts_4
    rw [e0]
    exact br_f (nI_nlt hk (by omega)) ⟨c1 + 2, cw_cu1 f cn gd kn sd se rc av c1 c2 l1 l2 e1 e2 k (by omega) s hW⟩
theorem cw_cuY {post : Int32 → Prop} (C : Nat → Nat) (hC : ∀ p, p < 3 → C p ≤ 8 ∧ cn p = nI (C p)) (s : Int32) (h : post (cw_fr (cw_cY C kn) 0 729 s)) : wY_cuts_4 post f cn gd kn sd se rc av 730 s (nI 0) := by
  refine cw_lp (cw_cY C kn) 728 (fun n s k => wY_cuts_4 post f cn gd kn sd se rc av n s (nI k)) post (fun n s hJ => ?_) (fun n s k hk hW => ?_) s h
  · unfold wY_cuts_4
    exact br_t (by decide) hJ
  · unfold wY_cuts_4
    unfold cw_cY at hW
    refine br_f (cw_729 hk) (cw_okYc f cn gd kn sd se rc av C hC k (by omega) (cw_br (fun e => nm_r (nI_1 k) ?_) (fun e => nm_e (nm_r (nI_1 k) ?_))))
    · rw [e] at hW; exact hW
    · rw [e] at hW; exact hW
end
theorem cw_cE (C : Nat → Nat) (kn : Nat → Int32) (s : Int32) : cw_fr (cw_cY C kn) 0 729 s = cw_fr (cw_hx (C 0) (C 1) (C 2) (cw_cH kn)) 0 729 s := by
  refine cw_fr_cong _ _ _ _ _ (fun c s _ _ => ?_)
  unfold cw_cY cw_hx cw_cH
  rw [cw_okE]
  cases cw_in (C 0) (C 1) (C 2) c <;> rfl

/-! possibly and least -/
def cw_lv (b : Bool) (st : Nat) (x : Int32) : Int32 := if (b && (decide (x < 0) || decide (nI st < x))) = true then nI st else x
def cw_lH (gd kn : Nat → Int32) (s p k0 k1 k2 : Nat) (x : Int32) : Int32 := cw_lv (cw_gs gd s k0 k1 k2 && cw_ps kn k0 k1 k2) (cw_sl p k0 k1 k2) x
def cw_lY (C : Nat → Nat) (gd kn : Nat → Int32) (s p c : Nat) (x : Int32) : Int32 := cw_lv (cw_ok C kn (c / 81) (c / 9 % 9) (c % 9) && cw_gs gd s (c / 81) (c / 9 % 9) (c % 9)) (cw_sl p (c / 81) (c / 9 % 9) (c % 9)) x
section
variable (f : Int32) (cn gd kn sd se rc av : Nat → Int32)
theorem cw_l82 {post : Int32 → Prop} {J5 J19 J33 : Int32 → Int32 → Prop} (b : Bool) (s k0 k1 k2 : Nat) (x2 x3 x7 : Int32) (hs : s < 8) (h0 : k0 < 9) (h1 : k1 < 9) (h2 : k2 < 9) (h : J33 (if ((cw_gs gd s k0 k1 k2 && cw_ps kn k0 k1 k2) && b) = true then x7 else x3) (nI (k2 + 1))) : wX_lowestState_82 post J5 J19 J33 (nI s) x2 x3 (nI k0) (nI k1) (nI k2) x7 (cw_b b) f cn gd kn sd se rc av := by
  unfold wX_lowestState_82
  refine cw_br (fun e => nm_r (nI_1 k2) ?_) (fun e => cw_gsX f cn gd kn sd se rc av s k0 k1 k2 hs h0 h1 h2 (cw_br (fun g => nm_r (nI_1 k2) ?_) (fun g => cw_psX f cn gd kn sd se rc av k0 k1 k2 h0 h1 h2 (cw_br (fun g2 => nm_r (nI_1 k2) ?_) (fun g2 => nm_r (nI_1 k2) ?_)))))
  · rw [e, Bool.and_false] at h; exact h
  · rw [g] at h; exact h
  · rw [g, g2] at h; exact h
  · rw [e, g, g2] at h; exact h
theorem cw_l65 {post : Int32 → Prop} {J5 J19 J33 : Int32 → Int32 → Prop} (s k0 k1 k2 st : Nat) (x2 x : Int32) (hs : s < 8) (h0 : k0 < 9) (h1 : k1 < 9) (h2 : k2 < 9) (h : J33 (cw_lv (cw_gs gd s k0 k1 k2 && cw_ps kn k0 k1 k2) st x) (nI (k2 + 1))) : wX_lowestState_65 post J5 J19 J33 (nI s) x2 x (nI k0) (nI k1) (nI k2) (nI st) f cn gd kn sd se rc av := by
  unfold wX_lowestState_65
  unfold cw_lv at h
  refine br_c (fun g => ?_) (fun g => br_c (fun g2 => ?_) (fun g2 => ?_))
  · rw [decide_eq_true g, Bool.true_or] at h
    exact cw_l82 f cn gd kn sd se rc av true s k0 k1 k2 x2 x (nI st) hs h0 h1 h2 h
  · rw [decide_eq_false g, decide_eq_false (Int32.not_lt.mpr g2), Bool.or_false] at h
    exact cw_l82 f cn gd kn sd se rc av false s k0 k1 k2 x2 x (nI st) hs h0 h1 h2 h
  · rw [decide_eq_true (Int32.not_le.mp g2), Bool.or_true] at h
    exact cw_l82 f cn gd kn sd se rc av true s k0 k1 k2 x2 x (nI st) hs h0 h1 h2 h
theorem cw_lo2 {post : Int32 → Prop} {J5 J19 : Int32 → Int32 → Prop} (c2 : Nat) (l2 : c2 ≤ 8) (e2 : cn 2 = nI c2) (s p k0 k1 : Nat) (hs : s < 8) (hp : p < 3) (h0 : k0 < 9) (h1 : k1 < 9) (x : Int32) (h : J19 (cw_fr (cw_lH gd kn s p k0 k1) 0 (c2 + 1) x) (nI (k1 + 1))) : wX_lowestState_33 post J5 J19 (nI s) (nI p) (nI k0) (nI k1) f cn gd kn sd se rc av (c2 + 2) x (nI 0) := by
  refine cw_lp (cw_lH gd kn s p k0 k1) c2 (fun n x k => wX_lowestState_33 post J5 J19 (nI s) (nI p) (nI k0) (nI k1) f cn gd kn sd se rc av n x (nI k)) (fun x => J19 x (nI (k1 + 1))) (fun n x hJ => ?_) (fun n x k hk hW => ?_) x h
  · unfold wX_lowestState_33
    rw [e2]
    exact br_t (nI_lt (by omega) (by omega)) (nm_r (nI_1 k1) hJ)
  · unfold wX_lowestState_33
    rw [e2]
    unfold cw_lH at hW
    refine br_f (nI_nlt hk (by omega)) ?_
    have hp' : p = 0 ∨ p = 1 ∨ p = 2 := by omega
    rcases hp' with e | e | e
    · subst e
      exact br_t rfl (cw_l65 f cn gd kn sd se rc av s k0 k1 k k0 _ x hs h0 h1 (by omega) hW)
    · subst e
      exact br_f (by decide) (br_t rfl (cw_l65 f cn gd kn sd se rc av s k0 k1 k k1 _ x hs h0 h1 (by omega) hW))
    · subst e
      exact br_f (by decide) (br_f (by decide) (cw_l65 f cn gd kn sd se rc av s k0 k1 k k _ x hs h0 h1 (by omega) hW))
theorem cw_lo1 {post : Int32 → Prop} {J5 : Int32 → Int32 → Prop} (c1 c2 : Nat) (l1 : c1 ≤ 8) (l2 : c2 ≤ 8) (e1 : cn 1 = nI c1) (e2 : cn 2 = nI c2) (s p k0 : Nat) (hs : s < 8) (hp : p < 3) (h0 : k0 < 9) (x : Int32) (h : J5 (cw_fr (fun k1 => cw_fr (cw_lH gd kn s p k0 k1) 0 (c2 + 1)) 0 (c1 + 1) x) (nI (k0 + 1))) : wX_lowestState_19 post J5 (nI s) (nI p) (nI k0) f cn gd kn sd se rc av (c1 + 2) x (nI 0) := by
  refine cw_lp (fun k1 => cw_fr (cw_lH gd kn s p k0 k1) 0 (c2 + 1)) c1 (fun n x k => wX_lowestState_19 post J5 (nI s) (nI p) (nI k0) f cn gd kn sd se rc av n x (nI k)) (fun x => J5 x (nI (k0 + 1))) (fun n x hJ => ?_) (fun n x k hk hW => ?_) x h
  · unfold wX_lowestState_19
    rw [e1]
    exact br_t (nI_lt (by omega) (by omega)) (nm_r (nI_1 k0) hJ)
  · unfold wX_lowestState_19
    rw [e1]
    exact br_f (nI_nlt hk (by omega)) ⟨c2 + 2, cw_lo2 f cn gd kn sd se rc av c2 l2 e2 s p k0 k hs hp h0 (by omega) x hW⟩
theorem cw_lo0 {post : Int32 → Prop} (c0 c1 c2 : Nat) (l0 : c0 ≤ 8) (l1 : c1 ≤ 8) (l2 : c2 ≤ 8) (e0 : cn 0 = nI c0) (e1 : cn 1 = nI c1) (e2 : cn 2 = nI c2) (s p : Nat) (hs : s < 8) (hp : p < 3) (h : post (cw_fr (cw_hx c0 c1 c2 (cw_lH gd kn s p)) 0 729 (-1))) : wpX_lowestState post (f, cn, gd, kn, sd, se, rc, av) (nI s) (nI p) := by
  unfold wpX_lowestState
  dsimp only
  refine ⟨c0 + 2, ?_⟩
  rw [cw_nest c0 c1 c2 l0 l1 l2] at h
  refine cw_lp (fun k0 => cw_fr (fun k1 => cw_fr (cw_lH gd kn s p k0 k1) 0 (c2 + 1)) 0 (c1 + 1)) c0 (fun n x k => wX_lowestState_5 post (nI s) (nI p) f cn gd kn sd se rc av n x (nI k)) post (fun n x hJ => ?_) (fun n x k hk hW => ?_) (-1) h
  · unfold wX_lowestState_5
    rw [e0]
    exact br_t (nI_lt (by omega) (by omega)) hJ
  · unfold wX_lowestState_5
    rw [e0]
    exact br_f (nI_nlt hk (by omega)) ⟨c1 + 2, cw_lo1 f cn gd kn sd se rc av c1 c2 l1 l2 e1 e2 s p k hs hp (by omega) x hW⟩
theorem cw_leaY {post : Int32 → Prop} (C : Nat → Nat) (hC : ∀ p, p < 3 → C p ≤ 8 ∧ cn p = nI (C p)) (s p : Nat) (hp : p < 3) (x : Int32) (h : post (cw_fr (cw_lY C gd kn s p) 0 729 x)) : wY_least_21 post (nI s) (nI p) f cn gd kn sd se rc av 730 x (nI 0) := by
  refine cw_lp (cw_lY C gd kn s p) 728 (fun n x k => wY_least_21 post (nI s) (nI p) f cn gd kn sd se rc av n x (nI k)) post (fun n x hJ => ?_) (fun n x k hk hW => ?_) x h
  · unfold wY_least_21
    exact br_t (by decide) hJ
  · unfold wY_least_21
    unfold cw_lY cw_lv at hW
    refine br_f (cw_729 hk) (cw_soYc p k hp (by omega) (cw_okYc f cn gd kn sd se rc av C hC k (by omega) (cw_br (fun e => nm_r (nI_1 k) ?_) (fun e => cw_gsYc f cn gd kn sd se rc av s k (by omega) (cw_br (fun e1 => nm_r (nI_1 k) ?_) (fun e1 => br_c (fun g => nm_r (nI_1 k) ?_) (fun g => br_c (fun g2 => nm_r (nI_1 k) ?_) (fun g2 => nm_r (nI_1 k) ?_))))))))
    · rw [e] at hW; exact hW
    · rw [e, e1] at hW; exact hW
    · rw [e, e1, decide_eq_true g] at hW; exact hW
    · rw [e, e1, decide_eq_false g, decide_eq_false (Int32.not_lt.mpr g2)] at hW; exact hW
    · rw [e, e1, decide_eq_false g, decide_eq_true (Int32.not_le.mp g2)] at hW; exact hW
end
theorem cw_lE (C : Nat → Nat) (gd kn : Nat → Int32) (s p : Nat) (x : Int32) : cw_fr (cw_lY C gd kn s p) 0 729 x = cw_fr (cw_hx (C 0) (C 1) (C 2) (cw_lH gd kn s p)) 0 729 x := by
  refine cw_fr_cong _ _ _ _ _ (fun c x _ _ => ?_)
  unfold cw_lY cw_hx cw_lH
  rw [cw_okE]
  cases cw_in (C 0) (C 1) (C 2) c
  · rfl
  · rw [Bool.true_and, Bool.and_comm, if_pos rfl]
theorem cw_lv_nn {b : Bool} {st : Nat} {x : Int32} (hst : st < 9) (h : ¬ x < 0) : ¬ cw_lv b st x < 0 := by
  unfold cw_lv
  split
  · exact nI_pos (by omega)
  · exact h
theorem cw_lY_nn (C : Nat → Nat) (gd kn : Nat → Int32) (s p : Nat) : ∀ (d c : Nat) (x : Int32), c + d = 729 → ¬ x < 0 → ¬ cw_fr (cw_lY C gd kn s p) c d x < 0 := by
  intro d
  induction d with
  | zero => intro c x _ h; rw [cw_fr0]; exact h
  | succ d ih =>
    intro c x e h
    rw [cw_frS]
    exact ih (c + 1) _ (by omega) (cw_lv_nn (cw_sl_lt (by omega) (by omega) (by omega)) h)
section
variable (f : Int32) (cn gd kn sd se rc av : Nat → Int32)
theorem cw_posY {post : Int32 → Prop} (C : Nat → Nat) (hC : ∀ p, p < 3 → C p ≤ 8 ∧ cn p = nI (C p)) (s : Nat) : ∀ (d c : Nat), c + d = 729 → (cw_fr (cw_lY C gd kn s 0) c d (-1) < 0 → post 0) → (¬ cw_fr (cw_lY C gd kn s 0) c d (-1) < 0 → post 1) → wY_possibly_11 post (nI s) f cn gd kn sd se rc av (d + 1) (nI c) := by
  intro d
  induction d with
  | zero =>
    intro c e h0 h1
    have : c = 729 := by omega
    subst this
    unfold wY_possibly_11
    exact br_t (by decide) (h0 (by rw [cw_fr0]; decide))
  | succ d ih =>
    intro c e h0 h1
    rw [cw_frS] at h0 h1
    unfold wY_possibly_11
    have nx : ∀ b : Bool, (cw_ok C kn (c / 81) (c / 9 % 9) (c % 9) && cw_gs gd s (c / 81) (c / 9 % 9) (c % 9)) = b → cw_lY C gd kn s 0 c (-1) = (if b = true then nI (c / 81) else -1) := by
      intro b hb
      unfold cw_lY cw_lv
      rw [hb, decide_eq_true (show (-1 : Int32) < 0 by decide), Bool.true_or, Bool.and_true]
      rfl
    refine br_f (cw_729 (by omega)) (cw_okYc f cn gd kn sd se rc av C hC c (by omega) (cw_br (fun g => nm_r (nI_1 c) ?_) (fun g => cw_gsYc f cn gd kn sd se rc av s c (by omega) (cw_br (fun g1 => nm_r (nI_1 c) ?_) (fun g1 => ?_)))))
    · rw [nx false (by rw [g]; rfl)] at h0 h1
      exact ih (c + 1) (by omega) h0 h1
    · rw [nx false (by rw [g, g1]; rfl)] at h0 h1
      exact ih (c + 1) (by omega) h0 h1
    · rw [nx true (by rw [g, g1]; rfl)] at h0 h1
      exact h1 (cw_lY_nn C gd kn s 0 d (c + 1) _ (by omega) (by rw [if_pos rfl]; exact nI_pos (by omega)))
end
end
section
/-! definitely: the cuts that a run can come to without a good one -/
def cw_dv (ps gs fo : Bool) : Int32 := vp_nar .boolean (cw_b (ps && (!gs && fo)))
def cw_dH (gd kn : Nat → Int32) (s k0 k1 k2 : Nat) (a : Nat → Int32) : Nat → Int32 := upd a (cw_ct k0 k1 k2) (cw_dv (cw_ps kn k0 k1 k2) (cw_gs gd s k0 k1 k2) (cw_fo a k0 k1 k2))
def cw_dY (C : Nat → Nat) (gd kn : Nat → Int32) (s c : Nat) (a : Nat → Int32) : Nat → Int32 := upd a c (cw_dv (cw_ok C kn (c / 81) (c / 9 % 9) (c % 9)) (cw_gs gd s (c / 81) (c / 9 % 9) (c % 9)) (cw_fo a (c / 81) (c / 9 % 9) (c % 9)))
section
variable (f : Int32) (cn gd kn sd se rc : Nat → Int32)
theorem cw_ma2 {post : SX → Prop} {J2 J14 : Int32 → (Nat → Int32) → (Nat → Int32) → (Nat → Int32) → (Nat → Int32) → (Nat → Int32) → (Nat → Int32) → (Nat → Int32) → Prop} (c2 : Nat) (l2 : c2 ≤ 8) (e2 : cn 2 = nI c2) (s k0 k1 : Nat) (hs : s < 8) (h0 : k0 < 9) (h1 : k1 < 9) (a : Nat → Int32) (h : J14 (nI (k1 + 1)) cn gd kn sd se rc (cw_fr (cw_dH gd kn s k0 k1) 0 (c2 + 1) a)) : wX_markAvoided_27 post J2 J14 (nI s) (nI k0) (nI k1) f (c2 + 2) (nI 0) cn gd kn sd se rc a := by
  refine cw_lp (cw_dH gd kn s k0 k1) c2 (fun n a k => wX_markAvoided_27 post J2 J14 (nI s) (nI k0) (nI k1) f n (nI k) cn gd kn sd se rc a) (fun a => J14 (nI (k1 + 1)) cn gd kn sd se rc a) (fun n a hJ => ?_) (fun n a k hk hW => ?_) a h
  · unfold wX_markAvoided_27
    rw [e2]
    exact br_t (nI_lt (by omega) (by omega)) (nm_r (nI_1 k1) hJ)
  · unfold wX_markAvoided_27
    rw [e2]
    unfold cw_dH cw_dv at hW
    have hk9 : k < 9 := by omega
    have lc : cw_ct k0 k1 k < 729 := cw_ctl h0 h1 hk9
    have hi : vp_in (nI (cw_ct k0 k1 k)) 729 := vp_in_nI lc (by decide)
    refine br_f (nI_nlt hk (by omega)) (cw_cX k0 k1 k rfl rfl rfl ?_)
    rw [nI_clamp (n := cw_ct k0 k1 k) (by omega)]
    refine cw_psX f cn gd kn sd se rc a k0 k1 k h0 h1 hk9 (cw_br (fun e => ⟨hi, nm_e (nm_r (nI_1 k) ?_)⟩) (fun e => cw_gsX f cn gd kn sd se rc a s k0 k1 k hs h0 h1 hk9 (cw_br (fun g => cw_foX f cn gd kn sd se rc a k0 k1 k h0 h1 hk9 (cw_br (fun g2 => ⟨hi, nm_e (nm_r (nI_1 k) ?_)⟩) (fun g2 => ⟨hi, nm_e (nm_r (nI_1 k) ?_)⟩))) (fun g => ⟨hi, nm_e (nm_r (nI_1 k) ?_)⟩))))
    · rw [e] at hW; exact hW
    · rw [e, g, g2] at hW; exact hW
    · rw [e, g, g2] at hW; exact hW
    · rw [e, g] at hW; exact hW
theorem cw_ma1 {post : SX → Prop} {J2 : Int32 → (Nat → Int32) → (Nat → Int32) → (Nat → Int32) → (Nat → Int32) → (Nat → Int32) → (Nat → Int32) → (Nat → Int32) → Prop} (c1 c2 : Nat) (l1 : c1 ≤ 8) (l2 : c2 ≤ 8) (e1 : cn 1 = nI c1) (e2 : cn 2 = nI c2) (s k0 : Nat) (hs : s < 8) (h0 : k0 < 9) (a : Nat → Int32) (h : J2 (nI (k0 + 1)) cn gd kn sd se rc (cw_fr (fun k1 => cw_fr (cw_dH gd kn s k0 k1) 0 (c2 + 1)) 0 (c1 + 1) a)) : wX_markAvoided_14 post J2 (nI s) (nI k0) f (c1 + 2) (nI 0) cn gd kn sd se rc a := by
  refine cw_lp (fun k1 => cw_fr (cw_dH gd kn s k0 k1) 0 (c2 + 1)) c1 (fun n a k => wX_markAvoided_14 post J2 (nI s) (nI k0) f n (nI k) cn gd kn sd se rc a) (fun a => J2 (nI (k0 + 1)) cn gd kn sd se rc a) (fun n a hJ => ?_) (fun n a k hk hW => ?_) a h
  · unfold wX_markAvoided_14
    rw [e1]
    exact br_t (nI_lt (by omega) (by omega)) (nm_r (nI_1 k0) hJ)
  · unfold wX_markAvoided_14
    rw [e1]
    exact br_f (nI_nlt hk (by omega)) ⟨c2 + 2, cw_ma2 f cn gd kn sd se rc c2 l2 e2 s k0 k hs h0 (by omega) a hW⟩
theorem cw_ma0 {post : SX → Prop} (c0 c1 c2 : Nat) (l0 : c0 ≤ 8) (l1 : c1 ≤ 8) (l2 : c2 ≤ 8) (e0 : cn 0 = nI c0) (e1 : cn 1 = nI c1) (e2 : cn 2 = nI c2) (s : Nat) (hs : s < 8) (a : Nat → Int32) (h : post (f, cn, gd, kn, sd, se, rc, cw_fr (cw_hx c0 c1 c2 (cw_dH gd kn s)) 0 729 a)) : wpX_markAvoided post (f, cn, gd, kn, sd, se, rc, a) (nI s) := by
  unfold wpX_markAvoided
  dsimp only
  refine ⟨c0 + 2, ?_⟩
  rw [cw_nest c0 c1 c2 l0 l1 l2] at h
  refine cw_lp (fun k0 => cw_fr (fun k1 => cw_fr (cw_dH gd kn s k0 k1) 0 (c2 + 1)) 0 (c1 + 1)) c0 (fun n a k => wX_markAvoided_2 post (nI s) f n (nI k) cn gd kn sd se rc a) (fun a => post (f, cn, gd, kn, sd, se, rc, a)) (fun n a hJ => ?_) (fun n a k hk hW => ?_) a h
  · unfold wX_markAvoided_2
    rw [e0]
    exact br_t (nI_lt (by omega) (by omega)) hJ
  · unfold wX_markAvoided_2
    rw [e0]
    exact br_f (nI_nlt hk (by omega)) ⟨c1 + 2, cw_ma1 f cn gd kn sd se rc c1 c2 l1 l2 e1 e2 s k hs (by omega) a hW⟩
theorem cw_yc (a b c : Nat) : ((81 * nI a) + (9 * nI b)) + nI c = nI (cw_ct a b c) := by
  show ((nI 81 * nI a) + (nI 9 * nI b)) + nI c = _
  rw [pk_mul, pk_mul, nI_add, nI_add]
  exact congrArg nI (by unfold cw_ct; omega)
theorem cw_deY {post : Int32 → SY → Prop} (C : Nat → Nat) (hC : ∀ p, p < 3 → C p ≤ 8 ∧ cn p = nI (C p)) (s : Nat) (a : Nat → Int32) (h1 : cw_fr (cw_dY C gd kn s) 0 729 a (cw_ct (C 0) (C 1) (C 2)) = 0 → post 1 (f, cn, gd, kn, sd, se, rc, cw_fr (cw_dY C gd kn s) 0 729 a)) (h0 : ¬ cw_fr (cw_dY C gd kn s) 0 729 a (cw_ct (C 0) (C 1) (C 2)) = 0 → post 0 (f, cn, gd, kn, sd, se, rc, cw_fr (cw_dY C gd kn s) 0 729 a)) : wY_definitely_11 post (nI s) f 730 (nI 0) cn gd kn sd se rc a := by
  obtain ⟨a0, b0⟩ := hC 0 (by decide)
  obtain ⟨a1, b1⟩ := hC 1 (by decide)
  obtain ⟨a2, b2⟩ := hC 2 (by decide)
  have lc : cw_ct (C 0) (C 1) (C 2) < 729 := cw_ctl (by omega) (by omega) (by omega)
  refine cw_lp (cw_dY C gd kn s) 728 (fun n a k => wY_definitely_11 post (nI s) f n (nI k) cn gd kn sd se rc a) (fun a => (a (cw_ct (C 0) (C 1) (C 2)) = 0 → post 1 (f, cn, gd, kn, sd, se, rc, a)) ∧ (¬ a (cw_ct (C 0) (C 1) (C 2)) = 0 → post 0 (f, cn, gd, kn, sd, se, rc, a))) (fun n a hJ => ?_) (fun n a k hk hW => ?_) a ⟨h1, h0⟩
  · unfold wY_definitely_11
    rw [b0, b1, b2, cw_yc]
    refine br_t (by decide) (nm_e ⟨vp_in_nI lc (by decide), ?_⟩)
    rw [nI_clamp (n := cw_ct (C 0) (C 1) (C 2)) (by omega)]
    exact hJ
  · unfold wY_definitely_11
    unfold cw_dY cw_dv at hW
    have hi : vp_in (nI k) 729 := vp_in_nI (by omega) (by decide)
    have lk : k < 729 := by omega
    refine br_f (cw_729 hk) ?_
    rw [nI_clamp (n := k) (by omega)]
    refine cw_okYc f cn gd kn sd se rc a C hC k lk (cw_br (fun e => ⟨hi, nm_e (nm_r (nI_1 k) ?_)⟩) (fun e => cw_gsYc f cn gd kn sd se rc a s k lk (cw_br (fun g => cw_foYc f cn gd kn sd se rc a k lk (cw_br (fun g2 => ⟨hi, nm_e (nm_r (nI_1 k) ?_)⟩) (fun g2 => ⟨hi, nm_e (nm_r (nI_1 k) ?_)⟩))) (fun g => ⟨hi, nm_e (nm_r (nI_1 k) ?_)⟩))))
    · rw [e] at hW; exact hW
    · rw [e, g, g2] at hW; exact hW
    · rw [e, g, g2] at hW; exact hW
    · rw [e, g] at hW; exact hW
end
/-! both tables agree on the cuts within the counts -/
theorem cw_in_ct {c0 c1 c2 k0 k1 k2 : Nat} (h1 : k1 < 9) (h2 : k2 < 9) (l0 : k0 ≤ c0) (l1 : k1 ≤ c1) (l2 : k2 ≤ c2) : cw_in c0 c1 c2 (cw_ct k0 k1 k2) = true := by
  have e0 : cw_ct k0 k1 k2 / 81 = k0 := by unfold cw_ct; omega
  have e1 : cw_ct k0 k1 k2 / 9 % 9 = k1 := by unfold cw_ct; omega
  have e2 : cw_ct k0 k1 k2 % 9 = k2 := by unfold cw_ct; omega
  unfold cw_in
  rw [e0, e1, e2]
  simp [l0, l1, l2]
theorem cw_in_le {c0 c1 c2 c : Nat} (h : cw_in c0 c1 c2 c = true) : c / 81 ≤ c0 ∧ c / 9 % 9 ≤ c1 ∧ c % 9 ≤ c2 := by
  unfold cw_in at h
  simp at h
  omega
theorem cw_fo_eq {c0 c1 c2 k0 k1 k2 : Nat} {a b : Nat → Int32} (h1 : k1 < 9) (h2 : k2 < 9) (l0 : k0 ≤ c0) (l1 : k1 ≤ c1) (l2 : k2 ≤ c2) (h : ∀ j, j < cw_ct k0 k1 k2 → cw_in c0 c1 c2 j = true → a j = b j) : cw_fo a k0 k1 k2 = cw_fo b k0 k1 k2 := by
  have F : ∀ k c, (0 < k → a c = b c) → cw_fo1 a k c = cw_fo1 b k c := by
    intro k c hc
    unfold cw_fo1
    rcases Nat.eq_zero_or_pos k with e | e
    · subst e; rfl
    · rw [hc e]
  unfold cw_fo
  rw [F k0 (cw_ct (k0 - 1) k1 k2) (fun z => h _ (by unfold cw_ct; omega) (cw_in_ct h1 h2 (by omega) l1 l2)), F k1 (cw_ct k0 (k1 - 1) k2) (fun z => h _ (by unfold cw_ct; omega) (cw_in_ct (by omega) h2 l0 (by omega) l2)), F k2 (cw_ct k0 k1 (k2 - 1)) (fun z => h _ (by unfold cw_ct; omega) (cw_in_ct h1 (by omega) l0 l1 (by omega)))]
theorem cw_dE (C : Nat → Nat) (gd kn : Nat → Int32) (s : Nat) : ∀ (d c : Nat) (a b : Nat → Int32), c + d = 729 → (∀ j, j < c → cw_in (C 0) (C 1) (C 2) j = true → a j = b j) → ∀ j, j < 729 → cw_in (C 0) (C 1) (C 2) j = true → cw_fr (cw_hx (C 0) (C 1) (C 2) (cw_dH gd kn s)) c d a j = cw_fr (cw_dY C gd kn s) c d b j := by
  intro d
  induction d with
  | zero =>
    intro c a b e h j hj hi
    rw [cw_fr0, cw_fr0]
    exact h j (by omega) hi
  | succ d ih =>
    intro c a b e h
    rw [cw_frS, cw_frS]
    refine ih (c + 1) _ _ (by omega) (fun j hj hi => ?_)
    cases g : cw_in (C 0) (C 1) (C 2) c
    · have n : j ≠ c := by
        intro z
        subst z
        rw [g] at hi
        exact absurd hi (by decide)
      unfold cw_hx cw_dY
      rw [g, pk_un n]
      exact h j (by omega) hi
    · obtain ⟨l0, l1, l2⟩ := cw_in_le g
      have ec : cw_ct (c / 81) (c / 9 % 9) (c % 9) = c := cw_ct_of c (by omega)
      have ef : cw_fo a (c / 81) (c / 9 % 9) (c % 9) = cw_fo b (c / 81) (c / 9 % 9) (c % 9) := cw_fo_eq (by omega) (by omega) l0 l1 l2 (by rw [ec]; exact h)
      unfold cw_hx cw_dY cw_dH
      rw [g, if_pos rfl, cw_okE, g, Bool.true_and, ec, ef]
      by_cases n : j = c
      · subst n
        rw [pk_us, pk_us]
      · rw [pk_un n, pk_un n]
        exact h j (by omega) hi
end
section
/-! the two states are the same but for the scratch of definitely -/
def i_Rel (_ : Nat) (u : SX) (v : SY) : Prop := ∃ (m : Nat) (C : Nat → Nat) (cn gd kn sd se rc ax ay : Nat → Int32), u = (nI m, cn, gd, kn, sd, se, rc, ax) ∧ v = (nI m, cn, gd, kn, sd, se, rc, ay) ∧ cw_I C cn kn sd se m
theorem i_up {k : Nat} {u : SX} {v : SY} (h : i_Rel k u v) : i_Rel (k + 4) u v := h
theorem i_vc0 : wpX_init (fun u => wpY_init (fun v => i_Rel 0 u v)) := by
  unfold wpX_init wpY_init
  refine ⟨0, fun _ => 0, fun _ => 0, fun _ => 0, fun _ => 0, fun _ => 0, fun _ => 0, fun _ => 0, fun _ => 0, fun _ => 0, rfl, rfl, fun p _ => ⟨Nat.zero_le 8, rfl⟩, Nat.zero_le _, fun j hj => absurd hj (by omega), fun p k q _ _ _ => ?_⟩
  show (0 : Int32) ≤ nI 0
  decide
theorem i_vc_start {k : Nat} {u : SX} {v : SY} (I : i_Rel k u v) (hk : k + 4 ≤ 2048) (v1 : Int32) (v2 : Int32) : wpX_start (fun r u' => wpY_start (fun r' v' => r' = r ∧ i_Rel (k + 4) u' v') v v1 (lw_bz v2)) u v1 (lw_bz v2) := by
  obtain ⟨m, C, cn, gd, kn, sd, se, rc, ax, ay, rfl, rfl, I⟩ := I
  unfold wpX_start wpY_start
  dsimp only
  rcases cw_proc v1 with ⟨p, hp, rfl⟩ | ⟨hX, hY⟩
  · have hi : vp_in (nI (p * 9 + 0)) 27 := vp_in_nI (by omega) (by decide)
    refine cw_pX hp (br_f (by decide) (cw_sX p 0 rfl rfl ⟨hi, nm_e (cw_pY hp (br_t rfl ?_))⟩))
    rw [cw_y0]
    exact ⟨hi, nm_e ⟨rfl, m, C, cn, _, kn, sd, se, rc, ax, ay, rfl, rfl, I⟩⟩
  · exact hX _ (br_t rfl (hY _ (br_f (by decide) ⟨rfl, m, C, cn, gd, kn, sd, se, rc, ax, ay, rfl, rfl, I⟩)))
theorem i_vc_step {k : Nat} {u : SX} {v : SY} (I : i_Rel k u v) (hk : k + 4 ≤ 2048) (v1 : Int32) (v2 : Int32) : wpX_step (fun r u' => wpY_step (fun r' v' => r' = r ∧ i_Rel (k + 4) u' v') v v1 (lw_bz v2)) u v1 (lw_bz v2) := by
  obtain ⟨m, C, cn, gd, kn, sd, se, rc, ax, ay, rfl, rfl, I⟩ := I
  unfold wpX_step wpY_step
  dsimp only
  rcases cw_proc v1 with ⟨p, hp, rfl⟩ | ⟨hX, hY⟩
  · have hi : vp_in (nI p) 3 := vp_in_nI hp (by decide)
    obtain ⟨c8, ec⟩ := I.1 p hp
    rw [nI_clamp (n := p) (by omega), ec]
    by_cases hc : C p < 8
    · refine cw_meT _ cn gd kn sd se rc ax p (C p) hp hc ec (br_f (by decide) (cw_aeX _ cn gd kn sd se rc ax p (C p) hp hc ec _ ?_))
      refine ⟨hi, cw_pY hp (br_t rfl ⟨hi, br_f (cw_c8 hc) (cw_aeY _ cn gd kn sd se rc ay p (C p) hp hc ec _ ?_)⟩)⟩
      exact ⟨hi, rfl, m, cw_up C p, _, _, _, sd, se, rc, ax, ay, rfl, rfl, (cw_I_ev hp hc I).1⟩
    · have e8 : C p = 8 := by omega
      rw [e8] at ec ⊢
      exact cw_meF _ cn gd kn sd se rc ax p hp ec (br_t rfl (cw_pY hp (br_t rfl ⟨hi, br_t rfl ⟨rfl, m, C, cn, gd, kn, sd, se, rc, ax, ay, rfl, rfl, I⟩⟩)))
  · exact cw_meB _ cn gd kn sd se rc ax hX (br_t rfl (hY _ (br_f (by decide) ⟨rfl, m, C, cn, gd, kn, sd, se, rc, ax, ay, rfl, rfl, I⟩)))
theorem i_vc_send {k : Nat} {u : SX} {v : SY} (I : i_Rel k u v) (hk : k + 4 ≤ 2048) (v1 : Int32) (v2 : Int32) : wpX_send (fun r u' => wpY_send (fun r' v' => r' = r ∧ i_Rel (k + 4) u' v') v v1 (lw_bz v2)) u v1 (lw_bz v2) := by
  obtain ⟨m, C, cn, gd, kn, sd, se, rc, ax, ay, rfl, rfl, I⟩ := I
  unfold wpX_send wpY_send
  dsimp only
  rcases cw_proc v1 with ⟨p, hp, rfl⟩ | ⟨hX, hY⟩
  · have hi : vp_in (nI p) 3 := vp_in_nI hp (by decide)
    obtain ⟨c8, ec⟩ := I.1 p hp
    rw [nI_clamp (n := p) (by omega), ec]
    by_cases hc : C p < 8
    · have I2 := cw_I_ev hp hc I
      have m24 : m + 1 ≤ 24 := by
        have a0 := (I2.1.1 0 (by decide)).1
        have a1 := (I2.1.1 1 (by decide)).1
        have a2 := (I2.1.1 2 (by decide)).1
        have := I2.2
        omega
      have hm : vp_in (nI m) 24 := vp_in_nI (by omega) (by decide)
      refine cw_meT _ cn gd kn sd se rc ax p (C p) hp hc ec (br_f (by decide) (br_t (nI_lt (b := 24) (by omega) (by decide)) (cw_aeX _ cn gd kn sd se rc ax p (C p) hp hc ec _ ?_)))
      dsimp only
      rw [nI_clamp (n := m) (by omega), pk_us]
      refine ⟨hm, nm_e ⟨hi, hm, nm_e (nm_r (nI_1 m) (cw_pY hp (br_t rfl ⟨hi, br_f (cw_c8 hc) (cw_aeY _ cn gd kn sd se rc ay p (C p) hp hc ec _ ?_)⟩)))⟩⟩
      dsimp only
      rw [nI_clamp (n := m) (by omega), pk_us]
      refine ⟨hm, nm_e ⟨hi, hm, nm_e (nm_r (nI_1 m) ⟨nI_pred m, m + 1, cw_up C p, _, _, _, _, _, rc, ax, ay, rfl, rfl, ?_⟩)⟩⟩
      have I3 := cw_I_sd hp I2.1 I2.2
      rw [cw_up_s] at I3
      exact I3
    · have e8 : C p = 8 := by omega
      rw [e8] at ec ⊢
      exact cw_meF _ cn gd kn sd se rc ax p hp ec (br_t rfl (cw_pY hp (br_t rfl ⟨hi, br_t rfl ⟨rfl, m, C, cn, gd, kn, sd, se, rc, ax, ay, rfl, rfl, I⟩⟩)))
  · exact cw_meB _ cn gd kn sd se rc ax hX (br_t rfl (hY _ (br_f (by decide) ⟨rfl, m, C, cn, gd, kn, sd, se, rc, ax, ay, rfl, rfl, I⟩)))
theorem i_vc_receive {k : Nat} {u : SX} {v : SY} (I : i_Rel k u v) (hk : k + 4 ≤ 2048) (v1 : Int32) (v2 : Int32) (v3 : Int32) : wpX_receive (fun r u' => wpY_receive (fun r' v' => r' = r ∧ i_Rel (k + 4) u' v') v v1 v2 (lw_bz v3)) u v1 v2 (lw_bz v3) := by
  obtain ⟨m, C, cn, gd, kn, sd, se, rc, ax, ay, rfl, rfl, I⟩ := I
  have Z : i_Rel (k + 4) (nI m, cn, gd, kn, sd, se, rc, ax) (nI m, cn, gd, kn, sd, se, rc, ay) := ⟨m, C, cn, gd, kn, sd, se, rc, ax, ay, rfl, rfl, I⟩
  unfold wpX_receive wpY_receive wpX_mayReceive
  dsimp only
  rcases cw_proc v1 with ⟨p, hp, rfl⟩ | ⟨hX, hY⟩
  · have hi : vp_in (nI p) 3 := vp_in_nI hp (by decide)
    obtain ⟨c8, ec⟩ := I.1 p hp
    rw [nI_clamp (n := p) (by omega), ec]
    by_cases hc : C p < 8
    · refine cw_meT _ cn gd kn sd se rc ax p (C p) hp hc ec (br_f (by decide) ?_)
      have m24 := cw_I_24 I
      rcases pk_ix v2 (n := m) (by omega) with h | h | ⟨j, hj, rfl⟩
      · exact br_t h (br_t rfl (cw_pY hp (br_t rfl ⟨hi, br_f (cw_c8 hc) (br_t h ⟨rfl, Z⟩)⟩)))
      · have h0 : ¬ v2 < 0 := Int32.not_lt.mpr (Int32.le_trans (nI_pos' (n := m) (by omega)) h)
        exact br_f h0 (br_t h (br_t rfl (cw_pY hp (br_t rfl ⟨hi, br_f (cw_c8 hc) (br_f h0 (br_f (Int32.not_lt.mpr h) ⟨rfl, Z⟩))⟩))))
      · have h0 : ¬ nI j < 0 := nI_pos (by omega)
        have hlt : nI j < nI m := nI_lt hj (by omega)
        have hj24 : vp_in (nI j) 24 := vp_in_nI (by omega) (by decide)
        rw [nI_clamp (n := j) (by omega)]
        refine br_f h0 (br_f (Int32.not_le.mpr hlt) ⟨hj24, ?_⟩)
        by_cases hr : rc j = 0
        · refine br_t hr ⟨hj24, ?_⟩
          by_cases hs : sd j = nI p
          · exact br_t hs (br_t rfl (cw_pY hp (br_t rfl ⟨hi, br_f (cw_c8 hc) (br_f h0 (br_t hlt ⟨hj24, br_t hr ⟨hj24, br_t hs ⟨rfl, Z⟩⟩⟩))⟩)))
          · refine br_f hs (br_f (by decide) (cw_aeX _ cn gd kn sd se rc ax p (C p) hp hc ec _ ?_))
            obtain ⟨I2, _⟩ := cw_I_ev hp hc I
            obtain ⟨s, e, s3, e8, es, ee⟩ := I2.2.2.1 j hj
            have u8 := (I2.1 s s3).1
            have hK := I2.2.2.2
            have hD : cw_D (cw_ev kn p (C p)) s e p (C p + 1) := by
              have q := hK s e p s3 e8 hp
              rw [cw_up_s] at q
              unfold cw_D
              rw [show cw_ev kn p (C p) (cw_ix p (C p + 1) p) = nI (C p + 1) by unfold cw_ev; rw [pk_us]]
              exact q
            dsimp only
            refine cw_leX _ _ _ _ sd se rc ax s e p (C p + 1) j s3 (by omega) hp (by omega) (by omega) pk_us es ee hD ?_
            dsimp only
            refine ⟨hj24, nm_e ⟨hi, cw_pY hp (br_t rfl ⟨hi, br_f (cw_c8 hc) (br_f h0 (br_t hlt ⟨hj24, br_t hr ⟨hj24, br_f hs (cw_aeY _ cn gd kn sd se rc ay p (C p) hp hc ec _ ?_)⟩⟩))⟩)⟩⟩
            dsimp only
            rw [es, pk_us]
            refine ⟨hj24, nm_e ⟨hj24, nm_e ⟨hi, nm_e ⟨4, cw_leY _ _ _ _ sd se _ ay s e p (C p + 1) j s3 (by omega) hp (by omega) (by omega) ee ⟨rfl, m, cw_up C p, _, _, _, sd, se, _, ax, ay, rfl, rfl, ?_⟩⟩⟩⟩⟩
            exact ⟨I2.1, I2.2.1, I2.2.2.1, cw_K_ly s3 e8 (by decide) (cw_K_ly s3 e8 (by decide) (cw_K_ly s3 e8 (by decide) hK))⟩
        · exact br_f hr (br_t rfl (cw_pY hp (br_t rfl ⟨hi, br_f (cw_c8 hc) (br_f h0 (br_t hlt ⟨hj24, br_f hr ⟨rfl, Z⟩⟩))⟩)))
    · have e8 : C p = 8 := by omega
      rw [e8] at ec ⊢
      exact cw_meF _ cn gd kn sd se rc ax p hp ec (br_t rfl (cw_pY hp (br_t rfl ⟨hi, br_t rfl ⟨rfl, Z⟩⟩)))
  · exact cw_meB _ cn gd kn sd se rc ax hX (br_t rfl (hY _ (br_f (by decide) ⟨rfl, Z⟩)))
theorem i_vc_knows {k : Nat} {u : SX} {v : SY} (I : i_Rel k u v) (hk : k + 4 ≤ 2048) (v1 : Int32) (v2 : Int32) (v3 : Int32) : wpX_knows (fun r => wpY_knows (fun r' => r' = r ∧ i_Rel (k + 4) u v) v v1 v2 v3) u v1 v2 v3 := by
  obtain ⟨m, C, cn, gd, kn, sd, se, rc, ax, ay, rfl, rfl, I⟩ := I
  have Z : i_Rel (k + 4) (nI m, cn, gd, kn, sd, se, rc, ax) (nI m, cn, gd, kn, sd, se, rc, ay) := ⟨m, C, cn, gd, kn, sd, se, rc, ax, ay, rfl, rfl, I⟩
  unfold wpX_knows wpY_knows
  dsimp only
  rcases cw_proc v1 with ⟨p, hp, rfl⟩ | ⟨hX, hY⟩
  · have hi : vp_in (nI p) 3 := vp_in_nI hp (by decide)
    obtain ⟨c8, ec⟩ := I.1 p hp
    rw [nI_clamp (n := p) (by omega), ec]
    rcases cw_proc v3 with ⟨q, hq, rfl⟩ | ⟨hX, hY⟩
    · refine cw_pX hp (br_f (by decide) (cw_pX hq (br_f (by decide) ?_)))
      by_cases h0 : v2 < 0
      · exact br_t h0 (cw_pY hp (br_t rfl (cw_pY hq (br_t rfl (br_t h0 ⟨rfl, Z⟩)))))
      · obtain ⟨j, hj, rfl⟩ := nI_of h0
        refine br_f h0 ⟨hi, ?_⟩
        by_cases hle : nI j ≤ nI (C p)
        · have hj2 : j ≤ C p := (nI_leI hj (by omega)).mp hle
          have l : cw_ix p j q < 81 := cw_ixl hp (by omega) hq
          have hx : vp_in (nI (cw_ix p j q)) 81 := vp_in_nI l (by decide)
          refine br_t hle (cw_kX p j q rfl rfl rfl ⟨hx, cw_pY hp (br_t rfl (cw_pY hq (br_t rfl (br_f h0 ⟨hi, br_t hle ?_⟩))))⟩)
          rw [cw_yi]
          exact ⟨hx, rfl, Z⟩
        · exact br_f hle (cw_pY hp (br_t rfl (cw_pY hq (br_t rfl (br_f h0 ⟨hi, br_f hle ⟨rfl, Z⟩⟩)))))
    · exact cw_pX hp (br_f (by decide) (hX _ (br_t rfl (cw_pY hp (br_t rfl (hY _ (br_f (by decide) ⟨rfl, Z⟩)))))))
  · exact hX _ (br_t rfl (hY _ (br_f (by decide) ⟨rfl, Z⟩)))
theorem i_vc_possibly {k : Nat} {u : SX} {v : SY} (I : i_Rel k u v) (hk : k + 4 ≤ 2048) (v1 : Int32) : wpX_possibly (fun r => wpY_possibly (fun r' => r' = r ∧ i_Rel (k + 4) u v) v v1) u v1 := by
  obtain ⟨m, C, cn, gd, kn, sd, se, rc, ax, ay, rfl, rfl, I⟩ := I
  have Z : i_Rel (k + 4) (nI m, cn, gd, kn, sd, se, rc, ax) (nI m, cn, gd, kn, sd, se, rc, ay) := ⟨m, C, cn, gd, kn, sd, se, rc, ax, ay, rfl, rfl, I⟩
  have hC := I.1
  unfold wpX_possibly wpY_possibly
  dsimp only
  rcases cw_set v1 with ⟨s, h1, h7, rfl⟩ | ⟨hX, hY⟩
  · refine cw_tX h1 h7 (br_f (by decide) (cw_lo0 _ cn gd kn sd se rc ax (C 0) (C 1) (C 2) (hC 0 (by decide)).1 (hC 1 (by decide)).1 (hC 2 (by decide)).1 (hC 0 (by decide)).2 (hC 1 (by decide)).2 (hC 2 (by decide)).2 s 0 (by omega) (by decide) ?_))
    rw [← cw_lE]
    refine br_c (fun g => cw_tY h1 h7 (br_t rfl ⟨730, ?_⟩)) (fun g => cw_tY h1 h7 (br_t rfl ⟨730, ?_⟩))
    · exact cw_posY _ cn gd kn sd se rc ay C hC s 729 0 rfl (fun _ => ⟨rfl, Z⟩) (fun n => absurd g n)
    · exact cw_posY _ cn gd kn sd se rc ay C hC s 729 0 rfl (fun n => absurd n g) (fun _ => ⟨rfl, Z⟩)
  · exact hX _ (br_t rfl (hY _ (br_f (by decide) ⟨rfl, Z⟩)))
theorem i_vc_least {k : Nat} {u : SX} {v : SY} (I : i_Rel k u v) (hk : k + 4 ≤ 2048) (v1 : Int32) (v2 : Int32) : wpX_least (fun r => wpY_least (fun r' => r' = r ∧ i_Rel (k + 4) u v) v v1 v2) u v1 v2 := by
  obtain ⟨m, C, cn, gd, kn, sd, se, rc, ax, ay, rfl, rfl, I⟩ := I
  have Z : i_Rel (k + 4) (nI m, cn, gd, kn, sd, se, rc, ax) (nI m, cn, gd, kn, sd, se, rc, ay) := ⟨m, C, cn, gd, kn, sd, se, rc, ax, ay, rfl, rfl, I⟩
  have hC := I.1
  unfold wpX_least wpY_least
  dsimp only
  rcases cw_set v1 with ⟨s, h1, h7, rfl⟩ | ⟨hX, hY⟩
  · rcases cw_proc v2 with ⟨p, hp, rfl⟩ | ⟨hX, hY⟩
    · refine cw_tX h1 h7 (br_f (by decide) (cw_pX hp (br_f (by decide) (cw_lo0 _ cn gd kn sd se rc ax (C 0) (C 1) (C 2) (hC 0 (by decide)).1 (hC 1 (by decide)).1 (hC 2 (by decide)).1 (hC 0 (by decide)).2 (hC 1 (by decide)).2 (hC 2 (by decide)).2 s p (by omega) hp ?_))))
      rw [← cw_lE]
      exact cw_tY h1 h7 (br_t rfl (cw_pY hp (br_t rfl ⟨730, cw_leaY _ cn gd kn sd se rc ay C hC s p hp (-1) ⟨rfl, Z⟩⟩)))
    · exact cw_tX h1 h7 (br_f (by decide) (hX _ (br_t rfl (cw_tY h1 h7 (br_t rfl (hY _ (br_f (by decide) ⟨rfl, Z⟩)))))))
  · exact hX _ (br_t rfl (hY _ (br_f (by decide) ⟨rfl, Z⟩)))
theorem i_vc_definitely {k : Nat} {u : SX} {v : SY} (I : i_Rel k u v) (hk : k + 4 ≤ 2048) (v1 : Int32) : wpX_definitely (fun r u' => wpY_definitely (fun r' v' => r' = r ∧ i_Rel (k + 4) u' v') v v1) u v1 := by
  obtain ⟨m, C, cn, gd, kn, sd, se, rc, ax, ay, rfl, rfl, I⟩ := I
  have hC := I.1
  obtain ⟨a0, b0⟩ := hC 0 (by decide)
  obtain ⟨a1, b1⟩ := hC 1 (by decide)
  obtain ⟨a2, b2⟩ := hC 2 (by decide)
  unfold wpX_definitely wpY_definitely
  dsimp only
  rcases cw_set v1 with ⟨s, h1, h7, rfl⟩ | ⟨hX, hY⟩
  · have lc : cw_ct (C 0) (C 1) (C 2) < 729 := cw_ctl (by omega) (by omega) (by omega)
    have E := cw_dE C gd kn s 729 0 ax ay rfl (fun j hj => absurd hj (by omega)) (cw_ct (C 0) (C 1) (C 2)) lc (cw_in_ct (by omega) (by omega) (Nat.le_refl _) (Nat.le_refl _) (Nat.le_refl _))
    refine cw_tX h1 h7 (br_f (by decide) (cw_ma0 _ cn gd kn sd se rc (C 0) (C 1) (C 2) a0 a1 a2 b0 b1 b2 s (by omega) ax ?_))
    dsimp only
    refine cw_cX (C 0) (C 1) (C 2) b0 b1 b2 ⟨vp_in_nI lc (by decide), ?_⟩
    rw [nI_clamp (n := cw_ct (C 0) (C 1) (C 2)) (by omega)]
    rw [E]
    refine br_c (fun g => cw_tY h1 h7 (br_t rfl ⟨730, ?_⟩)) (fun g => cw_tY h1 h7 (br_t rfl ⟨730, ?_⟩))
    · exact cw_deY _ cn gd kn sd se rc C hC s ay (fun _ => ⟨rfl, m, C, cn, gd, kn, sd, se, rc, _, _, rfl, rfl, I⟩) (fun n => absurd g n)
    · exact cw_deY _ cn gd kn sd se rc C hC s ay (fun n => absurd n g) (fun _ => ⟨rfl, m, C, cn, gd, kn, sd, se, rc, _, _, rfl, rfl, I⟩)
  · exact hX _ (br_t rfl (hY _ (br_f (by decide) ⟨rfl, m, C, cn, gd, kn, sd, se, rc, ax, ay, rfl, rfl, I⟩)))
theorem i_vc_cuts {k : Nat} {u : SX} {v : SY} (I : i_Rel k u v) (hk : k + 4 ≤ 2048) : wpX_cuts (fun r => wpY_cuts (fun r' => r' = r ∧ i_Rel (k + 4) u v) v) u := by
  obtain ⟨m, C, cn, gd, kn, sd, se, rc, ax, ay, rfl, rfl, I⟩ := I
  have hC := I.1
  unfold wpX_cuts wpY_cuts
  dsimp only
  refine ⟨C 0 + 2, cw_cu0 _ cn gd kn sd se rc ax (C 0) (C 1) (C 2) (hC 0 (by decide)).1 (hC 1 (by decide)).1 (hC 2 (by decide)).1 (hC 0 (by decide)).2 (hC 1 (by decide)).2 (hC 2 (by decide)).2 0 ?_⟩
  rw [← cw_cE]
  exact ⟨730, cw_cuY _ cn gd kn sd se rc ay C hC 0 ⟨rfl, m, C, cn, gd, kn, sd, se, rc, ax, ay, rfl, rfl, I⟩⟩
theorem i_vc_events {k : Nat} {u : SX} {v : SY} (I : i_Rel k u v) (hk : k + 4 ≤ 2048) (v1 : Int32) : wpX_events (fun r => wpY_events (fun r' => r' = r ∧ i_Rel (k + 4) u v) v v1) u v1 := by
  obtain ⟨m, C, cn, gd, kn, sd, se, rc, ax, ay, rfl, rfl, I⟩ := I
  have Z : i_Rel (k + 4) (nI m, cn, gd, kn, sd, se, rc, ax) (nI m, cn, gd, kn, sd, se, rc, ay) := ⟨m, C, cn, gd, kn, sd, se, rc, ax, ay, rfl, rfl, I⟩
  unfold wpX_events wpY_events
  dsimp only
  rcases cw_proc v1 with ⟨p, hp, rfl⟩ | ⟨hX, hY⟩
  · have hi : vp_in (nI p) 3 := vp_in_nI hp (by decide)
    exact cw_pX hp (br_f (by decide) ⟨hi, cw_pY hp (br_t rfl ⟨hi, rfl, Z⟩)⟩)
  · exact hX _ (br_t rfl (hY _ (br_f (by decide) ⟨rfl, Z⟩)))
end
