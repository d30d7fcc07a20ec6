section
/-! rows of kit/rows/PURE-ROWS, pasted -/
theorem pk_us {f : Nat → Int32} {k : Nat} {x : Int32} : upd f k x k = x := if_pos rfl
theorem pk_un {f : Nat → Int32} {k j : Nat} {x : Int32} (h : j ≠ k) : upd f k x j = f j := if_neg h
theorem pk_sub {a b : Nat} (h : b ≤ a) : nI a - nI b = nI (a - b) := by
  obtain ⟨c, rfl⟩ : ∃ c, a = c + b := ⟨a - b, by omega⟩
  rw [← nI_add, Int32.add_sub_cancel, Nat.add_sub_cancel]
theorem pk_mul (a b : Nat) : nI a * nI b = nI (a * b) := (Int32.ofNat_mul a b).symm
theorem pk_div {a d : Nat} (ha : a < 2 ^ 31) (h0 : 0 < d) (hd : d < 2 ^ 31) : nI a / nI d = nI (a / d) := by
  apply Int32.toInt_inj.mp
  rw [lg_idiv_nonneg (by rw [nI_toInt ha]; omega) (by rw [nI_toInt hd]; omega), nI_toInt ha, nI_toInt hd, nI_toInt (Nat.lt_of_le_of_lt (Nat.div_le_self a d) ha)]
  first | rfl | exact (Int.natCast_ediv _ _).symm
theorem pk_rem {a d : Nat} (ha : a < 2 ^ 31) (h0 : 0 < d) (hd : d < 2 ^ 31) : nI a - nI a / nI d * nI d = nI (a % d) := by
  rw [pk_div ha h0 hd, pk_mul, pk_sub (Nat.div_mul_le_self a d)]
  exact congrArg nI (by have := Nat.div_add_mod' a d; omega)
theorem pk_ix (x : Int32) {n : Nat} (hn : n < 2 ^ 31) : x < 0 ∨ nI n ≤ x ∨ ∃ j : Nat, j < n ∧ x = nI j := by
  by_cases h : x < 0
  · exact Or.inl h
  · obtain ⟨j, hj, rfl⟩ := nI_of h
    by_cases h2 : j < n
    · exact Or.inr (Or.inr ⟨j, h2, rfl⟩)
    · exact Or.inr (Or.inl (nI_le (by omega) hj))

/-! a counted walk: from k on, d steps -/
def cw_fr {σ : Type} (g : Nat → σ → σ) : Nat → Nat → σ → σ
  | _, 0, s => s
  | k, d + 1, s => cw_fr g (k + 1) d (g k s)
theorem cw_fr0 {σ : Type} (g : Nat → σ → σ) (k : Nat) (s : σ) : cw_fr g k 0 s = s := by
  unfold cw_fr; rfl
theorem cw_frS {σ : Type} (g : Nat → σ → σ) (k d : Nat) (s : σ) : cw_fr g k (d + 1) s = cw_fr g (k + 1) d (g k s) := by
  conv => lhs; unfold cw_fr
theorem cw_fr_add {σ : Type} (g : Nat → σ → σ) (b : Nat) : ∀ (a k : Nat) (s : σ), cw_fr g k (a + b) s = cw_fr g (k + a) b (cw_fr g k a s) := by
  intro a
  induction a with
  | zero => intro k s; rw [Nat.zero_add, cw_fr0, Nat.add_zero]
  | succ a ih =>
    intro k s
    rw [Nat.add_right_comm a 1 b, cw_frS, cw_frS, ih, Nat.add_assoc k 1 a, Nat.add_comm 1 a]
theorem cw_fr_cong {σ : Type} (g g' : Nat → σ → σ) : ∀ (d k : Nat) (s : σ), (∀ j s, k ≤ j → j < k + d → g j s = g' j s) → cw_fr g k d s = cw_fr g' k d s := by
  intro d
  induction d with
  | zero => intro k s _; rw [cw_fr0, cw_fr0]
  | succ d ih =>
    intro k s h
    rw [cw_frS, cw_frS, h k s (Nat.le_refl k) (by omega)]
    exact ih (k + 1) _ (fun j s h1 h2 => h j s (by omega) (by omega))
theorem cw_fr_id {σ : Type} (g : Nat → σ → σ) : ∀ (d k : Nat) (s : σ), (∀ j s, k ≤ j → j < k + d → g j s = s) → cw_fr g k d s = s := by
  intro d
  induction d with
  | zero => intro k s _; rw [cw_fr0]
  | succ d ih =>
    intro k s h
    rw [cw_frS, h k s (Nat.le_refl k) (by omega)]
    exact ih (k + 1) _ (fun j s h1 h2 => h j s (by omega) (by omega))
theorem cw_fr_sh {σ : Type} (g : Nat → σ → σ) (b : Nat) : ∀ (d k : Nat) (s : σ), cw_fr g (b + k) d s = cw_fr (fun j => g (b + j)) k d s := by
  intro d
  induction d with
  | zero => intro k s; rw [cw_fr0, cw_fr0]
  | succ d ih => intro k s; rw [cw_frS, cw_frS]; exact ih (k + 1) (g (b + k) s)
theorem cw_fr_blk {σ : Type} (g : Nat → σ → σ) (a : Nat) : ∀ (n k : Nat) (s : σ), cw_fr g (a * k) (a * n) s = cw_fr (fun i => cw_fr g (a * i) a) k n s := by
  intro n
  induction n with
  | zero => intro k s; rw [Nat.mul_zero, cw_fr0, cw_fr0]
  | succ n ih =>
    intro k s
    rw [cw_frS, Nat.mul_succ a n, Nat.add_comm (a * n) a, cw_fr_add, ← Nat.mul_succ]
    exact ih (k + 1) _
theorem cw_fr_cut {σ : Type} (g : Nat → σ → σ) (c : Nat) (hc : c ≤ 8) (s : σ) (h : ∀ j s, c < j → j < 9 → g j s = s) : cw_fr g 0 9 s = cw_fr g 0 (c + 1) s := by
  have e := cw_fr_add g (8 - c) (c + 1) 0 s
  rw [show (c + 1) + (8 - c) = 9 by omega] at e
  rw [e]
  exact cw_fr_id g _ _ _ (fun j s h1 h2 => h j s (by omega) (by omega))

/-! the cuts within the counts, one after the other, as three nested walks -/
def cw_in (c0 c1 c2 c : Nat) : Bool := decide (c / 81 ≤ c0) && decide (c / 9 % 9 ≤ c1) && decide (c % 9 ≤ c2)
def cw_hx {σ : Type} (c0 c1 c2 : Nat) (H : Nat → Nat → Nat → σ → σ) (c : Nat) (s : σ) : σ := if cw_in c0 c1 c2 c = true then H (c / 81) (c / 9 % 9) (c % 9) s else s
theorem cw_hx_t {σ : Type} {c0 c1 c2 : Nat} {H : Nat → Nat → Nat → σ → σ} {s : σ} (k0 k1 k2 : Nat) (h1 : k1 < 9) (h2 : k2 < 9) (l0 : k0 ≤ c0) (l1 : k1 ≤ c1) (l2 : k2 ≤ c2) : cw_hx c0 c1 c2 H (9 * (9 * k0 + k1) + k2) s = H k0 k1 k2 s := by
  have e0 : (9 * (9 * k0 + k1) + k2) / 81 = k0 := by omega
  have e1 : (9 * (9 * k0 + k1) + k2) / 9 % 9 = k1 := by omega
  have e2 : (9 * (9 * k0 + k1) + k2) % 9 = k2 := by omega
  unfold cw_hx cw_in
  rw [e0, e1, e2]
  simp [l0, l1, l2]
theorem cw_hx_f {σ : Type} {c0 c1 c2 : Nat} {H : Nat → Nat → Nat → σ → σ} {s : σ} (k0 k1 k2 : Nat) (h1 : k1 < 9) (h2 : k2 < 9) (l : c0 < k0 ∨ c1 < k1 ∨ c2 < k2) : cw_hx c0 c1 c2 H (9 * (9 * k0 + k1) + k2) s = s := by
  have e0 : (9 * (9 * k0 + k1) + k2) / 81 = k0 := by omega
  have e1 : (9 * (9 * k0 + k1) + k2) / 9 % 9 = k1 := by omega
  have e2 : (9 * (9 * k0 + k1) + k2) % 9 = k2 := by omega
  unfold cw_hx cw_in
  rw [e0, e1, e2]
  refine if_neg ?_
  simp
  omega
theorem cw_n2 {σ : Type} (c0 c1 c2 : Nat) (h2 : c2 ≤ 8) (H : Nat → Nat → Nat → σ → σ) (k0 k1 : Nat) (l0 : k0 ≤ c0) (l1 : k1 ≤ c1) (h1 : c1 ≤ 8) (s : σ) : cw_fr (cw_hx c0 c1 c2 H) (9 * (9 * k0 + k1)) 9 s = cw_fr (H k0 k1) 0 (c2 + 1) s := by
  have e := cw_fr_sh (cw_hx c0 c1 c2 H) (9 * (9 * k0 + k1)) 9 0 s
  rw [Nat.add_zero] at e
  rw [e, cw_fr_cut _ c2 h2 s (fun j s hj h9 => cw_hx_f k0 k1 j (by omega) h9 (Or.inr (Or.inr hj)))]
  exact cw_fr_cong _ _ _ _ _ (fun j s _ hj => cw_hx_t k0 k1 j (by omega) (by omega) l0 l1 (by omega))
theorem cw_n2f {σ : Type} (c0 c1 c2 : Nat) (H : Nat → Nat → Nat → σ → σ) (k0 k1 : Nat) (h1 : k1 < 9) (l : c0 < k0 ∨ c1 < k1) (s : σ) : cw_fr (cw_hx c0 c1 c2 H) (9 * (9 * k0 + k1)) 9 s = s := by
  have e := cw_fr_sh (cw_hx c0 c1 c2 H) (9 * (9 * k0 + k1)) 9 0 s
  rw [Nat.add_zero] at e
  rw [e]
  exact cw_fr_id _ _ _ _ (fun j s _ hj => cw_hx_f k0 k1 j h1 (by omega) (by omega))
theorem cw_n1e {σ : Type} (h : Nat → σ → σ) (k0 : Nat) (s : σ) : cw_fr h (81 * k0) 81 s = cw_fr (fun j => cw_fr h (9 * (9 * k0 + j)) 9) 0 9 s := by
  have e := cw_fr_blk h 9 9 (9 * k0) s
  have e2 := cw_fr_sh (fun i => cw_fr h (9 * i) 9) (9 * k0) 9 0 s
  rw [Nat.add_zero] at e2
  rw [show 81 * k0 = 9 * (9 * k0) by omega]
  exact e.trans e2
theorem cw_n1 {σ : Type} (c0 c1 c2 : Nat) (h1 : c1 ≤ 8) (h2 : c2 ≤ 8) (H : Nat → Nat → Nat → σ → σ) (k0 : Nat) (l0 : k0 ≤ c0) (s : σ) : cw_fr (cw_hx c0 c1 c2 H) (81 * k0) 81 s = cw_fr (fun k1 => cw_fr (H k0 k1) 0 (c2 + 1)) 0 (c1 + 1) s := by
  rw [cw_n1e, cw_fr_cut _ c1 h1 s (fun j s hj h9 => cw_n2f c0 c1 c2 H k0 j h9 (Or.inr hj) s)]
  exact cw_fr_cong _ _ _ _ _ (fun j s _ hj => cw_n2 c0 c1 c2 h2 H k0 j l0 (by omega) h1 s)
theorem cw_n1f {σ : Type} (c0 c1 c2 : Nat) (H : Nat → Nat → Nat → σ → σ) (k0 : Nat) (l0 : c0 < k0) (s : σ) : cw_fr (cw_hx c0 c1 c2 H) (81 * k0) 81 s = s := by
  rw [cw_n1e]
  exact cw_fr_id _ _ _ _ (fun j s _ hj => cw_n2f c0 c1 c2 H k0 j (by omega) (Or.inl l0) s)
theorem cw_nest {σ : Type} (c0 c1 c2 : Nat) (h0 : c0 ≤ 8) (h1 : c1 ≤ 8) (h2 : c2 ≤ 8) (H : Nat → Nat → Nat → σ → σ) (s : σ) : cw_fr (cw_hx c0 c1 c2 H) 0 729 s = cw_fr (fun k0 => cw_fr (fun k1 => cw_fr (H k0 k1) 0 (c2 + 1)) 0 (c1 + 1)) 0 (c0 + 1) s := by
  have e := cw_fr_blk (cw_hx c0 c1 c2 H) 81 9 0 s
  refine e.trans ?_
  rw [cw_fr_cut _ c0 h0 s (fun j s hj _ => cw_n1f c0 c1 c2 H j hj s)]
  exact cw_fr_cong _ _ _ _ _ (fun j s _ hj => cw_n1 c0 c1 c2 h1 h2 H j (by omega) s)

/-! a counted loop's walk -/
theorem cw_lp {σ : Type} (g : Nat → σ → σ) (c : Nat) (W : Nat → σ → Nat → Prop) (J : σ → Prop) (hx : ∀ n s, J s → W (n + 1) s (c + 1)) (hs : ∀ n s k, k ≤ c → W n (g k s) (k + 1) → W (n + 1) s k) (s : σ) (h : J (cw_fr g 0 (c + 1) s)) : W (c + 2) s 0 := by
  have A : ∀ (d k : Nat) (s : σ), k + d = c + 1 → J (cw_fr g k d s) → W (d + 1) s k := by
    intro d
    induction d with
    | zero =>
      intro k s e h
      rw [cw_fr0] at h
      have : k = c + 1 := by omega
      subst this
      exact hx 0 s h
    | succ d ih =>
      intro k s e h
      rw [cw_frS] at h
      exact hs (d + 1) s k (by omega) (ih (k + 1) _ (by omega) h)
  exact A (c + 1) 0 s (by omega) h
end
section
/-! indices and small numbers -/
def cw_ix (p k q : Nat) : Nat := (p * 9 + k) * 3 + q
def cw_ct (a b c : Nat) : Nat := (a * 9 + b) * 9 + c
theorem cw_ixl {p k q : Nat} (hp : p < 3) (hk : k < 9) (hq : q < 3) : cw_ix p k q < 81 := by unfold cw_ix; omega
theorem cw_ctl {a b c : Nat} (ha : a < 9) (hb : b < 9) (hc : c < 9) : cw_ct a b c < 729 := by unfold cw_ct; omega
theorem cw_ct_of (c : Nat) (h : c < 729) : cw_ct (c / 81) (c / 9 % 9) (c % 9) = c := by unfold cw_ct; omega
theorem cw_xi (p k q : Nat) : ((nI p * 9) + nI k) * 3 + nI q = nI (cw_ix p k q) := by
  show ((nI p * nI 9) + nI k) * nI 3 + nI q = _
  rw [pk_mul, nI_add, pk_mul, nI_add]; rfl
theorem cw_yi (p k q : Nat) : ((27 * nI p) + (3 * nI k)) + nI q = nI (cw_ix p k q) := by
  show ((nI 27 * nI p) + (nI 3 * nI k)) + nI q = _
  rw [pk_mul, pk_mul, nI_add, nI_add]
  exact congrArg nI (by unfold cw_ix; omega)
theorem cw_xs (p k : Nat) : (nI p * 9) + nI k = nI (p * 9 + k) := by
  show (nI p * nI 9) + nI k = _
  rw [pk_mul, nI_add]
theorem cw_ys (p k : Nat) : (9 * nI p) + nI k = nI (p * 9 + k) := by
  show (nI 9 * nI p) + nI k = _
  rw [pk_mul, nI_add, Nat.mul_comm]
theorem cw_y0 (p : Nat) : 9 * nI p = nI (p * 9 + 0) := by
  show nI 9 * nI p = _
  rw [pk_mul, Nat.mul_comm, Nat.add_zero]
theorem cw_xc (a b c : Nat) : ((nI a * 9) + nI b) * 9 + nI c = nI (cw_ct a b c) := by
  show ((nI a * nI 9) + nI b) * nI 9 + nI c = _
  rw [pk_mul, nI_add, pk_mul, nI_add]; rfl
theorem cw_kX {post : Int32 → Prop} {x y z : Int32} (p k q : Nat) (hx : x = nI p) (hy : y = nI k) (hz : z = nI q) (h : post (nI (cw_ix p k q))) : wpX_knownIndex post x y z := by
  subst hx hy hz; unfold wpX_knownIndex; rw [cw_xi]; exact h
theorem cw_sX {post : Int32 → Prop} {x y : Int32} (p k : Nat) (hx : x = nI p) (hy : y = nI k) (h : post (nI (p * 9 + k))) : wpX_stateIndex post x y := by
  subst hx hy; unfold wpX_stateIndex; rw [cw_xs]; exact h
theorem cw_cX {post : Int32 → Prop} {x y z : Int32} (a b c : Nat) (hx : x = nI a) (hy : y = nI b) (hz : z = nI c) (h : post (nI (cw_ct a b c))) : wpX_cutIndex post x y z := by
  subst hx hy hz; unfold wpX_cutIndex; rw [cw_xc]; exact h
theorem cw_3le {q : Nat} (h : q < 3) : ¬ (3 : Int32) ≤ nI q := nI_ge (b := 3) h (by decide)

/-! answers that are yes or no -/
def cw_b (b : Bool) : Int32 := if b = true then 1 else 0
theorem cw_br {b : Bool} {A B : Prop} (f : b = false → A) (g : b = true → B) : (cw_b b = 0 → A) ∧ (¬ cw_b b = 0 → B) := by
  cases b
  · exact br_t rfl (f rfl)
  · exact br_f (by decide) (g rfl)

/-! the guards -/
theorem cw_pX {post : Int32 → Prop} {p : Nat} (hp : p < 3) (h : post 1) : wpX_isProcess post (nI p) :=
  br_f (nI_pos (by omega)) (br_f (cw_3le hp) h)
theorem cw_pY {post : Int32 → Prop} {p : Nat} (hp : p < 3) (h : post 0) : wpY_bad post (nI p) :=
  br_f (nI_pos (by omega)) (br_t (nI_le (b := 2) (by omega) (by decide)) h)
theorem cw_proc (x : Int32) : (∃ p : Nat, p < 3 ∧ x = nI p) ∨ ((∀ post : Int32 → Prop, post 0 → wpX_isProcess post x) ∧ (∀ post : Int32 → Prop, post 1 → wpY_bad post x)) := by
  rcases pk_ix x (n := 3) (by decide) with h | h | h
  · exact Or.inr ⟨fun _ hp => br_t h hp, fun _ hp => br_t h hp⟩
  · have h0 : ¬ x < 0 := Int32.not_lt.mpr (Int32.le_trans (nI_pos' (n := 3) (by decide)) h)
    have h2 : ¬ x ≤ 2 := by
      intro h3
      exact absurd (Int32.le_trans h h3) (by decide)
    exact Or.inr ⟨fun _ hp => br_f h0 (br_t h hp), fun _ hp => br_f h0 (br_f h2 hp)⟩
  · exact Or.inl h
theorem cw_tX {post : Int32 → Prop} {s : Nat} (h1 : 1 ≤ s) (h7 : s ≤ 7) (h : post 1) : wpX_isSet post (nI s) :=
  br_f (nI_nlt (b := 1) h1 (by omega)) (br_f (nI_nlt (a := 7) h7 (by decide)) h)
theorem cw_tY {post : Int32 → Prop} {s : Nat} (h1 : 1 ≤ s) (h7 : s ≤ 7) (h : post 0) : wpY_badSet post (nI s) :=
  br_f (nI_nlt (b := 1) h1 (by omega)) (br_t (nI_le (b := 7) h7 (by decide)) h)
theorem cw_set (x : Int32) : (∃ s : Nat, 1 ≤ s ∧ s ≤ 7 ∧ x = nI s) ∨ ((∀ post : Int32 → Prop, post 0 → wpX_isSet post x) ∧ (∀ post : Int32 → Prop, post 1 → wpY_badSet post x)) := by
  by_cases h1 : x < 1
  · exact Or.inr ⟨fun _ hp => br_t h1 hp, fun _ hp => br_t h1 hp⟩
  · by_cases h7 : x ≤ 7
    · have h0 : ¬ x < 0 := by
        intro h
        exact h1 (Int32.lt_trans h (by decide))
      obtain ⟨j, hj, rfl⟩ := nI_of2 (M := 7) (n := 7) (by decide) h0 h7
      refine Or.inl ⟨j, ?_, hj, rfl⟩
      rcases Nat.eq_zero_or_pos j with e | e
      · subst e; exact absurd (by decide) h1
      · exact e
    · exact Or.inr ⟨fun _ hp => br_f h1 (br_t (Int32.not_le.mp h7) hp), fun _ hp => br_f h1 (br_f h7 hp)⟩

/-! what a process in a state knows, against a cut -/
def cw_rw (kn : Nat → Int32) (p k k0 k1 k2 : Nat) : Bool := decide (kn (cw_ix p k 0) ≤ nI k0) && decide (kn (cw_ix p k 1) ≤ nI k1) && decide (kn (cw_ix p k 2) ≤ nI k2)
def cw_ps (kn : Nat → Int32) (k0 k1 k2 : Nat) : Bool := cw_rw kn 0 k0 k0 k1 k2 && cw_rw kn 1 k1 k0 k1 k2 && cw_rw kn 2 k2 k0 k1 k2
section
variable (f : Int32) (cn gd kn sd se rc av : Nat → Int32)
theorem cw_nmX {post : Int32 → Prop} (p k k0 k1 k2 : Nat) (hp : p < 3) (hk : k < 9) (h : post (cw_b (cw_rw kn p k k0 k1 k2))) : wpX_knowsNoMore post (f, cn, gd, kn, sd, se, rc, av) (nI p) (nI k) (nI k0) (nI k1) (nI k2) := by
  unfold wpX_knowsNoMore
  dsimp only
  refine cw_kX p k 0 rfl rfl rfl ?_
  have l0 : cw_ix p k 0 < 81 := cw_ixl hp hk (by decide)
  have l1 : cw_ix p k 1 < 81 := cw_ixl hp hk (by decide)
  have l2 : cw_ix p k 2 < 81 := cw_ixl hp hk (by decide)
  have e1 : nI (cw_ix p k 0) + 1 = nI (cw_ix p k 1) := nI_1 _
  have e2 : nI (cw_ix p k 0) + 2 = nI (cw_ix p k 2) := nI_add _ 2
  rw [e1, e2, nI_clamp (n := cw_ix p k 0) (by omega), nI_clamp (n := cw_ix p k 1) (by omega), nI_clamp (n := cw_ix p k 2) (by omega)]
  unfold cw_rw at h
  refine ⟨vp_in_nI l0 (by decide), br_c (fun g0 => ?_) (fun g0 => ⟨vp_in_nI l1 (by decide), br_c (fun g1 => ?_) (fun g1 => ⟨vp_in_nI l2 (by decide), br_c (fun g2 => ?_) (fun g2 => ?_)⟩)⟩)⟩
  · rw [decide_eq_false (Int32.not_le.mpr g0)] at h; exact h
  · rw [decide_eq_false (Int32.not_le.mpr g1), Bool.and_false] at h; exact h
  · rw [decide_eq_false (Int32.not_le.mpr g2), Bool.and_false] at h; exact h
  · rw [decide_eq_true (Int32.not_lt.mp g0), decide_eq_true (Int32.not_lt.mp g1), decide_eq_true (Int32.not_lt.mp g2)] at h; exact h
theorem cw_psX {post : Int32 → Prop} (k0 k1 k2 : Nat) (h0 : k0 < 9) (h1 : k1 < 9) (h2 : k2 < 9) (h : post (cw_b (cw_ps kn k0 k1 k2))) : wpX_isPossible post (f, cn, gd, kn, sd, se, rc, av) (nI k0) (nI k1) (nI k2) := by
  unfold wpX_isPossible
  dsimp only
  unfold cw_ps at h
  refine cw_nmX f cn gd kn sd se rc av 0 k0 k0 k1 k2 (by decide) h0 (cw_br (fun e => ?_) (fun e => ?_))
  · rw [e] at h; exact h
  refine cw_nmX f cn gd kn sd se rc av 1 k1 k0 k1 k2 (by decide) h1 (cw_br (fun e1 => ?_) (fun e1 => ?_))
  · rw [e, e1] at h; exact h
  refine cw_nmX f cn gd kn sd se rc av 2 k2 k0 k1 k2 (by decide) h2 (cw_br (fun e2 => ?_) (fun e2 => ?_))
  · rw [e, e1, e2] at h; exact h
  · rw [e, e1, e2] at h; exact h
end

/-! good -/
def cw_bt (s p : Nat) : Bool := decide (((nI s >>> (nI p &&& 31)) &&& 1) = 1)
def cw_go (gd : Nat → Int32) (s p k : Nat) : Bool := !cw_bt s p || !decide (gd (p * 9 + k) = 0)
def cw_gs (gd : Nat → Int32) (s k0 k1 k2 : Nat) : Bool := cw_go gd s 0 k0 && cw_go gd s 1 k1 && cw_go gd s 2 k2
theorem cw_bt0 : ∀ s, s < 8 → ((nI s &&& 1 = 0) ↔ cw_bt s 0 = false) := by decide +kernel
theorem cw_bt1 : ∀ s, s < 8 → ((nI s &&& 2 = 0) ↔ cw_bt s 1 = false) := by decide +kernel
theorem cw_bt2 : ∀ s, s < 8 → ((nI s &&& 4 = 0) ↔ cw_bt s 2 = false) := by decide +kernel
section
variable (f : Int32) (cn gd kn sd se rc av : Nat → Int32)
theorem cw_g38 {post : Int32 → Prop} (s k2 : Nat) (hs : s < 8) (h2 : k2 < 9) (h : post (cw_b (cw_go gd s 2 k2))) : wX_isGood_38 post (nI s) (nI k2) f cn gd kn sd se rc av := by
  unfold wX_isGood_38
  unfold cw_go at h
  refine br_c (fun g => ?_) (fun g => ?_)
  · rw [(cw_bt2 s hs).mp g] at h; exact h
  · have g' : cw_bt s 2 = true := by
      cases e : cw_bt s 2
      · exact absurd ((cw_bt2 s hs).mpr e) g
      · rfl
    rw [g'] at h
    refine cw_sX 2 k2 rfl rfl ?_
    rw [nI_clamp (n := 2 * 9 + k2) (by omega)]
    refine ⟨vp_in_nI (by omega) (by decide), br_c (fun z => ?_) (fun z => ?_)⟩
    · rw [decide_eq_true z] at h; exact h
    · rw [decide_eq_false z] at h; exact h
theorem cw_g19 {post : Int32 → Prop} (s k1 k2 : Nat) (hs : s < 8) (h1 : k1 < 9) (h2 : k2 < 9) (h : post (cw_b (cw_go gd s 1 k1 && cw_go gd s 2 k2))) : wX_isGood_19 post (nI s) (nI k1) (nI k2) f cn gd kn sd se rc av := by
  unfold wX_isGood_19
  refine br_c (fun g => ?_) (fun g => ?_)
  · refine cw_g38 f cn gd kn sd se rc av s k2 hs h2 ?_
    rw [show cw_go gd s 1 k1 = true by unfold cw_go; rw [(cw_bt1 s hs).mp g]; rfl] at h; exact h
  · have g' : cw_bt s 1 = true := by
      cases e : cw_bt s 1
      · exact absurd ((cw_bt1 s hs).mpr e) g
      · rfl
    refine cw_sX 1 k1 rfl rfl ?_
    rw [nI_clamp (n := 1 * 9 + k1) (by omega)]
    refine ⟨vp_in_nI (by omega) (by decide), br_c (fun z => ?_) (fun z => ?_)⟩
    · rw [show cw_go gd s 1 k1 = false by unfold cw_go; rw [g', decide_eq_true z]; rfl] at h; exact h
    · rw [show cw_go gd s 1 k1 = true by unfold cw_go; rw [g', decide_eq_false z]; rfl] at h
      exact cw_g38 f cn gd kn sd se rc av s k2 hs h2 h
theorem cw_gsX {post : Int32 → Prop} (s k0 k1 k2 : Nat) (hs : s < 8) (h0 : k0 < 9) (h1 : k1 < 9) (h2 : k2 < 9) (h : post (cw_b (cw_gs gd s k0 k1 k2))) : wpX_isGood post (f, cn, gd, kn, sd, se, rc, av) (nI s) (nI k0) (nI k1) (nI k2) := by
  unfold wpX_isGood
  dsimp only
  unfold cw_gs at h
  rw [Bool.and_assoc] at h
  refine br_c (fun g => ?_) (fun g => ?_)
  · refine cw_g19 f cn gd kn sd se rc av s k1 k2 hs h1 h2 ?_
    rw [show cw_go gd s 0 k0 = true by unfold cw_go; rw [(cw_bt0 s hs).mp g]; rfl] at h; exact h
  · have g' : cw_bt s 0 = true := by
      cases e : cw_bt s 0
      · exact absurd ((cw_bt0 s hs).mpr e) g
      · rfl
    refine cw_sX 0 k0 rfl rfl ?_
    rw [nI_clamp (n := 0 * 9 + k0) (by omega)]
    refine ⟨vp_in_nI (by omega) (by decide), br_c (fun z => ?_) (fun z => ?_)⟩
    · rw [show cw_go gd s 0 k0 = false by unfold cw_go; rw [g', decide_eq_true z]; rfl] at h; exact h
    · rw [show cw_go gd s 0 k0 = true by unfold cw_go; rw [g', decide_eq_false z]; rfl] at h
      exact cw_g19 f cn gd kn sd se rc av s k1 k2 hs h1 h2 h
end
end
section
/-! the reference reads a cut's states out of one number -/
def cw_sl (p k0 k1 k2 : Nat) : Nat := if p = 0 then k0 else if p = 1 then k1 else k2
theorem cw_soY {post : Int32 → Prop} (p k0 k1 k2 : Nat) (hp : p < 3) (h0 : k0 < 9) (h1 : k1 < 9) (h2 : k2 < 9) (h : post (nI (cw_sl p k0 k1 k2))) : wpY_stateOf post (nI (cw_ct k0 k1 k2)) (nI p) := by
  have l : cw_ct k0 k1 k2 < 729 := cw_ctl h0 h1 h2
  have e9 : nI (cw_ct k0 k1 k2) / 9 = nI (cw_ct k0 k1 k2 / 9) := pk_div (d := 9) (by omega) (by decide) (by decide)
  have hp' : p = 0 ∨ p = 1 ∨ p = 2 := by omega
  rcases hp' with e | e | e
  · subst e
    refine br_t rfl ⟨by decide, ?_⟩
    have e : nI (cw_ct k0 k1 k2) / 81 = nI k0 := (pk_div (d := 81) (by omega) (by decide) (by decide)).trans (congrArg nI (by unfold cw_ct; omega))
    rw [e]; exact h
  · subst e
    refine br_f (by decide) (br_t rfl ⟨by decide, by decide, ?_⟩)
    rw [e9]
    have e : nI (cw_ct k0 k1 k2 / 9) - nI (cw_ct k0 k1 k2 / 9) / 9 * 9 = nI k1 := (pk_rem (d := 9) (by omega) (by decide) (by decide)).trans (congrArg nI (by unfold cw_ct; omega))
    rw [e]; exact h
  · subst e
    refine br_f (by decide) (br_f (by decide) ⟨by decide, ?_⟩)
    have e : nI (cw_ct k0 k1 k2) - nI (cw_ct k0 k1 k2) / 9 * 9 = nI k2 := (pk_rem (d := 9) (by omega) (by decide) (by decide)).trans (congrArg nI (by unfold cw_ct; omega))
    rw [e]; exact h
theorem cw_sl_lt {p k0 k1 k2 : Nat} (h0 : k0 < 9) (h1 : k1 < 9) (h2 : k2 < 9) : cw_sl p k0 k1 k2 < 9 := by
  unfold cw_sl
  split
  · exact h0
  · split
    · exact h1
    · exact h2
section
variable (f : Int32) (cn gd kn sd se rc av : Nat → Int32)
theorem cw_p28s {post J2 : Int32 → Prop} (n p k q k0 k1 k2 : Nat) (hp : p < 3) (hk : k < 9) (hq : q < 3) (h0 : k0 < 9) (h1 : k1 < 9) (h2 : k2 < 9) (ht : kn (cw_ix p k q) ≤ nI (cw_sl q k0 k1 k2) → wY_possible_28 post J2 (nI (cw_ct k0 k1 k2)) (nI p) (nI k) f cn gd kn sd se rc av n (nI (q + 1))) (hf : ¬ kn (cw_ix p k q) ≤ nI (cw_sl q k0 k1 k2) → post 0) : wY_possible_28 post J2 (nI (cw_ct k0 k1 k2)) (nI p) (nI k) f cn gd kn sd se rc av (n + 1) (nI q) := by
  have l : cw_ix p k q < 81 := cw_ixl hp hk hq
  unfold wY_possible_28
  refine br_f (cw_3le hq) ?_
  rw [cw_yi, nI_clamp (n := cw_ix p k q) (by omega)]
  exact ⟨vp_in_nI l (by decide), cw_soY q k0 k1 k2 hq h0 h1 h2 (br_c (fun g => nm_r (nI_1 q) (ht g)) hf)⟩
theorem cw_p28 {post J2 : Int32 → Prop} (p k k0 k1 k2 : Nat) (hp : p < 3) (hk : k < 9) (h0 : k0 < 9) (h1 : k1 < 9) (h2 : k2 < 9) (ht : cw_rw kn p k k0 k1 k2 = true → J2 (nI (p + 1))) (hf : cw_rw kn p k k0 k1 k2 = false → post 0) : wY_possible_28 post J2 (nI (cw_ct k0 k1 k2)) (nI p) (nI k) f cn gd kn sd se rc av 4 (nI 0) := by
  unfold cw_rw at ht hf
  refine cw_p28s f cn gd kn sd se rc av 3 p k 0 k0 k1 k2 hp hk (by decide) h0 h1 h2 (fun g0 => ?_) (fun g0 => ?_)
  · refine cw_p28s f cn gd kn sd se rc av 2 p k 1 k0 k1 k2 hp hk (by decide) h0 h1 h2 (fun g1 => ?_) (fun g1 => ?_)
    · refine cw_p28s f cn gd kn sd se rc av 1 p k 2 k0 k1 k2 hp hk (by decide) h0 h1 h2 (fun g2 => ?_) (fun g2 => ?_)
      · unfold wY_possible_28
        refine br_t (nI_le (a := 3) (b := 3) (by decide) (by decide)) (nm_r (nI_1 p) (ht ?_))
        rw [decide_eq_true (p := kn (cw_ix p k 0) ≤ nI k0) g0, decide_eq_true (p := kn (cw_ix p k 1) ≤ nI k1) g1, decide_eq_true (p := kn (cw_ix p k 2) ≤ nI k2) g2]; rfl
      · exact hf (by rw [decide_eq_false (p := kn (cw_ix p k 2) ≤ nI k2) g2, Bool.and_false])
    · exact hf (by rw [decide_eq_false (p := kn (cw_ix p k 1) ≤ nI k1) g1, Bool.and_false, Bool.false_and])
  · exact hf (by rw [decide_eq_false (p := kn (cw_ix p k 0) ≤ nI k0) g0]; rfl)
/-- within the count, and knowing no more than the cut has -/
def cw_ok1 (C : Nat → Nat) (kn : Nat → Int32) (p k0 k1 k2 : Nat) : Bool := decide (cw_sl p k0 k1 k2 ≤ C p) && cw_rw kn p (cw_sl p k0 k1 k2) k0 k1 k2
def cw_ok (C : Nat → Nat) (kn : Nat → Int32) (k0 k1 k2 : Nat) : Bool := cw_ok1 C kn 0 k0 k1 k2 && cw_ok1 C kn 1 k0 k1 k2 && cw_ok1 C kn 2 k0 k1 k2
theorem cw_p2s {post : Int32 → Prop} (C : Nat → Nat) (hC : ∀ p, p < 3 → C p ≤ 8 ∧ cn p = nI (C p)) (n p k0 k1 k2 : Nat) (hp : p < 3) (h0 : k0 < 9) (h1 : k1 < 9) (h2 : k2 < 9) (ht : cw_ok1 C kn p k0 k1 k2 = true → wY_possible_2 post (nI (cw_ct k0 k1 k2)) f cn gd kn sd se rc av n (nI (p + 1))) (hf : cw_ok1 C kn p k0 k1 k2 = false → post 0) : wY_possible_2 post (nI (cw_ct k0 k1 k2)) f cn gd kn sd se rc av (n + 1) (nI p) := by
  have l := cw_sl_lt (p := p) h0 h1 h2
  obtain ⟨c8, ec⟩ := hC p hp
  unfold cw_ok1 at ht hf
  unfold wY_possible_2
  refine br_f (cw_3le hp) (cw_soY p k0 k1 k2 hp h0 h1 h2 ⟨vp_in_nI hp (by decide), ?_⟩)
  rw [nI_clamp (n := p) (by omega), ec]
  refine br_c (fun g => ⟨4, ?_⟩) (fun g => ?_)
  · rw [nI_leI (by omega) (by omega)] at g
    rw [decide_eq_true g] at ht hf
    exact cw_p28 f cn gd kn sd se rc av p _ k0 k1 k2 hp l h0 h1 h2 ht hf
  · rw [nI_leI (by omega) (by omega)] at g
    rw [decide_eq_false g] at hf
    exact hf rfl
theorem cw_okY {post : Int32 → Prop} (C : Nat → Nat) (hC : ∀ p, p < 3 → C p ≤ 8 ∧ cn p = nI (C p)) (k0 k1 k2 : Nat) (h0 : k0 < 9) (h1 : k1 < 9) (h2 : k2 < 9) (h : post (cw_b (cw_ok C kn k0 k1 k2))) : wpY_possible post (f, cn, gd, kn, sd, se, rc, av) (nI (cw_ct k0 k1 k2)) := by
  unfold wpY_possible
  dsimp only
  unfold cw_ok at h
  refine ⟨4, ?_⟩
  refine cw_p2s f cn gd kn sd se rc av C hC 3 0 k0 k1 k2 (by decide) h0 h1 h2 (fun g0 => ?_) (fun g0 => ?_)
  · refine cw_p2s f cn gd kn sd se rc av C hC 2 1 k0 k1 k2 (by decide) h0 h1 h2 (fun g1 => ?_) (fun g1 => ?_)
    · refine cw_p2s f cn gd kn sd se rc av C hC 1 2 k0 k1 k2 (by decide) h0 h1 h2 (fun g2 => ?_) (fun g2 => ?_)
      · unfold wY_possible_2
        refine br_t (nI_le (a := 3) (b := 3) (by decide) (by decide)) ?_
        rw [g0, g1, g2] at h; exact h
      · rw [g0, g1, g2] at h; exact h
    · rw [g0, g1] at h; exact h
  · rw [g0] at h; exact h
theorem cw_gYs {post : Int32 → Prop} (n s p k0 k1 k2 : Nat) (hp : p < 3) (h0 : k0 < 9) (h1 : k1 < 9) (h2 : k2 < 9) (ht : cw_go gd s p (cw_sl p k0 k1 k2) = true → wY_isGood_2 post (nI (cw_ct k0 k1 k2)) (nI s) f cn gd kn sd se rc av n (nI (p + 1))) (hf : cw_go gd s p (cw_sl p k0 k1 k2) = false → post 0) : wY_isGood_2 post (nI (cw_ct k0 k1 k2)) (nI s) f cn gd kn sd se rc av (n + 1) (nI p) := by
  have l := cw_sl_lt (p := p) h0 h1 h2
  unfold cw_go cw_bt at ht hf
  unfold wY_isGood_2
  refine br_f (cw_3le hp) (cw_soY p k0 k1 k2 hp h0 h1 h2 (br_c (fun g => ?_) (fun g => ?_)))
  · rw [decide_eq_true g] at ht hf
    rw [cw_ys, nI_clamp (n := p * 9 + cw_sl p k0 k1 k2) (by omega)]
    refine ⟨vp_in_nI (by omega) (by decide), br_c (fun z => ?_) (fun z => ?_)⟩
    · rw [decide_eq_true z] at hf; exact hf rfl
    · rw [decide_eq_false z] at ht; exact nm_r (nI_1 p) (ht rfl)
  · rw [decide_eq_false g] at ht
    exact nm_r (nI_1 p) (ht rfl)
theorem cw_gsY {post : Int32 → Prop} (s k0 k1 k2 : Nat) (h0 : k0 < 9) (h1 : k1 < 9) (h2 : k2 < 9) (h : post (cw_b (cw_gs gd s k0 k1 k2))) : wpY_isGood post (f, cn, gd, kn, sd, se, rc, av) (nI (cw_ct k0 k1 k2)) (nI s) := by
  unfold wpY_isGood
  dsimp only
  unfold cw_gs at h
  refine ⟨4, ?_⟩
  refine cw_gYs f cn gd kn sd se rc av 3 s 0 k0 k1 k2 (by decide) h0 h1 h2 (fun g0 => ?_) (fun g0 => ?_)
  · refine cw_gYs f cn gd kn sd se rc av 2 s 1 k0 k1 k2 (by decide) h0 h1 h2 (fun g1 => ?_) (fun g1 => ?_)
    · refine cw_gYs f cn gd kn sd se rc av 1 s 2 k0 k1 k2 (by decide) h0 h1 h2 (fun g2 => ?_) (fun g2 => ?_)
      · unfold wY_isGood_2
        refine br_t (nI_le (a := 3) (b := 3) (by decide) (by decide)) ?_
        rw [show cw_go gd s 0 k0 = true from g0, show cw_go gd s 1 k1 = true from g1, show cw_go gd s 2 k2 = true from g2] at h; exact h
      · rw [show cw_go gd s 2 k2 = false from g2, Bool.and_false] at h; exact h
    · rw [show cw_go gd s 1 k1 = false from g1, Bool.and_false, Bool.false_and] at h; exact h
  · rw [show cw_go gd s 0 k0 = false from g0] at h; exact h
end

/-! a cut that follows an avoided one -/
def cw_fo1 (a : Nat → Int32) (k c : Nat) : Bool := decide (0 < k) && !decide (a c = 0)
def cw_fo (a : Nat → Int32) (k0 k1 k2 : Nat) : Bool := decide (cw_ct k0 k1 k2 = 0) || (cw_fo1 a k0 (cw_ct (k0 - 1) k1 k2) || (cw_fo1 a k1 (cw_ct k0 (k1 - 1) k2) || cw_fo1 a k2 (cw_ct k0 k1 (k2 - 1))))
section
variable (f : Int32) (cn gd kn sd se rc av : Nat → Int32)
theorem cw_f48 {post : Int32 → Prop} (k0 k1 k2 : Nat) (h0 : k0 < 9) (h1 : k1 < 9) (h2 : k2 < 9) (h : post (cw_b (cw_fo1 av k2 (cw_ct k0 k1 (k2 - 1))))) : wX_followsAvoided_48 post (nI k0) (nI k1) (nI k2) f cn gd kn sd se rc av := by
  unfold wX_followsAvoided_48
  unfold cw_fo1 at h
  rcases Nat.eq_zero_or_pos k2 with e | e
  · subst e
    refine br_t (by decide) ?_
    exact h
  · refine br_f (nI_nle e (by omega)) ?_
    have l : cw_ct k0 k1 (k2 - 1) < 729 := cw_ctl h0 h1 (by omega)
    refine cw_cX k0 k1 (k2 - 1) rfl rfl (pk_sub (b := 1) e) ?_
    rw [nI_clamp (n := cw_ct k0 k1 (k2 - 1)) (by omega)]
    rw [decide_eq_true e] at h
    refine ⟨vp_in_nI l (by decide), br_c (fun z => ?_) (fun z => ?_)⟩
    · rw [decide_eq_true z] at h; exact h
    · rw [decide_eq_false z] at h; exact h
theorem cw_f28 {post : Int32 → Prop} (k0 k1 k2 : Nat) (h0 : k0 < 9) (h1 : k1 < 9) (h2 : k2 < 9) (h : post (cw_b (cw_fo1 av k1 (cw_ct k0 (k1 - 1) k2) || cw_fo1 av k2 (cw_ct k0 k1 (k2 - 1))))) : wX_followsAvoided_28 post (nI k0) (nI k1) (nI k2) f cn gd kn sd se rc av := by
  unfold wX_followsAvoided_28
  rcases Nat.eq_zero_or_pos k1 with e | e
  · subst e
    refine br_t (by decide) ?_
    exact cw_f48 f cn gd kn sd se rc av k0 0 k2 h0 h1 h2 h
  · refine br_f (nI_nle e (by omega)) ?_
    have l : cw_ct k0 (k1 - 1) k2 < 729 := cw_ctl h0 (by omega) h2
    refine cw_cX k0 (k1 - 1) k2 rfl (pk_sub (b := 1) e) rfl ?_
    rw [nI_clamp (n := cw_ct k0 (k1 - 1) k2) (by omega)]
    refine ⟨vp_in_nI l (by decide), br_c (fun z => ?_) (fun z => ?_)⟩
    · refine cw_f48 f cn gd kn sd se rc av k0 k1 k2 h0 h1 h2 ?_
      rw [show cw_fo1 av k1 (cw_ct k0 (k1 - 1) k2) = false by unfold cw_fo1; rw [decide_eq_true z, Bool.not_true, Bool.and_false]] at h; exact h
    · rw [show cw_fo1 av k1 (cw_ct k0 (k1 - 1) k2) = true by unfold cw_fo1; rw [decide_eq_false z, decide_eq_true e]; rfl] at h; exact h
theorem cw_foX {post : Int32 → Prop} (k0 k1 k2 : Nat) (h0 : k0 < 9) (h1 : k1 < 9) (h2 : k2 < 9) (h : post (cw_b (cw_fo av k0 k1 k2))) : wpX_followsAvoided post (f, cn, gd, kn, sd, se, rc, av) (nI k0) (nI k1) (nI k2) := by
  unfold wpX_followsAvoided
  dsimp only
  unfold cw_fo at h
  rw [nI_add, nI_add]
  refine br_c (fun g => ?_) (fun g => ?_)
  · have g' : k0 + k1 + k2 = 0 := (nI_eq (b := 0) (by omega) (by decide)).mp g
    rw [decide_eq_true (show cw_ct k0 k1 k2 = 0 by unfold cw_ct; omega)] at h; exact h
  · have g' : ¬ k0 + k1 + k2 = 0 := fun z => g ((nI_eq (b := 0) (by omega) (by decide)).mpr z)
    rw [decide_eq_false (show ¬ cw_ct k0 k1 k2 = 0 by unfold cw_ct; omega), Bool.false_or] at h
    rcases Nat.eq_zero_or_pos k0 with e | e
    · subst e
      refine br_t (by decide) ?_
      exact cw_f28 f cn gd kn sd se rc av 0 k1 k2 h0 h1 h2 h
    · refine br_f (nI_nle e (by omega)) ?_
      have l : cw_ct (k0 - 1) k1 k2 < 729 := cw_ctl (by omega) h1 h2
      refine cw_cX (k0 - 1) k1 k2 (pk_sub (b := 1) e) rfl rfl ?_
      rw [nI_clamp (n := cw_ct (k0 - 1) k1 k2) (by omega)]
      refine ⟨vp_in_nI l (by decide), br_c (fun z => ?_) (fun z => ?_)⟩
      · refine cw_f28 f cn gd kn sd se rc av k0 k1 k2 h0 h1 h2 ?_
        rw [show cw_fo1 av k0 (cw_ct (k0 - 1) k1 k2) = false by unfold cw_fo1; rw [decide_eq_true z, Bool.not_true, Bool.and_false]] at h; exact h
      · rw [show cw_fo1 av k0 (cw_ct (k0 - 1) k1 k2) = true by unfold cw_fo1; rw [decide_eq_false z, decide_eq_true e]; rfl] at h; exact h
theorem cw_r33 {post J8 : Int32 → Prop} (p c k0 k1 k2 z : Nat) (hp : p < 3) (h0 : k0 < 9) (h1 : k1 < 9) (h2 : k2 < 9) (hz : 0 < cw_sl p k0 k1 k2 → cw_ct k0 k1 k2 - z = c ∧ z ≤ cw_ct k0 k1 k2) (hf : cw_fo1 av (cw_sl p k0 k1 k2) c = false → J8 (nI (p + 1))) (ht : cw_fo1 av (cw_sl p k0 k1 k2) c = true → post 1) : wY_reached_33 post J8 (nI (cw_ct k0 k1 k2)) (nI p) (nI z) f cn gd kn sd se rc av := by
  have l := cw_sl_lt (p := p) h0 h1 h2
  have lc := cw_ctl h0 h1 h2
  unfold wY_reached_33
  unfold cw_fo1 at ht hf
  refine cw_soY p k0 k1 k2 hp h0 h1 h2 (br_c (fun g => ?_) (fun g => ?_))
  · have g' : cw_sl p k0 k1 k2 ≤ 0 := (nI_leI (b := 0) (by omega) (by decide)).mp g
    exact nm_r (nI_1 p) (hf (by rw [decide_eq_false (by omega)]; rfl))
  · have g' : 0 < cw_sl p k0 k1 k2 := by
      rcases Nat.eq_zero_or_pos (cw_sl p k0 k1 k2) with e | e
      · exact absurd (by rw [e]; decide) g
      · exact e
    obtain ⟨ec, hzc⟩ := hz g'
    rw [pk_sub hzc, ec, nI_clamp (n := c) (by omega)]
    rw [decide_eq_true g'] at ht hf
    refine ⟨vp_in_nI (by omega) (by decide), br_c (fun y => ?_) (fun y => ?_)⟩
    · rw [decide_eq_true y] at hf; exact nm_r (nI_1 p) (hf rfl)
    · rw [decide_eq_false y] at ht; exact ht rfl
theorem cw_foY {post : Int32 → Prop} (k0 k1 k2 : Nat) (h0 : k0 < 9) (h1 : k1 < 9) (h2 : k2 < 9) (h : post (cw_b (cw_fo av k0 k1 k2))) : wpY_reached post (f, cn, gd, kn, sd, se, rc, av) (nI (cw_ct k0 k1 k2)) := by
  have lc := cw_ctl h0 h1 h2
  unfold wpY_reached
  dsimp only
  unfold cw_fo at h
  refine br_c (fun g => ?_) (fun g => ⟨4, ?_⟩)
  · have g' : cw_ct k0 k1 k2 = 0 := (nI_eq (b := 0) (by omega) (by decide)).mp g
    rw [decide_eq_true g'] at h; exact h
  · have g' : ¬ cw_ct k0 k1 k2 = 0 := fun z => g (by rw [z]; rfl)
    rw [decide_eq_false g', Bool.false_or] at h
    unfold wY_reached_8
    refine br_f (by decide) (br_t rfl ?_)
    refine cw_r33 f cn gd kn sd se rc av 0 (cw_ct (k0 - 1) k1 k2) k0 k1 k2 81 (by decide) h0 h1 h2 (fun l => ?_) (fun e => ?_) (fun e => ?_)
    · have l' : 0 < k0 := l
      unfold cw_ct; omega
    · unfold wY_reached_8
      refine br_f (by decide) (br_f (by decide) (br_t rfl ?_))
      refine cw_r33 f cn gd kn sd se rc av 1 (cw_ct k0 (k1 - 1) k2) k0 k1 k2 9 (by decide) h0 h1 h2 (fun l => ?_) (fun e1 => ?_) (fun e1 => ?_)
      · have l' : 0 < k1 := l
        unfold cw_ct; omega
      · unfold wY_reached_8
        refine br_f (by decide) (br_f (by decide) (br_f (by decide) ?_))
        refine cw_r33 f cn gd kn sd se rc av 2 (cw_ct k0 k1 (k2 - 1)) k0 k1 k2 1 (by decide) h0 h1 h2 (fun l => ?_) (fun e2 => ?_) (fun e2 => ?_)
        · have l' : 0 < k2 := l
          unfold cw_ct; omega
        · unfold wY_reached_8
          refine br_t (by decide) ?_
          rw [show cw_fo1 av k0 (cw_ct (k0 - 1) k1 k2) = false from e, show cw_fo1 av k1 (cw_ct k0 (k1 - 1) k2) = false from e1, show cw_fo1 av k2 (cw_ct k0 k1 (k2 - 1)) = false from e2] at h; exact h
        · rw [show cw_fo1 av k2 (cw_ct k0 k1 (k2 - 1)) = true from e2, Bool.or_true, Bool.or_true] at h; exact h
      · rw [show cw_fo1 av k1 (cw_ct k0 (k1 - 1) k2) = true from e1, Bool.true_or, Bool.or_true] at h; exact h
    · rw [show cw_fo1 av k0 (cw_ct (k0 - 1) k1 k2) = true from e, Bool.true_or] at h; exact h
end
end
