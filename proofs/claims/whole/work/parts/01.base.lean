/-! rows of kit/rows/PURE-ROWS, pasted -/
theorem pk_us {f : Nat → Int32} {k : Nat} {x : Int32} : upd f k x k = x := if_pos rfl
theorem pk_un {f : Nat → Int32} {k j : Nat} {x : Int32} (h : j ≠ k) : upd f k x j = f j := if_neg h
theorem pk_sub {a b : Nat} (h : b ≤ a) : nI a - nI b = nI (a - b) := by
  obtain ⟨c, rfl⟩ : ∃ c, a = c + b := ⟨a - b, by omega⟩
  rw [← nI_add, Int32.add_sub_cancel, Nat.add_sub_cancel]
theorem pk_mul (a b : Nat) : nI a * nI b = nI (a * b) := (Int32.ofNat_mul a b).symm
theorem pk_div {a d : Nat} (ha : a < 2 ^ 31) (h0 : 0 < d) (hd : d < 2 ^ 31) : nI a / nI d = nI (a / d) := by
  apply Int32.toInt_inj.mp
  rw [lg_idiv_nonneg (by rw [nI_toInt ha]; omega) (by rw [nI_toInt hd]; omega), nI_toInt ha, nI_toInt hd, nI_toInt (Nat.lt_of_le_of_lt (Nat.div_le_self a d) ha)]
  first | rfl | exact (Int.natCast_ediv _ _).symm
theorem pk_rem {a d : Nat} (ha : a < 2 ^ 31) (h0 : 0 < d) (hd : d < 2 ^ 31) : nI a - nI a / nI d * nI d = nI (a % d) := by
  rw [pk_div ha h0 hd, pk_mul, pk_sub (Nat.div_mul_le_self a d)]
  exact congrArg nI (by have := Nat.div_add_mod' a d; omega)
theorem pk_ix (x : Int32) {n : Nat} (hn : n < 2 ^ 31) : x < 0 ∨ nI n ≤ x ∨ ∃ j : Nat, j < n ∧ x = nI j := by
  by_cases h : x < 0
  · exact Or.inl h
  · obtain ⟨j, hj, rfl⟩ := nI_of h
    by_cases h2 : j < n
    · exact Or.inr (Or.inr ⟨j, h2, rfl⟩)
    · exact Or.inr (Or.inl (nI_le (by omega) hj))

/-! a counted walk: from k on, d steps -/
def cw_fr {σ : Type} (g : Nat → σ → σ) : Nat → Nat → σ → σ
  | _, 0, s => s
  | k, d + 1, s => cw_fr g (k + 1) d (g k s)
theorem cw_fr0 {σ : Type} (g : Nat → σ → σ) (k : Nat) (s : σ) : cw_fr g k 0 s = s := by
  unfold cw_fr; rfl
theorem cw_frS {σ : Type} (g : Nat → σ → σ) (k d : Nat) (s : σ) : cw_fr g k (d + 1) s = cw_fr g (k + 1) d (g k s) := by
  conv => lhs; unfold cw_fr
theorem cw_fr_add {σ : Type} (g : Nat → σ → σ) (b : Nat) : ∀ (a k : Nat) (s : σ), cw_fr g k (a + b) s = cw_fr g (k + a) b (cw_fr g k a s) := by
  intro a
  induction a with
  | zero => intro k s; rw [Nat.zero_add, cw_fr0, Nat.add_zero]
  | succ a ih =>
    intro k s
    rw [Nat.add_right_comm a 1 b, cw_frS, cw_frS, ih, Nat.add_assoc k 1 a, Nat.add_comm 1 a]
theorem cw_fr_cong {σ : Type} (g g' : Nat → σ → σ) : ∀ (d k : Nat) (s : σ), (∀ j s, k ≤ j → j < k + d → g j s = g' j s) → cw_fr g k d s = cw_fr g' k d s := by
  intro d
  induction d with
  | zero => intro k s _; rw [cw_fr0, cw_fr0]
  | succ d ih =>
    intro k s h
    rw [cw_frS, cw_frS, h k s (Nat.le_refl k) (by omega)]
    exact ih (k + 1) _ (fun j s h1 h2 => h j s (by omega) (by omega))
theorem cw_fr_id {σ : Type} (g : Nat → σ → σ) : ∀ (d k : Nat) (s : σ), (∀ j s, k ≤ j → j < k + d → g j s = s) → cw_fr g k d s = s := by
  intro d
  induction d with
  | zero => intro k s _; rw [cw_fr0]
  | succ d ih =>
    intro k s h
    rw [cw_frS, h k s (Nat.le_refl k) (by omega)]
    exact ih (k + 1) _ (fun j s h1 h2 => h j s (by omega) (by omega))
theorem cw_fr_sh {σ : Type} (g : Nat → σ → σ) (b : Nat) : ∀ (d k : Nat) (s : σ), cw_fr g (b + k) d s = cw_fr (fun j => g (b + j)) k d s := by
  intro d
  induction d with
  | zero => intro k s; rw [cw_fr0, cw_fr0]
  | succ d ih => intro k s; rw [cw_frS, cw_frS]; exact ih (k + 1) (g (b + k) s)
theorem cw_fr_blk {σ : Type} (g : Nat → σ → σ) (a : Nat) : ∀ (n k : Nat) (s : σ), cw_fr g (a * k) (a * n) s = cw_fr (fun i => cw_fr g (a * i) a) k n s := by
  intro n
  induction n with
  | zero => intro k s; rw [Nat.mul_zero, cw_fr0, cw_fr0]
  | succ n ih =>
    intro k s
    rw [cw_frS, Nat.mul_succ a n, Nat.add_comm (a * n) a, cw_fr_add, ← Nat.mul_succ]
    exact ih (k + 1) _
theorem cw_fr_cut {σ : Type} (g : Nat → σ → σ) (c : Nat) (hc : c ≤ 8) (s : σ) (h : ∀ j s, c < j → j < 9 → g j s = s) : cw_fr g 0 9 s = cw_fr g 0 (c + 1) s := by
  have e := cw_fr_add g (8 - c) (c + 1) 0 s
  rw [show (c + 1) + (8 - c) = 9 by omega] at e
  rw [e]
  exact cw_fr_id g _ _ _ (fun j s h1 h2 => h j s (by omega) (by omega))

/-! the cuts within the counts, one after the other, as three nested walks -/
def cw_in (c0 c1 c2 c : Nat) : Bool := decide (c / 81 ≤ c0) && decide (c / 9 % 9 ≤ c1) && decide (c % 9 ≤ c2)
def cw_hx {σ : Type} (c0 c1 c2 : Nat) (H : Nat → Nat → Nat → σ → σ) (c : Nat) (s : σ) : σ := if cw_in c0 c1 c2 c = true then H (c / 81) (c / 9 % 9) (c % 9) s else s
theorem cw_hx_t {σ : Type} {c0 c1 c2 : Nat} {H : Nat → Nat → Nat → σ → σ} {s : σ} (k0 k1 k2 : Nat) (h1 : k1 < 9) (h2 : k2 < 9) (l0 : k0 ≤ c0) (l1 : k1 ≤ c1) (l2 : k2 ≤ c2) : cw_hx c0 c1 c2 H (9 * (9 * k0 + k1) + k2) s = H k0 k1 k2 s := by
  have e0 : (9 * (9 * k0 + k1) + k2) / 81 = k0 := by omega
  have e1 : (9 * (9 * k0 + k1) + k2) / 9 % 9 = k1 := by omega
  have e2 : (9 * (9 * k0 + k1) + k2) % 9 = k2 := by omega
  unfold cw_hx cw_in
  rw [e0, e1, e2]
  simp [l0, l1, l2]
theorem cw_hx_f {σ : Type} {c0 c1 c2 : Nat} {H : Nat → Nat → Nat → σ → σ} {s : σ} (k0 k1 k2 : Nat) (h1 : k1 < 9) (h2 : k2 < 9) (l : c0 < k0 ∨ c1 < k1 ∨ c2 < k2) : cw_hx c0 c1 c2 H (9 * (9 * k0 + k1) + k2) s = s := by
  have e0 : (9 * (9 * k0 + k1) + k2) / 81 = k0 := by omega
  have e1 : (9 * (9 * k0 + k1) + k2) / 9 % 9 = k1 := by omega
  have e2 : (9 * (9 * k0 + k1) + k2) % 9 = k2 := by omega
  unfold cw_hx cw_in
  rw [e0, e1, e2]
  refine if_neg ?_
  simp
  omega
theorem cw_n2 {σ : Type} (c0 c1 c2 : Nat) (h2 : c2 ≤ 8) (H : Nat → Nat → Nat → σ → σ) (k0 k1 : Nat) (l0 : k0 ≤ c0) (l1 : k1 ≤ c1) (h1 : c1 ≤ 8) (s : σ) : cw_fr (cw_hx c0 c1 c2 H) (9 * (9 * k0 + k1)) 9 s = cw_fr (H k0 k1) 0 (c2 + 1) s := by
  have e := cw_fr_sh (cw_hx c0 c1 c2 H) (9 * (9 * k0 + k1)) 9 0 s
  rw [Nat.add_zero] at e
  rw [e, cw_fr_cut _ c2 h2 s (fun j s hj h9 => cw_hx_f k0 k1 j (by omega) h9 (Or.inr (Or.inr hj)))]
  exact cw_fr_cong _ _ _ _ _ (fun j s _ hj => cw_hx_t k0 k1 j (by omega) (by omega) l0 l1 (by omega))
theorem cw_n2f {σ : Type} (c0 c1 c2 : Nat) (H : Nat → Nat → Nat → σ → σ) (k0 k1 : Nat) (h1 : k1 < 9) (l : c0 < k0 ∨ c1 < k1) (s : σ) : cw_fr (cw_hx c0 c1 c2 H) (9 * (9 * k0 + k1)) 9 s = s := by
  have e := cw_fr_sh (cw_hx c0 c1 c2 H) (9 * (9 * k0 + k1)) 9 0 s
  rw [Nat.add_zero] at e
  rw [e]
  exact cw_fr_id _ _ _ _ (fun j s _ hj => cw_hx_f k0 k1 j h1 (by omega) (by omega))
theorem cw_n1e {σ : Type} (h : Nat → σ → σ) (k0 : Nat) (s : σ) : cw_fr h (81 * k0) 81 s = cw_fr (fun j => cw_fr h (9 * (9 * k0 + j)) 9) 0 9 s := by
  have e := cw_fr_blk h 9 9 (9 * k0) s
  have e2 := cw_fr_sh (fun i => cw_fr h (9 * i) 9) (9 * k0) 9 0 s
  rw [Nat.add_zero] at e2
  rw [show 81 * k0 = 9 * (9 * k0) by omega]
  exact e.trans e2
theorem cw_n1 {σ : Type} (c0 c1 c2 : Nat) (h1 : c1 ≤ 8) (h2 : c2 ≤ 8) (H : Nat → Nat → Nat → σ → σ) (k0 : Nat) (l0 : k0 ≤ c0) (s : σ) : cw_fr (cw_hx c0 c1 c2 H) (81 * k0) 81 s = cw_fr (fun k1 => cw_fr (H k0 k1) 0 (c2 + 1)) 0 (c1 + 1) s := by
  rw [cw_n1e, cw_fr_cut _ c1 h1 s (fun j s hj h9 => cw_n2f c0 c1 c2 H k0 j h9 (Or.inr hj) s)]
  exact cw_fr_cong _ _ _ _ _ (fun j s _ hj => cw_n2 c0 c1 c2 h2 H k0 j l0 (by omega) h1 s)
theorem cw_n1f {σ : Type} (c0 c1 c2 : Nat) (H : Nat → Nat → Nat → σ → σ) (k0 : Nat) (l0 : c0 < k0) (s : σ) : cw_fr (cw_hx c0 c1 c2 H) (81 * k0) 81 s = s := by
  rw [cw_n1e]
  exact cw_fr_id _ _ _ _ (fun j s _ hj => cw_n2f c0 c1 c2 H k0 j (by omega) (Or.inl l0) s)
theorem cw_nest {σ : Type} (c0 c1 c2 : Nat) (h0 : c0 ≤ 8) (h1 : c1 ≤ 8) (h2 : c2 ≤ 8) (H : Nat → Nat → Nat → σ → σ) (s : σ) : cw_fr (cw_hx c0 c1 c2 H) 0 729 s = cw_fr (fun k0 => cw_fr (fun k1 => cw_fr (H k0 k1) 0 (c2 + 1)) 0 (c1 + 1)) 0 (c0 + 1) s := by
  have e := cw_fr_blk (cw_hx c0 c1 c2 H) 81 9 0 s
  refine e.trans ?_
  rw [cw_fr_cut _ c0 h0 s (fun j s hj _ => cw_n1f c0 c1 c2 H j hj s)]
  exact cw_fr_cong _ _ _ _ _ (fun j s _ hj => cw_n1 c0 c1 c2 h1 h2 H j (by omega) s)

/-! a counted loop's walk -/
theorem cw_lp {σ : Type} (g : Nat → σ → σ) (c : Nat) (W : Nat → σ → Nat → Prop) (J : σ → Prop) (hx : ∀ n s, J s → W (n + 1) s (c + 1)) (hs : ∀ n s k, k ≤ c → W n (g k s) (k + 1) → W (n + 1) s k) (s : σ) (h : J (cw_fr g 0 (c + 1) s)) : W (c + 2) s 0 := by
  have A : ∀ (d k : Nat) (s : σ), k + d = c + 1 → J (cw_fr g k d s) → W (d + 1) s k := by
    intro d
    induction d with
    | zero =>
      intro k s e h
      rw [cw_fr0] at h
      have : k = c + 1 := by omega
      subst this
      exact hx 0 s h
    | succ d ih =>
      intro k s e h
      rw [cw_frS] at h
      exact hs (d + 1) s k (by omega) (ih (k + 1) _ (by omega) h)
  exact A (c + 1) 0 s (by omega) h
