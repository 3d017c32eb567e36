/-! ===== counting below n ===== -/
def lf_ct (p : Nat → Bool) : Nat → Nat
  | 0 => 0
  | n + 1 => lf_ct p n + (if p n = true then 1 else 0)
def lf_sm (f : Nat → Nat) : Nat → Nat
  | 0 => 0
  | n + 1 => lf_sm f n + f n
theorem lf_ct_s (p : Nat → Bool) (n : Nat) : lf_ct p (n + 1) = lf_ct p n + (if p n = true then 1 else 0) := rfl
theorem lf_sm_s (f : Nat → Nat) (n : Nat) : lf_sm f (n + 1) = lf_sm f n + f n := rfl
theorem lf_ct_t {p : Nat → Bool} {n : Nat} (h : p n = true) : lf_ct p (n + 1) = lf_ct p n + 1 := by rw [lf_ct_s, if_pos h]
theorem lf_ct_f {p : Nat → Bool} {n : Nat} (h : p n = false) : lf_ct p (n + 1) = lf_ct p n := by
  rw [lf_ct_s, if_neg (by rw [h]; decide)]; rfl
theorem lf_ct_le (p : Nat → Bool) : ∀ n, lf_ct p n ≤ n := by
  intro n
  induction n with
  | zero => exact Nat.le_refl _
  | succ n ih =>
    cases h : p n
    · rw [lf_ct_f h]; omega
    · rw [lf_ct_t h]; omega
theorem lf_ct_congr {p q : Nat → Bool} : ∀ n, (∀ i, i < n → p i = q i) → lf_ct p n = lf_ct q n := by
  intro n
  induction n with
  | zero => intro _; rfl
  | succ n ih =>
    intro h
    rw [lf_ct_s, lf_ct_s, ih (fun i hi => h i (by omega)), h n (by omega)]
theorem lf_ct_one {p q : Nat → Bool} {k : Nat} (hp : p k = true) (hq : q k = false) : ∀ n, k < n → (∀ i, i < n → i ≠ k → p i = q i) → lf_ct p n = lf_ct q n + 1 := by
  intro n
  induction n with
  | zero => intro h; omega
  | succ n ih =>
    intro hk h
    by_cases e : k = n
    · subst e
      rw [lf_ct_t hp, lf_ct_f hq, lf_ct_congr k (fun i hi => h i (by omega) (by omega))]
    · have := ih (by omega) (fun i hi => h i (by omega))
      rw [lf_ct_s, lf_ct_s, h n (by omega) (by omega)]
      omega
theorem lf_ct_mono {p q : Nat → Bool} (h : ∀ i, p i = true → q i = true) : ∀ n, lf_ct p n ≤ lf_ct q n := by
  intro n
  induction n with
  | zero => exact Nat.le_refl _
  | succ n ih =>
    cases hp : p n
    · rw [lf_ct_f hp, lf_ct_s]; omega
    · rw [lf_ct_t hp, lf_ct_t (h n hp)]; omega
theorem lf_ct_lt {p q : Nat → Bool} (h : ∀ i, p i = true → q i = true) {k : Nat} (hp : p k = false) (hq : q k = true) : ∀ n, k < n → lf_ct p n + 1 ≤ lf_ct q n := by
  intro n
  induction n with
  | zero => intro h; omega
  | succ n ih =>
    intro hk
    by_cases e : k = n
    · subst e
      rw [lf_ct_f hp, lf_ct_t hq]
      have := lf_ct_mono h k
      omega
    · have := ih (by omega)
      cases hp : p n
      · rw [lf_ct_f hp, lf_ct_s]; omega
      · rw [lf_ct_t hp, lf_ct_t (h n hp)]; omega
theorem lf_ct_full {p : Nat → Bool} : ∀ n, n ≤ lf_ct p n → ∀ i, i < n → p i = true := by
  intro n
  induction n with
  | zero => intro _ i hi; omega
  | succ n ih =>
    intro h i hi
    have hl := lf_ct_le p n
    cases hp : p n
    · rw [lf_ct_f hp] at h; omega
    · rw [lf_ct_t hp] at h
      by_cases e : i = n
      · rw [e]; exact hp
      · exact ih (by omega) i (by omega)
theorem lf_ct_all {p : Nat → Bool} : ∀ n, (∀ i, i < n → p i = true) → lf_ct p n = n := by
  intro n
  induction n with
  | zero => intro _; rfl
  | succ n ih =>
    intro h
    rw [lf_ct_t (h n (by omega)), ih (fun i hi => h i (by omega))]
theorem lf_ct_zero {p : Nat → Bool} : ∀ n, lf_ct p n = 0 ↔ ∀ i, i < n → p i = false := by
  intro n
  induction n with
  | zero => exact ⟨fun _ i hi => by omega, fun _ => rfl⟩
  | succ n ih =>
    cases hp : p n
    · rw [lf_ct_f hp, ih]
      exact ⟨fun h i hi => by
        by_cases e : i = n
        · rw [e]; exact hp
        · exact h i (by omega), fun h i hi => h i (by omega)⟩
    · rw [lf_ct_t hp]
      exact ⟨fun h => by omega, fun h => by have := h n (by omega); rw [hp] at this; cases this⟩
theorem lf_sm_congr {f g : Nat → Nat} : ∀ n, (∀ i, i < n → f i = g i) → lf_sm f n = lf_sm g n := by
  intro n
  induction n with
  | zero => intro _; rfl
  | succ n ih =>
    intro h
    rw [lf_sm_s, lf_sm_s, ih (fun i hi => h i (by omega)), h n (by omega)]
theorem lf_sm_one {f g : Nat → Nat} {k : Nat} (hk : f k = g k + 1) : ∀ n, k < n → (∀ i, i < n → i ≠ k → f i = g i) → lf_sm f n = lf_sm g n + 1 := by
  intro n
  induction n with
  | zero => intro h; omega
  | succ n ih =>
    intro hn h
    rw [lf_sm_s, lf_sm_s]
    by_cases e : k = n
    · subst e
      rw [hk, lf_sm_congr k (fun i hi => h i (by omega) (by omega))]
      omega
    · have := ih (by omega) (fun i hi => h i (by omega))
      rw [h n (by omega) (by omega)]
      omega
theorem lf_sm_two {f g : Nat → Nat} {k l n : Nat} (hkl : k ≠ l) (hk : f k = g k + 1) (hl : f l = g l + 1) (hkn : k < n) (hln : l < n) (h : ∀ i, i < n → i ≠ k → i ≠ l → f i = g i) : lf_sm f n = lf_sm g n + 2 := by
  have e1 : lf_sm f n = lf_sm (fun i => if i = k then g i else f i) n + 1 :=
    lf_sm_one (k := k) (by simp [hk]) n hkn (fun i _ hi => by simp [hi])
  have e2 : lf_sm (fun i => if i = k then g i else f i) n = lf_sm g n + 1 := by
    refine lf_sm_one (k := l) ?_ n hln (fun i hn hi => ?_)
    · have : ¬ l = k := fun z => hkl z.symm
      simp [this, hl]
    · by_cases e : i = k
      · simp [e]
      · simp [e, h i hn e hi]
  omega
theorem lf_sm_le {f : Nat → Nat} {m : Nat} (h : ∀ i, f i ≤ m) : ∀ n, lf_sm f n ≤ n * m := by
  intro n
  induction n with
  | zero => exact Nat.zero_le _
  | succ n ih =>
    rw [lf_sm_s, Nat.succ_mul]
    have := h n
    omega
theorem lf_sm_zero {f : Nat → Nat} : ∀ n, (∀ i, i < n → f i = 0) → lf_sm f n = 0 := by
  intro n
  induction n with
  | zero => intro _; rfl
  | succ n ih =>
    intro h
    rw [lf_sm_s, ih (fun i hi => h i (by omega)), h n (by omega)]
theorem lf_min {P : Nat → Prop} : ∀ n, P n → ∃ m, P m ∧ ∀ j, j < m → ¬ P j := by
  intro n
  induction n using Nat.strongRecOn with
  | ind n ih =>
    intro h
    by_cases e : ∃ j, j < n ∧ P j
    · obtain ⟨j, hj, hp⟩ := e
      exact ih j hj hp
    · exact ⟨n, h, fun j hj hp => e ⟨j, hj, hp⟩⟩
