section
/-! rows pasted from kit/rows (bits, pure rows), then the bits of a set of points -/
def bt (x : Int32) (i : Nat) : Bool := x.toBitVec.getLsbD i
theorem b_ext {x y : Int32} (h : ∀ i, i < 32 → bt x i = bt y i) : x = y := Int32.toBitVec_inj.mp (BitVec.eq_of_getLsbD_eq (fun i hi => h i hi))
theorem b_or (x y : Int32) (i : Nat) : bt (x ||| y) i = (bt x i || bt y i) := by unfold bt; rw [Int32.toBitVec_or, BitVec.getLsbD_or]
theorem b_and (x y : Int32) (i : Nat) : bt (x &&& y) i = (bt x i && bt y i) := by unfold bt; rw [Int32.toBitVec_and, BitVec.getLsbD_and]
theorem b_xor (x y : Int32) (i : Nat) : bt (x ^^^ y) i = (bt x i ^^ bt y i) := by unfold bt; rw [Int32.toBitVec_xor, BitVec.getLsbD_xor]
theorem b_big {x : Int32} {i : Nat} (h : 32 ≤ i) : bt x i = false := BitVec.getLsbD_of_ge _ _ h
theorem b_m1 : ∀ i, i < 32 → bt (-1) i = true := by decide +kernel
theorem b_0 (i : Nat) : bt 0 i = false := BitVec.getLsbD_zero
theorem s_l : ∀ n, n < 32 → ((nI n &&& 31).toBitVec.smod 32).toNat = n := by decide +kernel
theorem b_shl (n : Nat) (hn : n < 32) (x : Int32) {i : Nat} (hi : i < 32) : bt (x <<< (nI n &&& 31)) i = (decide (n ≤ i) && bt x (i - n)) := by
  unfold bt
  rw [Int32.toBitVec_shiftLeft]
  show (x.toBitVec <<< ((nI n &&& 31).toBitVec.smod 32).toNat).getLsbD i = _
  rw [s_l n hn, BitVec.getLsbD_shiftLeft]
  rcases Nat.lt_or_ge i n with h | h
  · simp [h, Nat.not_le.mpr h]
  · simp [hi, h, Nat.not_lt.mpr h]
theorem b_sshr (n : Nat) (hn : n < 32) (x : Int32) {i : Nat} (hi : i < 32) : bt (x >>> (nI n &&& 31)) i = if n + i < 32 then bt x (n + i) else bt x 31 := by
  unfold bt
  rw [Int32.toBitVec_shiftRight]
  show (x.toBitVec.sshiftRight ((nI n &&& 31).toBitVec.smod 32).toNat).getLsbD i = _
  rw [s_l n hn, BitVec.getLsbD_sshiftRight, BitVec.msb_eq_getLsbD_last]
  simp [hi]
theorem pk_us {f : Nat → Int32} {k : Nat} {x : Int32} : upd f k x k = x := if_pos rfl
theorem pk_un {f : Nat → Int32} {k j : Nat} {x : Int32} (h : j ≠ k) : upd f k x j = f j := if_neg h
theorem pk_sub {a b : Nat} (h : b ≤ a) : nI a - nI b = nI (a - b) := by
  obtain ⟨c, rfl⟩ : ∃ c, a = c + b := ⟨a - b, by omega⟩
  rw [← nI_add, Int32.add_sub_cancel, Nat.add_sub_cancel]
theorem pk_mul (a b : Nat) : nI a * nI b = nI (a * b) := (Int32.ofNat_mul a b).symm
theorem pk_div {a d : Nat} (ha : a < 2 ^ 31) (h0 : 0 < d) (hd : d < 2 ^ 31) : nI a / nI d = nI (a / d) := by
  apply Int32.toInt_inj.mp
  rw [lg_idiv_nonneg (by rw [nI_toInt ha]; omega) (by rw [nI_toInt hd]; omega), nI_toInt ha, nI_toInt hd, nI_toInt (Nat.lt_of_le_of_lt (Nat.div_le_self a d) ha)]
  first | rfl | exact (Int.natCast_ediv _ _).symm
theorem pk_rem {a d : Nat} (ha : a < 2 ^ 31) (h0 : 0 < d) (hd : d < 2 ^ 31) : nI a - nI a / nI d * nI d = nI (a % d) := by
  rw [pk_div ha h0 hd, pk_mul, pk_sub (Nat.div_mul_le_self a d)]
  exact congrArg nI (by have := Nat.div_add_mod' a d; omega)
theorem pk_ix (x : Int32) {n : Nat} (hn : n < 2 ^ 31) : x < 0 ∨ nI n ≤ x ∨ ∃ j : Nat, j < n ∧ x = nI j := by
  by_cases h : x < 0
  · exact Or.inl h
  · obtain ⟨j, hj, rfl⟩ := nI_of h
    by_cases h2 : j < n
    · exact Or.inr (Or.inr ⟨j, h2, rfl⟩)
    · exact Or.inr (Or.inl (nI_le (by omega) hj))
theorem pk_le {x y : Int32} {A B : Prop} (a b : Nat) (f : a ≤ b → A) (g : b < a → B) (hx : x = nI a := by rfl) (hy : y = nI b := by rfl) (ha : a < 2 ^ 31 := by omega) (hb : b < 2 ^ 31 := by omega) : (x ≤ y → A) ∧ (¬ x ≤ y → B) := by
  subst hx hy
  rw [nI_leI ha hb]
  exact ⟨f, fun z => g (by omega)⟩
theorem pk_lt {x y : Int32} {A B : Prop} (a b : Nat) (f : a < b → A) (g : b ≤ a → B) (hx : x = nI a := by rfl) (hy : y = nI b := by rfl) (ha : a < 2 ^ 31 := by omega) (hb : b < 2 ^ 31 := by omega) : (x < y → A) ∧ (¬ x < y → B) := by
  subst hx hy
  rw [nI_ltI ha hb]
  exact ⟨f, fun z => g (by omega)⟩
theorem pk_eq {x y : Int32} {A B : Prop} (a b : Nat) (f : a = b → A) (g : a ≠ b → B) (hx : x = nI a := by rfl) (hy : y = nI b := by rfl) (ha : a < 2 ^ 31 := by omega) (hb : b < 2 ^ 31 := by omega) : (x = y → A) ∧ (¬ x = y → B) := by
  subst hx hy
  rw [nI_eq ha hb]
  exact ⟨f, g⟩
/-! ===== one bit ===== -/
theorem lf_b1 : ∀ i, i < 32 → bt 1 i = decide (i = 0) := by decide +kernel
def lf_bit (v : Nat) : Int32 := (1 : Int32) <<< (nI v &&& 31)
theorem lf_bitb {v i : Nat} (hv : v < 12) (hi : i < 32) : bt (lf_bit v) i = decide (i = v) := by
  unfold lf_bit
  rw [b_shl v (by omega) 1 hi]
  by_cases h : v ≤ i
  · rw [lf_b1 _ (by omega)]
    by_cases e : i = v
    · subst e; simp
    · simp [h, e]; omega
  · have e : ¬ i = v := by omega
    simp [h, e]
theorem lf_and1 (x : Int32) : x &&& 1 = if bt x 0 then 1 else 0 := by
  apply b_ext
  intro i hi
  rw [b_and, lf_b1 i hi]
  by_cases e : i = 0
  · subst e
    cases h : bt x 0
    · simp [b_0]
    · simp; decide +kernel
  · cases h : bt x 0
    · simp [b_0, e]
    · simp [e, lf_b1 i hi]
theorem lf_sh (s : Int32) {j : Nat} (hj : j < 32) : (s >>> (nI j &&& 31)) &&& 1 = if bt s j then 1 else 0 := by
  rw [lf_and1, b_sshr j hj s (by omega)]
  simp [hj]
theorem lf_low : ∀ u, u < 12 → ∀ i, i < 32 → bt (lf_bit u - 1) i = decide (i < u) := by decide +kernel
theorem lf_ext {x y : Int32} (h : ∀ i, bt x i = true ↔ bt y i = true) : x = y := by
  apply b_ext
  intro i _
  exact Bool.eq_iff_iff.mpr (h i)
end
section
/-! ===== counting below n ===== -/
def lf_ct (p : Nat → Bool) : Nat → Nat
  | 0 => 0
  | n + 1 => lf_ct p n + (if p n = true then 1 else 0)
def lf_sm (f : Nat → Nat) : Nat → Nat
  | 0 => 0
  | n + 1 => lf_sm f n + f n
theorem lf_ct_s (p : Nat → Bool) (n : Nat) : lf_ct p (n + 1) = lf_ct p n + (if p n = true then 1 else 0) := rfl
theorem lf_sm_s (f : Nat → Nat) (n : Nat) : lf_sm f (n + 1) = lf_sm f n + f n := rfl
theorem lf_ct_t {p : Nat → Bool} {n : Nat} (h : p n = true) : lf_ct p (n + 1) = lf_ct p n + 1 := by rw [lf_ct_s, if_pos h]
theorem lf_ct_f {p : Nat → Bool} {n : Nat} (h : p n = false) : lf_ct p (n + 1) = lf_ct p n := by
  rw [lf_ct_s, if_neg (by rw [h]; decide)]; rfl
theorem lf_ct_le (p : Nat → Bool) : ∀ n, lf_ct p n ≤ n := by
  intro n
  induction n with
  | zero => exact Nat.le_refl _
  | succ n ih =>
    cases h : p n
    · rw [lf_ct_f h]; omega
    · rw [lf_ct_t h]; omega
theorem lf_ct_congr {p q : Nat → Bool} : ∀ n, (∀ i, i < n → p i = q i) → lf_ct p n = lf_ct q n := by
  intro n
  induction n with
  | zero => intro _; rfl
  | succ n ih =>
    intro h
    rw [lf_ct_s, lf_ct_s, ih (fun i hi => h i (by omega)), h n (by omega)]
theorem lf_ct_one {p q : Nat → Bool} {k : Nat} (hp : p k = true) (hq : q k = false) : ∀ n, k < n → (∀ i, i < n → i ≠ k → p i = q i) → lf_ct p n = lf_ct q n + 1 := by
  intro n
  induction n with
  | zero => intro h; omega
  | succ n ih =>
    intro hk h
    by_cases e : k = n
    · subst e
      rw [lf_ct_t hp, lf_ct_f hq, lf_ct_congr k (fun i hi => h i (by omega) (by omega))]
    · have := ih (by omega) (fun i hi => h i (by omega))
      rw [lf_ct_s, lf_ct_s, h n (by omega) (by omega)]
      omega
theorem lf_ct_mono {p q : Nat → Bool} (h : ∀ i, p i = true → q i = true) : ∀ n, lf_ct p n ≤ lf_ct q n := by
  intro n
  induction n with
  | zero => exact Nat.le_refl _
  | succ n ih =>
    cases hp : p n
    · rw [lf_ct_f hp, lf_ct_s]; omega
    · rw [lf_ct_t hp, lf_ct_t (h n hp)]; omega
theorem lf_ct_lt {p q : Nat → Bool} (h : ∀ i, p i = true → q i = true) {k : Nat} (hp : p k = false) (hq : q k = true) : ∀ n, k < n → lf_ct p n + 1 ≤ lf_ct q n := by
  intro n
  induction n with
  | zero => intro h; omega
  | succ n ih =>
    intro hk
    by_cases e : k = n
    · subst e
      rw [lf_ct_f hp, lf_ct_t hq]
      have := lf_ct_mono h k
      omega
    · have := ih (by omega)
      cases hp : p n
      · rw [lf_ct_f hp, lf_ct_s]; omega
      · rw [lf_ct_t hp, lf_ct_t (h n hp)]; omega
theorem lf_ct_full {p : Nat → Bool} : ∀ n, n ≤ lf_ct p n → ∀ i, i < n → p i = true := by
  intro n
  induction n with
  | zero => intro _ i hi; omega
  | succ n ih =>
    intro h i hi
    have hl := lf_ct_le p n
    cases hp : p n
    · rw [lf_ct_f hp] at h; omega
    · rw [lf_ct_t hp] at h
      by_cases e : i = n
      · rw [e]; exact hp
      · exact ih (by omega) i (by omega)
theorem lf_ct_all {p : Nat → Bool} : ∀ n, (∀ i, i < n → p i = true) → lf_ct p n = n := by
  intro n
  induction n with
  | zero => intro _; rfl
  | succ n ih =>
    intro h
    rw [lf_ct_t (h n (by omega)), ih (fun i hi => h i (by omega))]
theorem lf_ct_zero {p : Nat → Bool} : ∀ n, lf_ct p n = 0 ↔ ∀ i, i < n → p i = false := by
  intro n
  induction n with
  | zero => exact ⟨fun _ i hi => by omega, fun _ => rfl⟩
  | succ n ih =>
    cases hp : p n
    · rw [lf_ct_f hp, ih]
      exact ⟨fun h i hi => by
        by_cases e : i = n
        · rw [e]; exact hp
        · exact h i (by omega), fun h i hi => h i (by omega)⟩
    · rw [lf_ct_t hp]
      exact ⟨fun h => by omega, fun h => by have := h n (by omega); rw [hp] at this; cases this⟩
theorem lf_sm_congr {f g : Nat → Nat} : ∀ n, (∀ i, i < n → f i = g i) → lf_sm f n = lf_sm g n := by
  intro n
  induction n with
  | zero => intro _; rfl
  | succ n ih =>
    intro h
    rw [lf_sm_s, lf_sm_s, ih (fun i hi => h i (by omega)), h n (by omega)]
theorem lf_sm_one {f g : Nat → Nat} {k : Nat} (hk : f k = g k + 1) : ∀ n, k < n → (∀ i, i < n → i ≠ k → f i = g i) → lf_sm f n = lf_sm g n + 1 := by
  intro n
  induction n with
  | zero => intro h; omega
  | succ n ih =>
    intro hn h
    rw [lf_sm_s, lf_sm_s]
    by_cases e : k = n
    · subst e
      rw [hk, lf_sm_congr k (fun i hi => h i (by omega) (by omega))]
      omega
    · have := ih (by omega) (fun i hi => h i (by omega))
      rw [h n (by omega) (by omega)]
      omega
theorem lf_sm_two {f g : Nat → Nat} {k l n : Nat} (hkl : k ≠ l) (hk : f k = g k + 1) (hl : f l = g l + 1) (hkn : k < n) (hln : l < n) (h : ∀ i, i < n → i ≠ k → i ≠ l → f i = g i) : lf_sm f n = lf_sm g n + 2 := by
  have e1 : lf_sm f n = lf_sm (fun i => if i = k then g i else f i) n + 1 :=
    lf_sm_one (k := k) (by simp [hk]) n hkn (fun i _ hi => by simp [hi])
  have e2 : lf_sm (fun i => if i = k then g i else f i) n = lf_sm g n + 1 := by
    refine lf_sm_one (k := l) ?_ n hln (fun i hn hi => ?_)
    · have : ¬ l = k := fun z => hkl z.symm
      simp [this, hl]
    · by_cases e : i = k
      · simp [e]
      · simp [e, h i hn e hi]
  omega
theorem lf_sm_le {f : Nat → Nat} {m : Nat} (h : ∀ i, f i ≤ m) : ∀ n, lf_sm f n ≤ n * m := by
  intro n
  induction n with
  | zero => exact Nat.zero_le _
  | succ n ih =>
    rw [lf_sm_s, Nat.succ_mul]
    have := h n
    omega
theorem lf_sm_zero {f : Nat → Nat} : ∀ n, (∀ i, i < n → f i = 0) → lf_sm f n = 0 := by
  intro n
  induction n with
  | zero => intro _; rfl
  | succ n ih =>
    intro h
    rw [lf_sm_s, ih (fun i hi => h i (by omega)), h n (by omega)]
theorem lf_min {P : Nat → Prop} : ∀ n, P n → ∃ m, P m ∧ ∀ j, j < m → ¬ P j := by
  intro n
  induction n using Nat.strongRecOn with
  | ind n ih =>
    intro h
    by_cases e : ∃ j, j < n ∧ P j
    · obtain ⟨j, hj, hp⟩ := e
      exact ih j hj hp
    · exact ⟨n, h, fun j hj hp => e ⟨j, hj, hp⟩⟩
end
section
/-! ===== the graph: a point's neighbours as a set ===== -/
def lf_Ed (a : Nat → Int32) (x y : Nat) : Prop := x < 12 ∧ bt (a x) y = true
def lf_Gr (a : Nat → Int32) : Prop := ∀ x y, lf_Ed a x y → y ≠ x ∧ lf_Ed a y x
def lf_Cn (a : Nat → Int32) (u v : Nat) : Prop := ∀ P : Nat → Prop, P u → (∀ x y, P x → lf_Ed a x y → P y) → P v
theorem lf_cn_rf (a : Nat → Int32) (u : Nat) : lf_Cn a u u := fun _ h _ => h
theorem lf_cn_tr {a : Nat → Int32} {u v w : Nat} (h : lf_Cn a u v) (h2 : lf_Cn a v w) : lf_Cn a u w := fun P hu hs => h2 P (h P hu hs) hs
theorem lf_cn_ed {a : Nat → Int32} {u v : Nat} (h : lf_Ed a u v) : lf_Cn a u v := fun _ hu hs => hs u v hu h
theorem lf_cn_sy {a : Nat → Int32} (G : lf_Gr a) {u v : Nat} (h : lf_Cn a u v) : lf_Cn a v u :=
  h (fun x => lf_Cn a x u) (lf_cn_rf a u) (fun x y hx he => lf_cn_tr (lf_cn_ed (G x y he).2) hx)
theorem lf_ed_lt {a : Nat → Int32} (G : lf_Gr a) {x y : Nat} (h : lf_Ed a x y) : y < 12 := (G x y h).2.1
theorem lf_cn_lt {a : Nat → Int32} (G : lf_Gr a) {u v : Nat} (hu : u < 12) (h : lf_Cn a u v) : v < 12 :=
  h (fun x => x < 12) hu (fun _ _ _ he => lf_ed_lt G he)
theorem lf_cn_mono {a b : Nat → Int32} (h : ∀ x y, lf_Ed a x y → lf_Ed b x y) {u v : Nat} (c : lf_Cn a u v) : lf_Cn b u v :=
  fun P hu hs => c P hu (fun x y hx he => hs x y hx (h x y he))
/-! ===== the sweeps ===== -/
def lf_sw (a : Nat → Int32) (s : Int32) : Nat → Int32
  | 0 => s
  | n + 1 => if bt (lf_sw a s n) n = true then lf_sw a s n ||| a n else lf_sw a s n
def lf_it (a : Nat → Int32) (s : Int32) : Nat → Int32
  | 0 => s
  | n + 1 => lf_sw a (lf_it a s n) 12
theorem lf_sw_t {a : Nat → Int32} {s : Int32} {n : Nat} (h : bt (lf_sw a s n) n = true) : lf_sw a s (n + 1) = lf_sw a s n ||| a n := if_pos h
theorem lf_sw_f {a : Nat → Int32} {s : Int32} {n : Nat} (h : bt (lf_sw a s n) n = false) : lf_sw a s (n + 1) = lf_sw a s n := if_neg (by rw [h]; decide)
theorem lf_sw_s {a : Nat → Int32} {s : Int32} {n j : Nat} (h : bt (lf_sw a s n) j = true) : bt (lf_sw a s (n + 1)) j = true := by
  cases e : bt (lf_sw a s n) n
  · rw [lf_sw_f e]; exact h
  · rw [lf_sw_t e, b_or, h]; rfl
theorem lf_sw_a {a : Nat → Int32} {s : Int32} {n j : Nat} (h : bt (lf_sw a s n) j = true) : ∀ m, bt (lf_sw a s (n + m)) j = true := by
  intro m
  induction m with
  | zero => exact h
  | succ m ih => exact lf_sw_s ih
theorem lf_sw_m {a : Nat → Int32} {s : Int32} {n m j : Nat} (hm : n ≤ m) (h : bt (lf_sw a s n) j = true) : bt (lf_sw a s m) j = true := by
  obtain ⟨d, rfl⟩ := Nat.exists_eq_add_of_le hm
  exact lf_sw_a h d
theorem lf_sw_ed {a : Nat → Int32} {s : Int32} {x y : Nat} (hx : x < 12) (h : bt s x = true) (he : bt (a x) y = true) : bt (lf_sw a s 12) y = true := by
  have h1 : bt (lf_sw a s x) x = true := lf_sw_m (Nat.zero_le x) h
  have h2 : bt (lf_sw a s (x + 1)) y = true := by rw [lf_sw_t h1, b_or, he]; exact Bool.or_true _
  exact lf_sw_m (by omega) h2
theorem lf_sw_in {a : Nat → Int32} {s : Int32} {P : Nat → Prop} (hs : ∀ j, bt s j = true → P j) (hp : ∀ x y, P x → lf_Ed a x y → P y) : ∀ n, n ≤ 12 → ∀ j, bt (lf_sw a s n) j = true → P j := by
  intro n
  induction n with
  | zero => intro _ j h; exact hs j h
  | succ n ih =>
    intro hn j h
    cases e : bt (lf_sw a s n) n
    · rw [lf_sw_f e] at h; exact ih (by omega) j h
    · rw [lf_sw_t e, b_or, Bool.or_eq_true] at h
      rcases h with h | h
      · exact ih (by omega) j h
      · exact hp n j (ih (by omega) n e) ⟨by omega, h⟩
theorem lf_it_in {a : Nat → Int32} {s : Int32} {P : Nat → Prop} (hs : ∀ j, bt s j = true → P j) (hp : ∀ x y, P x → lf_Ed a x y → P y) : ∀ n, ∀ j, bt (lf_it a s n) j = true → P j := by
  intro n
  induction n with
  | zero => exact hs
  | succ n ih => exact lf_sw_in ih hp 12 (Nat.le_refl _)
def lf_Cl (a : Nat → Int32) (s : Int32) : Prop := ∀ x y, bt s x = true → lf_Ed a x y → bt s y = true
theorem lf_cl_sw {a : Nat → Int32} {s : Int32} (h : lf_Cl a s) : lf_sw a s 12 = s :=
  lf_ext fun j => ⟨lf_sw_in (P := fun j => bt s j = true) (fun _ h => h) h 12 (Nat.le_refl _) j, fun z => lf_sw_m (n := 0) (by omega) z⟩
theorem lf_sw_cl {a : Nat → Int32} {s : Int32} (h : lf_sw a s 12 = s) : lf_Cl a s := fun x y hx he => by
  rw [← h]; exact lf_sw_ed he.1 hx he.2
theorem lf_it_m {a : Nat → Int32} {s : Int32} {j : Nat} (h : bt s j = true) : ∀ n, bt (lf_it a s n) j = true := by
  intro n
  induction n with
  | zero => exact h
  | succ n ih => exact lf_sw_m (n := 0) (by omega) ih
theorem lf_it_gr {a : Nat → Int32} (G : lf_Gr a) {s : Int32} {u : Nat} (hu : u < 12) (h : bt s u = true) (hs : ∀ j, bt s j = true → j < 12) : ∀ n, lf_Cl a (lf_it a s n) ∨ n + 1 ≤ lf_ct (bt (lf_it a s n)) 12 := by
  intro n
  induction n with
  | zero =>
    refine Or.inr ?_
    have := lf_ct_lt (p := fun _ => false) (q := bt s) (k := u) (fun i z => by cases z) rfl h 12 hu
    exact Nat.le_trans (by omega) this
  | succ n ih =>
    by_cases e : lf_sw a (lf_it a s n) 12 = lf_it a s n
    · refine Or.inl ?_
      show lf_Cl a (lf_sw a (lf_it a s n) 12)
      rw [e]
      exact lf_sw_cl e
    · rcases ih with c | c
      · exact absurd (lf_cl_sw c) e
      · refine Or.inr ?_
        have hm : ∀ j, bt (lf_it a s n) j = true → bt (lf_sw a (lf_it a s n) 12) j = true := fun j z => lf_sw_m (n := 0) (by omega) z
        have hl : ∀ j, bt (lf_it a s (n + 1)) j = true → j < 12 := lf_it_in (P := fun j => j < 12) hs (fun _ _ _ z => lf_ed_lt G z) (n + 1)
        have hk : ∃ k, bt (lf_it a s n) k = false ∧ bt (lf_sw a (lf_it a s n) 12) k = true := by
          refine Classical.byContradiction fun z => e (lf_ext fun j => ⟨fun y => ?_, hm j⟩)
          cases q : bt (lf_it a s n) j
          · exact absurd ⟨j, q, y⟩ z
          · rfl
        obtain ⟨k, k1, k2⟩ := hk
        have := lf_ct_lt hm k1 k2 12 (hl k k2)
        show n + 1 + 1 ≤ lf_ct (bt (lf_sw a (lf_it a s n) 12)) 12
        omega
theorem lf_it_cl {a : Nat → Int32} (G : lf_Gr a) {s : Int32} {u : Nat} (hu : u < 12) (h : bt s u = true) (hs : ∀ j, bt s j = true → j < 12) : lf_Cl a (lf_it a s 11) := by
  rcases lf_it_gr G hu h hs 11 with c | c
  · exact c
  · intro x y _ he
    exact lf_ct_full 12 c y (lf_ed_lt G he)
theorem lf_bitT {v : Nat} (hv : v < 12) (i : Nat) : bt (lf_bit v) i = true ↔ i = v := by
  rcases Nat.lt_or_ge i 32 with h | h
  · rw [lf_bitb hv h, decide_eq_true_iff]
  · rw [b_big h]
    exact ⟨fun z => (by cases z), fun z => (by omega)⟩
def lf_rc (a : Nat → Int32) (u : Nat) : Int32 := lf_it a (lf_bit u) 11
theorem lf_rc_cl {a : Nat → Int32} (G : lf_Gr a) {u : Nat} (hu : u < 12) : lf_Cl a (lf_rc a u) :=
  lf_it_cl G hu ((lf_bitT hu u).mpr rfl) (fun j z => by rw [(lf_bitT hu j).mp z]; exact hu)
theorem lf_rc12 {a : Nat → Int32} (G : lf_Gr a) {u : Nat} (hu : u < 12) : lf_it a (lf_bit u) 12 = lf_rc a u := lf_cl_sw (lf_rc_cl G hu)
theorem lf_rc_iff {a : Nat → Int32} (G : lf_Gr a) {u : Nat} (hu : u < 12) (j : Nat) : bt (lf_rc a u) j = true ↔ lf_Cn a u j := by
  constructor
  · exact lf_it_in (P := fun j => lf_Cn a u j) (fun j z => by rw [(lf_bitT hu j).mp z]; exact lf_cn_rf a u) (fun x y hx he => lf_cn_tr hx (lf_cn_ed he)) 11 j
  · intro c
    exact c (fun j => bt (lf_rc a u) j = true) (lf_it_m ((lf_bitT hu u).mpr rfl) 11) (fun x y hx he => lf_rc_cl G hu x y hx he)
/-! ===== the number of parts ===== -/
def lf_ls (a : Nat → Int32) (w : Nat) : Bool := decide (lf_ct (bt (lf_rc a w)) w = 0)
def lf_C (a : Nat → Int32) : Nat := lf_ct (lf_ls a) 12
theorem lf_ls_iff {a : Nat → Int32} (G : lf_Gr a) {w : Nat} (hw : w < 12) : lf_ls a w = true ↔ ∀ j, j < w → ¬ lf_Cn a w j := by
  unfold lf_ls
  rw [decide_eq_true_iff, lf_ct_zero]
  constructor
  · intro h j hj c
    have := h j hj
    rw [(lf_rc_iff G hw j).mpr c] at this
    cases this
  · intro h j hj
    cases e : bt (lf_rc a w) j
    · rfl
    · exact absurd ((lf_rc_iff G hw j).mp e) (h j hj)
theorem lf_C_le (a : Nat → Int32) : lf_C a ≤ 12 := lf_ct_le _ 12
theorem lf_C_eq {a b : Nat → Int32} (Ga : lf_Gr a) (Gb : lf_Gr b) (h : ∀ x y, lf_Cn a x y ↔ lf_Cn b x y) : lf_C a = lf_C b := by
  refine lf_ct_congr 12 fun w hw => Bool.eq_iff_iff.mpr ?_
  rw [lf_ls_iff Ga hw, lf_ls_iff Gb hw]
  exact ⟨fun z j hj c => z j hj ((h w j).mpr c), fun z j hj c => z j hj ((h w j).mp c)⟩
def lf_S (a : Nat → Int32) : Nat := lf_sm (fun i => lf_ct (bt (a i)) 12) 12
theorem lf_S_le (a : Nat → Int32) : lf_S a ≤ 144 := lf_sm_le (m := 12) (fun i => lf_ct_le _ 12) 12
end
section
/-! ===== an edge put, an edge taken ===== -/
def lf_put (a : Nat → Int32) (u v : Nat) : Nat → Int32 := upd (upd a u (a u ||| lf_bit v)) v (upd a u (a u ||| lf_bit v) v ||| lf_bit u)
def lf_take (a : Nat → Int32) (u v : Nat) : Nat → Int32 := upd (upd a u (a u &&& (lf_bit v ^^^ (-1)))) v (upd a u (a u &&& (lf_bit v ^^^ (-1))) v &&& (lf_bit u ^^^ (-1)))
theorem lf_nb (x : Int32) {v : Nat} (hv : v < 12) (j : Nat) : bt (x &&& (lf_bit v ^^^ (-1))) j = true ↔ bt x j = true ∧ ¬ j = v := by
  rcases Nat.lt_or_ge j 32 with h | h
  · rw [b_and, b_xor, b_m1 j h, lf_bitb hv h]
    by_cases e : j = v
    · simp [e]
    · simp [e]
  · rw [b_big h, b_big h]
    simp
theorem lf_ob (x : Int32) {v : Nat} (hv : v < 12) (j : Nat) : bt (x ||| lf_bit v) j = true ↔ bt x j = true ∨ j = v := by
  rw [b_or, Bool.or_eq_true, lf_bitT hv]
theorem lf_put_o {a : Nat → Int32} {u v i : Nat} (h1 : i ≠ u) (h2 : i ≠ v) : lf_put a u v i = a i := by
  unfold lf_put; rw [pk_un h2, pk_un h1]
theorem lf_take_o {a : Nat → Int32} {u v i : Nat} (h1 : i ≠ u) (h2 : i ≠ v) : lf_take a u v i = a i := by
  unfold lf_take; rw [pk_un h2, pk_un h1]
theorem lf_put_u {a : Nat → Int32} {u v : Nat} (h : u ≠ v) : lf_put a u v u = a u ||| lf_bit v := by
  unfold lf_put; rw [pk_un h, pk_us]
theorem lf_put_v {a : Nat → Int32} {u v : Nat} (h : u ≠ v) : lf_put a u v v = a v ||| lf_bit u := by
  unfold lf_put; rw [pk_us, pk_un (fun z => h z.symm)]
theorem lf_take_u {a : Nat → Int32} {u v : Nat} (h : u ≠ v) : lf_take a u v u = a u &&& (lf_bit v ^^^ (-1)) := by
  unfold lf_take; rw [pk_un h, pk_us]
theorem lf_take_v {a : Nat → Int32} {u v : Nat} (h : u ≠ v) : lf_take a u v v = a v &&& (lf_bit u ^^^ (-1)) := by
  unfold lf_take; rw [pk_us, pk_un (fun z => h z.symm)]
theorem lf_put_b {a : Nat → Int32} {u v : Nat} (hu : u < 12) (hv : v < 12) (h : u ≠ v) (i j : Nat) : bt (lf_put a u v i) j = true ↔ bt (a i) j = true ∨ (i = u ∧ j = v) ∨ (i = v ∧ j = u) := by
  by_cases e : i = u
  · subst e
    rw [lf_put_u h, lf_ob _ hv]
    simp [h]
  · by_cases e2 : i = v
    · subst e2
      rw [lf_put_v h, lf_ob _ hu]
      simp [e]
    · rw [lf_put_o e e2]
      simp [e, e2]
theorem lf_take_b {a : Nat → Int32} {u v : Nat} (hu : u < 12) (hv : v < 12) (h : u ≠ v) (i j : Nat) : bt (lf_take a u v i) j = true ↔ bt (a i) j = true ∧ ¬ (i = u ∧ j = v) ∧ ¬ (i = v ∧ j = u) := by
  by_cases e : i = u
  · subst e
    rw [lf_take_u h, lf_nb _ hv]
    simp [h]
  · by_cases e2 : i = v
    · subst e2
      rw [lf_take_v h, lf_nb _ hu]
      simp [e]
    · rw [lf_take_o e e2]
      simp [e, e2]
theorem lf_put_e {a : Nat → Int32} {u v : Nat} (hu : u < 12) (hv : v < 12) (h : u ≠ v) (x y : Nat) : lf_Ed (lf_put a u v) x y ↔ lf_Ed a x y ∨ (x = u ∧ y = v) ∨ (x = v ∧ y = u) := by
  unfold lf_Ed
  rw [lf_put_b hu hv h]
  constructor
  · rintro ⟨h1, h2 | h2⟩
    · exact Or.inl ⟨h1, h2⟩
    · exact Or.inr h2
  · rintro (⟨h1, h2⟩ | h2)
    · exact ⟨h1, Or.inl h2⟩
    · exact ⟨by omega, Or.inr h2⟩
theorem lf_take_e {a : Nat → Int32} {u v : Nat} (hu : u < 12) (hv : v < 12) (h : u ≠ v) (x y : Nat) : lf_Ed (lf_take a u v) x y ↔ lf_Ed a x y ∧ ¬ (x = u ∧ y = v) ∧ ¬ (x = v ∧ y = u) := by
  unfold lf_Ed
  rw [lf_take_b hu hv h]
  exact ⟨fun z => ⟨⟨z.1, z.2.1⟩, z.2.2⟩, fun z => ⟨z.1.1, z.1.2, z.2⟩⟩
theorem lf_put_g {a : Nat → Int32} {u v : Nat} (G : lf_Gr a) (hu : u < 12) (hv : v < 12) (h : u ≠ v) : lf_Gr (lf_put a u v) := by
  intro x y e
  rw [lf_put_e hu hv h] at e ⊢
  rcases e with e | ⟨e1, e2⟩ | ⟨e1, e2⟩
  · exact ⟨(G x y e).1, Or.inl (G x y e).2⟩
  · exact ⟨by omega, Or.inr (Or.inr ⟨e2, e1⟩)⟩
  · exact ⟨by omega, Or.inr (Or.inl ⟨e2, e1⟩)⟩
theorem lf_take_g {a : Nat → Int32} {u v : Nat} (G : lf_Gr a) (hu : u < 12) (hv : v < 12) (h : u ≠ v) : lf_Gr (lf_take a u v) := by
  intro x y e
  rw [lf_take_e hu hv h] at e ⊢
  exact ⟨(G x y e.1).1, (G x y e.1).2, fun z => e.2.2 ⟨z.2, z.1⟩, fun z => e.2.1 ⟨z.2, z.1⟩⟩
theorem lf_put_take {a : Nat → Int32} {u v : Nat} (G : lf_Gr a) (e : lf_Ed a u v) : lf_put (lf_take a u v) u v = a := by
  have hu := e.1
  have hv := lf_ed_lt G e
  have h : u ≠ v := fun z => (G u v e).1 z.symm
  have e' := (G u v e).2
  funext i
  refine lf_ext fun j => ?_
  rw [lf_put_b hu hv h, lf_take_b hu hv h]
  constructor
  · rintro (z | ⟨z1, z2⟩ | ⟨z1, z2⟩)
    · exact z.1
    · rw [z1, z2]; exact e.2
    · rw [z1, z2]; exact e'.2
  · intro z
    by_cases q1 : i = u ∧ j = v
    · exact Or.inr (Or.inl q1)
    · by_cases q2 : i = v ∧ j = u
      · exact Or.inr (Or.inr q2)
      · exact Or.inl ⟨z, q1, q2⟩
theorem lf_ct_nb {x : Int32} {v : Nat} (hv : v < 12) (h : bt x v = true) : lf_ct (bt x) 12 = lf_ct (bt (x &&& (lf_bit v ^^^ (-1)))) 12 + 1 := by
  refine lf_ct_one (k := v) h ?_ 12 hv fun i _ hi => ?_
  · cases q : bt (x &&& (lf_bit v ^^^ (-1))) v
    · rfl
    · exact absurd rfl ((lf_nb x hv v).mp q).2
  · refine Bool.eq_iff_iff.mpr ?_
    rw [lf_nb x hv]
    exact ⟨fun z => ⟨z, hi⟩, fun z => z.1⟩
theorem lf_ct_ob {x : Int32} {v : Nat} (hv : v < 12) (h : bt x v = false) : lf_ct (bt (x ||| lf_bit v)) 12 = lf_ct (bt x) 12 + 1 := by
  refine lf_ct_one (k := v) ((lf_ob x hv v).mpr (Or.inr rfl)) h 12 hv fun i _ hi => ?_
  refine Bool.eq_iff_iff.mpr ?_
  rw [lf_ob x hv]
  exact ⟨fun z => z.elim id (fun q => absurd q hi), Or.inl⟩
theorem lf_take_S {a : Nat → Int32} {u v : Nat} (G : lf_Gr a) (e : lf_Ed a u v) : lf_S a = lf_S (lf_take a u v) + 2 := by
  have hu := e.1
  have hv := lf_ed_lt G e
  have h : u ≠ v := fun z => (G u v e).1 z.symm
  have e' := (G u v e).2
  refine lf_sm_two (k := u) (l := v) h ?_ ?_ hu hv fun i _ h1 h2 => ?_
  · show lf_ct (bt (a u)) 12 = lf_ct (bt (lf_take a u v u)) 12 + 1
    rw [lf_take_u h]; exact lf_ct_nb hv e.2
  · show lf_ct (bt (a v)) 12 = lf_ct (bt (lf_take a u v v)) 12 + 1
    rw [lf_take_v h]; exact lf_ct_nb hu e'.2
  · show lf_ct (bt (a i)) 12 = lf_ct (bt (lf_take a u v i)) 12
    rw [lf_take_o h1 h2]
theorem lf_put_S {a : Nat → Int32} {u v : Nat} (G : lf_Gr a) (hu : u < 12) (hv : v < 12) (h : u ≠ v) (e : bt (a u) v = false) : lf_S (lf_put a u v) = lf_S a + 2 := by
  have e' : bt (a v) u = false := by
    cases q : bt (a v) u
    · rfl
    · have := (G v u ⟨hv, q⟩).2.2
      rw [e] at this; cases this
  refine lf_sm_two (k := u) (l := v) h ?_ ?_ hu hv fun i _ h1 h2 => ?_
  · show lf_ct (bt (lf_put a u v u)) 12 = lf_ct (bt (a u)) 12 + 1
    rw [lf_put_u h]; exact lf_ct_ob hv e
  · show lf_ct (bt (lf_put a u v v)) 12 = lf_ct (bt (a v)) 12 + 1
    rw [lf_put_v h]; exact lf_ct_ob hu e'
  · show lf_ct (bt (lf_put a u v i)) 12 = lf_ct (bt (a i)) 12
    rw [lf_put_o h1 h2]
end
section
/-! ===== bridges, and the graph whose edges are all bridges ===== -/
theorem lf_ed_ne {a : Nat → Int32} (G : lf_Gr a) {u v : Nat} (e : lf_Ed a u v) : u ≠ v := fun z => (G u v e).1 z.symm
theorem lf_nbr {a : Nat → Int32} {u v : Nat} (G : lf_Gr a) (e : lf_Ed a u v) (c : lf_Cn (lf_take a u v) u v) (x y : Nat) : lf_Cn a x y ↔ lf_Cn (lf_take a u v) x y := by
  have hu := e.1
  have hv := lf_ed_lt G e
  have h := lf_ed_ne G e
  have G' := lf_take_g G hu hv h
  constructor
  · intro k
    refine k (fun z => lf_Cn (lf_take a u v) x z) (lf_cn_rf _ _) fun p q hp he => ?_
    by_cases q1 : p = u ∧ q = v
    · rw [q1.1] at hp; rw [q1.2]; exact lf_cn_tr hp c
    · by_cases q2 : p = v ∧ q = u
      · rw [q2.1] at hp; rw [q2.2]; exact lf_cn_tr hp (lf_cn_sy G' c)
      · exact lf_cn_tr hp (lf_cn_ed ((lf_take_e hu hv h p q).mpr ⟨he, q1, q2⟩))
  · exact lf_cn_mono fun p q he => ((lf_take_e hu hv h p q).mp he).1
theorem lf_br {a : Nat → Int32} {u v : Nat} (G : lf_Gr a) (e : lf_Ed a u v) (x y : Nat) : lf_Cn a x y ↔ lf_Cn (lf_take a u v) x y ∨ (lf_Cn (lf_take a u v) x u ∧ lf_Cn (lf_take a u v) v y) ∨ (lf_Cn (lf_take a u v) x v ∧ lf_Cn (lf_take a u v) u y) := by
  have hu := e.1
  have hv := lf_ed_lt G e
  have h := lf_ed_ne G e
  have G' := lf_take_g G hu hv h
  have M : ∀ {p q : Nat}, lf_Cn (lf_take a u v) p q → lf_Cn a p q := fun k => lf_cn_mono (fun p q he => ((lf_take_e hu hv h p q).mp he).1) k
  constructor
  · intro k
    refine k (fun y => lf_Cn (lf_take a u v) x y ∨ (lf_Cn (lf_take a u v) x u ∧ lf_Cn (lf_take a u v) v y) ∨ (lf_Cn (lf_take a u v) x v ∧ lf_Cn (lf_take a u v) u y)) (Or.inl (lf_cn_rf _ _)) fun p q hp he => ?_
    by_cases q1 : p = u ∧ q = v
    · rw [q1.1] at hp; rw [q1.2]
      rcases hp with hp | hp | hp
      · exact Or.inr (Or.inl ⟨hp, lf_cn_rf _ _⟩)
      · exact Or.inr (Or.inl ⟨hp.1, lf_cn_rf _ _⟩)
      · exact Or.inl hp.1
    · by_cases q2 : p = v ∧ q = u
      · rw [q2.1] at hp; rw [q2.2]
        rcases hp with hp | hp | hp
        · exact Or.inr (Or.inr ⟨hp, lf_cn_rf _ _⟩)
        · exact Or.inl hp.1
        · exact Or.inr (Or.inr ⟨hp.1, lf_cn_rf _ _⟩)
      · have s := lf_cn_ed ((lf_take_e hu hv h p q).mpr ⟨he, q1, q2⟩)
        rcases hp with hp | hp | hp
        · exact Or.inl (lf_cn_tr hp s)
        · exact Or.inr (Or.inl ⟨hp.1, lf_cn_tr hp.2 s⟩)
        · exact Or.inr (Or.inr ⟨hp.1, lf_cn_tr hp.2 s⟩)
  · rintro (k | k | k)
    · exact M k
    · exact lf_cn_tr (M k.1) (lf_cn_tr (lf_cn_ed e) (M k.2))
    · exact lf_cn_tr (M k.1) (lf_cn_tr (lf_cn_ed (G u v e).2) (M k.2))
/-- two classes of R' joined into one of R: one point that was the least of its class is so no more -/
theorem lf_cls {R R' : Nat → Nat → Prop} {u v : Nat} (rf : ∀ x, R' x x) (sy : ∀ x y, R' x y → R' y x) (tr : ∀ x y z, R' x y → R' y z → R' x z)
    (hR : ∀ x y, R x y ↔ R' x y ∨ (R' x u ∧ R' v y) ∨ (R' x v ∧ R' u y)) (hn : ¬ R' u v) (mA mB : Nat) (hA : R' u mA) (hB : R' v mB) (lA : ∀ j, j < mA → ¬ R' u j) (lB : ∀ j, j < mB → ¬ R' v j) (hAB : mA < mB) :
    (∀ j, j < mB → ¬ R' mB j) ∧ (¬ ∀ j, j < mB → ¬ R mB j) ∧ (∀ w, w ≠ mB → ((∀ j, j < w → ¬ R' w j) ↔ (∀ j, j < w → ¬ R w j))) := by
  refine ⟨fun j hj k => lB j hj (tr _ _ _ hB k), fun k => k mA hAB ((hR mB mA).mpr (Or.inr (Or.inr ⟨sy _ _ hB, hA⟩))), fun w hw => ⟨fun k j hj r => ?_, fun k j hj r => k j hj ((hR w j).mpr (Or.inl r))⟩⟩
  rcases (hR w j).mp r with q | ⟨q1, q2⟩ | ⟨q1, q2⟩
  · exact k j hj q
  · have h1 : ¬ mA < w := fun z => k mA z (tr _ _ _ q1 hA)
    have h3 : ¬ j < mB := fun z => lB j z q2
    omega
  · have h1 : ¬ mB < w := fun z => k mB z (tr _ _ _ q1 hB)
    have h2 : ¬ w < mB := fun z => lB w z (sy _ _ q1)
    omega
theorem lf_C_br {a : Nat → Int32} {u v : Nat} (G : lf_Gr a) (e : lf_Ed a u v) (c : ¬ lf_Cn (lf_take a u v) u v) : lf_C (lf_take a u v) = lf_C a + 1 := by
  have hu := e.1
  have hv := lf_ed_lt G e
  have h := lf_ed_ne G e
  have G' := lf_take_g G hu hv h
  obtain ⟨mA, hA, lA⟩ := lf_min (P := lf_Cn (lf_take a u v) u) u (lf_cn_rf _ _)
  obtain ⟨mB, hB, lB⟩ := lf_min (P := lf_Cn (lf_take a u v) v) v (lf_cn_rf _ _)
  have key : ∃ m, m < 12 ∧ (∀ j, j < m → ¬ lf_Cn (lf_take a u v) m j) ∧ (¬ ∀ j, j < m → ¬ lf_Cn a m j) ∧ (∀ w, w ≠ m → ((∀ j, j < w → ¬ lf_Cn (lf_take a u v) w j) ↔ (∀ j, j < w → ¬ lf_Cn a w j))) := by
    rcases Nat.lt_trichotomy mA mB with q | q | q
    · exact ⟨mB, lf_cn_lt G' hv hB, lf_cls (R := lf_Cn a) (R' := lf_Cn (lf_take a u v)) (lf_cn_rf _) (fun _ _ => lf_cn_sy G') (fun _ _ _ => lf_cn_tr) (lf_br G e) c mA mB hA hB lA lB q⟩
    · subst q
      exact absurd (lf_cn_tr hA (lf_cn_sy G' hB)) c
    · exact ⟨mA, lf_cn_lt G' hu hA, lf_cls (R := lf_Cn a) (R' := lf_Cn (lf_take a u v)) (lf_cn_rf _) (fun _ _ => lf_cn_sy G') (fun _ _ _ => lf_cn_tr) (fun x y => (lf_br G e x y).trans (or_congr Iff.rfl Or.comm)) (fun z => c (lf_cn_sy G' z)) mB mA hB hA lB lA q⟩
  obtain ⟨m, hm, k1, k2, k3⟩ := key
  refine lf_ct_one (k := m) ((lf_ls_iff G' hm).mpr k1) ?_ 12 hm fun w hw hwm => ?_
  · cases q : lf_ls a m
    · rfl
    · exact absurd ((lf_ls_iff G hm).mp q) k2
  · refine Bool.eq_iff_iff.mpr ?_
    rw [lf_ls_iff G' hw, lf_ls_iff G hw]
    exact k3 w hwm
def lf_For (a : Nat → Int32) : Prop := ∀ x y, lf_Ed a x y → ¬ lf_Cn (lf_take a x y) x y
theorem lf_For_take {a : Nat → Int32} (G : lf_Gr a) {u v x y : Nat} (e : lf_Ed a u v) (k : lf_Ed (lf_take a u v) x y) (c : ¬ lf_Cn (lf_take a x y) x y) : ¬ lf_Cn (lf_take (lf_take a u v) x y) x y := by
  have hu := e.1
  have hv := lf_ed_lt G e
  have h := lf_ed_ne G e
  have G' := lf_take_g G hu hv h
  have k0 : lf_Ed a x y := ((lf_take_e hu hv h x y).mp k).1
  have hx := k0.1
  have hy := lf_ed_lt G k0
  have hxy := lf_ed_ne G k0
  refine fun z => c (lf_cn_mono (fun p q he => ?_) z)
  rw [lf_take_e hx hy hxy, lf_take_e hu hv h] at he
  rw [lf_take_e hx hy hxy]
  exact ⟨he.1.1, he.2⟩
theorem lf_forest : ∀ n : Nat, ∀ a : Nat → Int32, lf_Gr a → lf_S a ≤ n → lf_For a → lf_S a + 2 * lf_C a = 24 := by
  intro n
  induction n using Nat.strongRecOn with
  | ind n ih =>
    intro a G hn F
    by_cases k : ∃ u v, lf_Ed a u v
    · obtain ⟨u, v, e⟩ := k
      have hS := lf_take_S G e
      have hC := lf_C_br G e (F u v e)
      have := ih (n - 2) (by omega) (lf_take a u v) (lf_take_g G e.1 (lf_ed_lt G e) (lf_ed_ne G e)) (by omega)
        (fun x y z => lf_For_take G e z (F x y ((lf_take_e e.1 (lf_ed_lt G e) (lf_ed_ne G e) x y).mp z).1))
      omega
    · have hS : lf_S a = 0 := lf_sm_zero 12 fun i hi => (lf_ct_zero 12).mpr fun j _ => by
        cases q : bt (a i) j
        · rfl
        · exact absurd ⟨i, j, hi, q⟩ k
      have hC : lf_C a = 12 := lf_ct_all 12 fun w hw => (lf_ls_iff G hw).mpr fun j hj c => by
        have : j = w := c (fun z => z = w) rfl (fun x y _ he => absurd ⟨x, y, he⟩ k)
        omega
      omega
end
section
/-! ===== the walks of the private methods, each with a general post ===== -/
theorem lf_12 {i : Nat} (h : i < 12) : ¬ (12 : Int32) ≤ nI i := nI_ge (b := 12) h (by decide)
theorem lf_e12 : (12 : Int32) ≤ nI 12 := nI_le (a := 12) (b := 12) (by omega) (by omega)
theorem lf_cl {i : Nat} (h : i < 12) : (nI i).toNatClampNeg = i := nI_clamp (by omega)
theorem lf_v12 {i : Nat} (h : i < 12) : vp_in (nI i) 12 := vp_in_nI h (by omega)
def lf_Pt (x : Int32) : Prop := ∃ j : Nat, j < 12 ∧ x = nI j
theorem lf_isX_t {post : Int32 → Prop} {j : Nat} (hj : j < 12) (h : post 1) : wpX_isPoint post (nI j) :=
  br_f (nI_pos (by omega)) (br_f (lf_12 hj) h)
theorem lf_isX_f {post : Int32 → Prop} {x : Int32} (hx : ¬ lf_Pt x) (h : post 0) : wpX_isPoint post x := by
  by_cases h0 : x < 0
  · exact br_t h0 h
  · refine br_f h0 ?_
    obtain ⟨j, hj, rfl⟩ := nI_of h0
    have : ¬ j < 12 := fun z => hx ⟨j, z, rfl⟩
    exact br_t (nI_le (a := 12) (by omega) hj) h
theorem lf_isY_t {post : Int32 → Prop} {a kp : Nat → Int32} {j : Nat} (hj : j < 12) (h : post 1) : wpY_isPoint post (a, kp) (nI j) :=
  br_f (nI_pos (by omega)) (br_f (nI_nlt (a := 11) (b := j) (by omega) (by omega)) h)
theorem lf_isY_f {post : Int32 → Prop} {a kp : Nat → Int32} {x : Int32} (hx : ¬ lf_Pt x) (h : post 0) : wpY_isPoint post (a, kp) x := by
  by_cases h0 : x < 0
  · exact br_t h0 h
  · refine br_f h0 ?_
    obtain ⟨j, hj, rfl⟩ := nI_of h0
    have : ¬ j < 12 := fun z => hx ⟨j, z, rfl⟩
    exact br_t (nI_lt (a := 11) (by omega) hj) h
theorem lf_hX {post : Int32 → Prop} {s : Int32} {j : Nat} (hj : j < 12) (ht : bt s j = true → post 1) (hf : bt s j = false → post 0) : wpX_holds post s (nI j) := by
  unfold wpX_holds
  rw [lf_sh s (by omega)]
  cases q : bt s j
  · exact br_t rfl (hf q)
  · exact br_f (by decide) (ht q)
theorem lf_hY {post : Int32 → Prop} {a kp : Nat → Int32} {s : Int32} {j : Nat} (hj : j < 12) (ht : bt s j = true → post 1) (hf : bt s j = false → post 0) : wpY_in post (a, kp) s (nI j) := by
  unfold wpY_in
  dsimp only
  rw [lf_sh s (by omega)]
  cases q : bt s j
  · exact br_f (by decide) (hf q)
  · exact br_t rfl (ht q)
theorem lf_heX {post : Int32 → Prop} {a : Nat → Int32} {u v : Nat} (hu : u < 12) (hv : v < 12) (ht : bt (a u) v = true → post 1) (hf : bt (a u) v = false → post 0) : wpX_hasEdge post a (nI u) (nI v) := by
  unfold wpX_hasEdge
  rw [lf_cl hu]
  exact ⟨lf_v12 hu, lf_hX hv (fun q => ⟨rfl, ht q⟩) (fun q => ⟨rfl, hf q⟩)⟩
/-! sizes -/
theorem lf_szX {post : Int32 → Prop} (s : Int32) (h : post (nI (lf_ct (bt s) 12))) : wpX_sizeOf post s := by
  refine loop_0 (fun n i (t : Int32) => wX_sizeOf_4 post s n t (nI i)) (fun i t => t = nI (lf_ct (bt s) i)) 12 0 rfl ?_ ?_
  · rintro n t rfl
    exact br_t lf_e12 h
  · rintro n i t hi rfl hs
    refine br_f (lf_12 hi) (lf_hX hi (fun q => br_f (by decide) (nm_e ?_)) (fun q => br_t rfl ?_))
    · refine nm_r (nI_1 i) (hs _ ?_)
      rw [nI_1, lf_ct_t q]
    · refine nm_r (nI_1 i) (hs _ ?_)
      rw [lf_ct_f q]
theorem lf_szY {post : Int32 → Prop} (a kp : Nat → Int32) (s : Int32) (h : post (nI (lf_ct (bt s) 12))) : wpY_sizeOf post (a, kp) s := by
  refine loop_0 (fun n i (t : Int32) => wY_sizeOf_4 post s a kp n t (nI i)) (fun i t => t = nI (lf_ct (bt s) i)) 12 0 rfl ?_ ?_
  · rintro n t rfl
    exact br_t lf_e12 h
  · rintro n i t hi rfl hs
    refine br_f (lf_12 hi) (lf_hY hi (fun q => br_f (by decide) (nm_e ?_)) (fun q => br_t rfl ?_))
    · refine nm_r (nI_1 i) (hs _ ?_)
      rw [nI_1, lf_ct_t q]
    · refine nm_r (nI_1 i) (hs _ ?_)
      rw [lf_ct_f q]
theorem lf_half (a : Nat → Int32) : nI (lf_S a) / 2 = nI (lf_S a / 2) :=
  pk_div (d := 2) (by have := lf_S_le a; omega) (by omega) (by omega)
theorem lf_ceX {post : Int32 → Prop} (a : Nat → Int32) (h : post (nI (lf_S a / 2))) : wpX_countEdges post a := by
  refine loop_0 (fun n i (t : Int32) => wX_countEdges_4 post a n t (nI i)) (fun i t => t = nI (lf_sm (fun i => lf_ct (bt (a i)) 12) i)) 12 0 rfl ?_ ?_
  · rintro n t rfl
    refine br_t lf_e12 ⟨by decide, ?_⟩
    rw [← lf_half] at h
    exact h
  · rintro n i t hi rfl hs
    refine br_f (lf_12 hi) ⟨lf_v12 hi, ?_⟩
    rw [lf_cl hi]
    refine lf_szX _ (nm_e ?_)
    refine nm_r (nI_1 i) (hs _ ?_)
    rw [nI_add]; rfl
theorem lf_ceY {post : Int32 → Prop} (a kp : Nat → Int32) (h : post (nI (lf_S a / 2))) : wpY_edges post (a, kp) := by
  refine loop_0 (fun n i (t : Int32) => wY_edges_4 post a kp n t (nI i)) (fun i t => t = nI (lf_sm (fun i => lf_ct (bt (a i)) 12) i)) 12 0 rfl ?_ ?_
  · rintro n t rfl
    refine br_t lf_e12 ⟨by decide, ?_⟩
    rw [← lf_half] at h
    exact h
  · rintro n i t hi rfl hs
    refine br_f (lf_12 hi) ⟨lf_v12 hi, ?_⟩
    rw [lf_cl hi]
    refine lf_szY a kp _ (nm_e ?_)
    refine nm_r (nI_1 i) (hs _ ?_)
    rw [nI_add]; rfl
/-! what is reached -/
theorem lf_swX {post : Int32 → Prop} {J : Int32 → Int32 → Prop} {a : Nat → Int32} {r : Nat} (s : Int32) (h : J (lf_sw a s 12) (nI (r + 1))) : ∃ n, wX_reachable_15 post J (nI r) a n s 0 := by
  refine loop_0 (fun n i (t : Int32) => wX_reachable_15 post J (nI r) a n t (nI i)) (fun i t => t = lf_sw a s i) 12 s rfl ?_ ?_
  · rintro n t rfl
    exact br_t lf_e12 (nm_r (nI_1 r) h)
  · rintro n i t hi rfl hs
    refine br_f (lf_12 hi) (lf_hX hi (fun q => br_f (by decide) ⟨lf_v12 hi, ?_⟩) (fun q => br_t rfl ?_))
    · rw [lf_cl hi]
      exact nm_e (nm_r (nI_1 i) (hs _ (lf_sw_t q).symm))
    · exact nm_r (nI_1 i) (hs _ (lf_sw_f q).symm)
theorem lf_swY {post : Int32 → Prop} {J : Int32 → Int32 → Prop} {a kp : Nat → Int32} {r : Nat} (s : Int32) (h : J (lf_sw a s 12) (nI (r + 1))) : ∃ n, wY_walk_15 post J (nI r) a kp n s 0 := by
  refine loop_0 (fun n i (t : Int32) => wY_walk_15 post J (nI r) a kp n t (nI i)) (fun i t => t = lf_sw a s i) 12 s rfl ?_ ?_
  · rintro n t rfl
    exact br_t lf_e12 (nm_r (nI_1 r) h)
  · rintro n i t hi rfl hs
    refine br_f (lf_12 hi) (lf_hY hi (fun q => br_f (by decide) ⟨lf_v12 hi, ?_⟩) (fun q => br_t rfl ?_))
    · rw [lf_cl hi]
      exact nm_e (nm_r (nI_1 i) (hs _ (lf_sw_t q).symm))
    · exact nm_r (nI_1 i) (hs _ (lf_sw_f q).symm)
theorem lf_rcX {post : Int32 → Prop} {a : Nat → Int32} {u : Nat} (h : post (lf_rc a u)) : wpX_reachable post a (nI u) := by
  refine nm_e ?_
  refine loop_0 (fun n i (t : Int32) => wX_reachable_6 post a n t (nI (i + 1))) (fun i t => t = lf_it a (lf_bit u) i) 11 (lf_bit u) rfl ?_ ?_
  · rintro n t rfl
    exact br_t lf_e12 h
  · rintro n i t hi rfl hs
    exact br_f (lf_12 (by omega)) (lf_swX _ (hs _ rfl))
theorem lf_rcY {post : Int32 → Prop} {a kp : Nat → Int32} (G : lf_Gr a) {u : Nat} (hu : u < 12) (h : post (lf_rc a u)) : wpY_walk post (a, kp) (nI u) := by
  refine nm_e ?_
  refine loop_0 (fun n i (t : Int32) => wY_walk_6 post a kp n t (nI i)) (fun i t => t = lf_it a (lf_bit u) i) 12 (lf_bit u) rfl ?_ ?_
  · rintro n t rfl
    rw [← lf_rc12 G hu] at h
    exact br_t lf_e12 h
  · rintro n i t hi rfl hs
    exact br_f (lf_12 hi) (lf_swY _ (hs _ rfl))
theorem lf_jX {post : Int32 → Prop} {a : Nat → Int32} {u v : Nat} (hv : v < 12) (ht : bt (lf_rc a u) v = true → post 1) (hf : bt (lf_rc a u) v = false → post 0) : wpX_areJoined post a (nI u) (nI v) := by
  unfold wpX_areJoined
  exact lf_rcX (lf_hX hv (fun q => ⟨rfl, ht q⟩) (fun q => ⟨rfl, hf q⟩))
theorem lf_jY {post : Int32 → Prop} {a kp : Nat → Int32} (G : lf_Gr a) {u v : Nat} (hu : u < 12) (hv : v < 12) (ht : bt (lf_rc a u) v = true → post 1) (hf : bt (lf_rc a u) v = false → post 0) : wpY_connected post (a, kp) (nI u) (nI v) := by
  unfold wpY_connected
  dsimp only
  refine lf_isY_t hu (br_f (by decide) (lf_isY_t hv (br_f (by decide) ?_)))
  exact lf_rcY G hu (lf_hY hv (fun q => ⟨rfl, ht q⟩) (fun q => ⟨rfl, hf q⟩))
/-! edges put and taken -/
theorem lf_adX {post : SX → Prop} {a : Nat → Int32} {u v : Nat} (hu : u < 12) (hv : v < 12) (h : post (lf_put a u v)) : wpX_addEdge post a (nI u) (nI v) := by
  unfold wpX_addEdge
  rw [lf_cl hu, lf_cl hv]
  exact ⟨lf_v12 hu, lf_v12 hu, nm_e ⟨lf_v12 hv, lf_v12 hv, nm_e h⟩⟩
theorem lf_adY {post : SY → Prop} {a kp : Nat → Int32} {u v : Nat} (hu : u < 12) (hv : v < 12) (h : post (lf_put a u v, kp)) : wpY_put post (a, kp) (nI u) (nI v) := by
  unfold wpY_put
  dsimp only
  rw [lf_cl hu, lf_cl hv]
  exact ⟨lf_v12 hu, lf_v12 hu, nm_e ⟨lf_v12 hv, lf_v12 hv, nm_e h⟩⟩
theorem lf_rmX {post : SX → Prop} {a : Nat → Int32} {u v : Nat} (hu : u < 12) (hv : v < 12) (h : post (lf_take a u v)) : wpX_removeEdge post a (nI u) (nI v) := by
  unfold wpX_removeEdge
  rw [lf_cl hu, lf_cl hv]
  exact ⟨lf_v12 hu, lf_v12 hu, nm_e ⟨lf_v12 hv, lf_v12 hv, nm_e h⟩⟩
theorem lf_rmY {post : SY → Prop} {a kp : Nat → Int32} {u v : Nat} (hu : u < 12) (hv : v < 12) (h : post (lf_take a u v, kp)) : wpY_take post (a, kp) (nI u) (nI v) := by
  unfold wpY_take
  dsimp only
  rw [lf_cl hu, lf_cl hv]
  exact ⟨lf_v12 hu, lf_v12 hu, nm_e ⟨lf_v12 hv, lf_v12 hv, nm_e h⟩⟩
/-! the number of parts -/
theorem lf_cpX {post : Int32 → Prop} {a : Nat → Int32} (G : lf_Gr a) (h : post (nI (lf_C a))) : wpX_countParts post a := by
  refine loop_0 (fun n i (t : Int32 × Int32) => wX_countParts_6 post a n t.1 t.2 (nI i)) (fun i t => (∀ j, bt t.1 j = true ↔ ∃ w, w < i ∧ lf_Cn a w j) ∧ t.2 = nI (lf_ct (lf_ls a) i)) 12 (0, 0) ⟨fun j => ?_, rfl⟩ ?_ ?_
  · rw [b_0]
    exact ⟨fun z => (by cases z), fun ⟨w, z, _⟩ => (by omega)⟩
  · rintro n ⟨s, t⟩ ⟨_, ht⟩
    dsimp only at ht ⊢
    subst ht
    exact br_t lf_e12 h
  · rintro n i ⟨s, t⟩ hi ⟨hb, ht⟩ hs
    dsimp only at hb ht ⊢
    subst ht
    refine br_f (lf_12 hi) (lf_hX hi (fun q => br_f (by decide) ?_) (fun q => br_t rfl (lf_rcX (nm_e ?_))))
    · obtain ⟨w, hw, c⟩ := (hb i).mp q
      refine nm_r (nI_1 i) (hs (s, nI (lf_ct (lf_ls a) i)) ⟨fun j => ?_, ?_⟩)
      · rw [hb j]
        constructor
        · rintro ⟨x, hx, k⟩
          exact ⟨x, by omega, k⟩
        · rintro ⟨x, hx, k⟩
          by_cases e : x = i
          · subst e
            exact ⟨w, hw, lf_cn_tr c k⟩
          · exact ⟨x, by omega, k⟩
      · have : lf_ls a i = false := by
          cases z : lf_ls a i
          · rfl
          · exact absurd (lf_cn_sy G c) ((lf_ls_iff G hi).mp z w hw)
        rw [lf_ct_f this]
    · rw [nI_1]
      refine nm_e (nm_r (nI_1 i) (hs (s ||| lf_rc a i, nI (lf_ct (lf_ls a) i + 1)) ⟨fun j => ?_, ?_⟩))
      · show bt (s ||| lf_rc a i) j = true ↔ _
        rw [b_or, Bool.or_eq_true, hb j, lf_rc_iff G hi]
        constructor
        · rintro (⟨x, hx, k⟩ | k)
          · exact ⟨x, by omega, k⟩
          · exact ⟨i, by omega, k⟩
        · rintro ⟨x, hx, k⟩
          by_cases e : x = i
          · subst e
            exact Or.inr k
          · exact Or.inl ⟨x, by omega, k⟩
      · have : lf_ls a i = true := (lf_ls_iff G hi).mpr fun j hj c => by
          rw [(hb i).mpr ⟨j, hj, lf_cn_sy G c⟩] at q
          cases q
        rw [lf_ct_t this]
theorem lf_lowz (s : Int32) {u : Nat} (hu : u < 12) : s &&& (lf_bit u - 1) = 0 ↔ lf_ct (bt s) u = 0 := by
  rw [lf_ct_zero]
  constructor
  · intro h i hi
    have : bt (s &&& (lf_bit u - 1)) i = bt 0 i := by rw [h]
    rw [b_and, lf_low u hu i (by omega), b_0, decide_eq_true hi, Bool.and_true] at this
    exact this
  · intro h
    refine b_ext fun i hi => ?_
    rw [b_and, lf_low u hu i hi, b_0]
    by_cases e : i < u
    · rw [h i e]; rfl
    · rw [decide_eq_false e, Bool.and_false]
theorem lf_cpY {post : Int32 → Prop} {a kp : Nat → Int32} (G : lf_Gr a) (h : post (nI (lf_C a))) : wpY_parts post (a, kp) := by
  refine loop_0 (fun n i (t : Int32) => wY_parts_4 post a kp n t (nI i)) (fun i t => t = nI (lf_ct (lf_ls a) i)) 12 0 rfl ?_ ?_
  · rintro n t rfl
    exact br_t lf_e12 h
  · rintro n i t hi rfl hs
    refine br_f (lf_12 hi) (lf_rcY G hi ?_)
    cases z : lf_ls a i
    · have : ¬ (lf_rc a i) &&& (lf_bit i - 1) = 0 := fun k => by
        have y : lf_ls a i = true := decide_eq_true ((lf_lowz _ hi).mp k)
        rw [z] at y; cases y
      refine br_f this (nm_r (nI_1 i) (hs _ ?_))
      rw [lf_ct_f z]
    · have : (lf_rc a i) &&& (lf_bit i - 1) = 0 := (lf_lowz _ hi).mpr (of_decide_eq_true z)
      refine br_t this (nm_e (nm_r (nI_1 i) (hs _ ?_)))
      rw [nI_1, lf_ct_t z]
end
section
/-! ===== the reference's spare ===== -/
theorem lf_ieY {post : Int32 → Prop} {a kp : Nat → Int32} {u v : Nat} (hu : u < 12) (hv : v < 12) (ht : lf_Ed a u v → post 1) (hf : ¬ lf_Ed a u v → post 0) : wpY_isEdge post (a, kp) (nI u) (nI v) := by
  unfold wpY_isEdge
  dsimp only
  refine lf_isY_t hu (br_f (by decide) (lf_isY_t hv (br_f (by decide) ⟨lf_v12 hu, ?_⟩)))
  rw [lf_cl hu]
  refine lf_hY hv (fun q => br_f (by decide) (ht ⟨hu, q⟩)) (fun q => br_t rfl (hf fun z => ?_))
  rw [z.2] at q; cases q
theorem lf_ibY {post : Int32 → SY → Prop} {a kp : Nat → Int32} (G : lf_Gr a) {u v : Nat} (hu : u < 12) (hv : v < 12) (h0 : ¬ lf_Ed a u v → post 0 (a, kp)) (h1 : lf_Ed a u v → ¬ lf_Cn (lf_take a u v) u v → post 1 (a, kp)) (h2 : lf_Ed a u v → lf_Cn (lf_take a u v) u v → post 0 (a, kp)) : wpY_isBridge post (a, kp) (nI u) (nI v) := by
  unfold wpY_isBridge
  dsimp only
  refine lf_ieY hu hv (fun e => br_f (by decide) (lf_rmY hu hv ?_)) (fun e => br_t rfl (h0 e))
  dsimp only
  have G' := lf_take_g G hu hv (lf_ed_ne G e)
  refine lf_jY G' hu hv (fun q => br_f (by decide) ?_) (fun q => br_t rfl ?_)
  · unfold wY_isBridge_31
    refine lf_adY hu hv ⟨rfl, ?_⟩
    rw [lf_put_take G e]
    exact h2 e ((lf_rc_iff G' hu v).mp q)
  · unfold wY_isBridge_31
    refine lf_adY hu hv ⟨rfl, ?_⟩
    rw [lf_put_take G e]
    refine h1 e fun z => ?_
    rw [(lf_rc_iff G' hu v).mpr z] at q; cases q
theorem lf_d12 {e : Nat} (h : e < 144) : nI e / 12 = nI (e / 12) := pk_div (d := 12) (by omega) (by omega) (by omega)
theorem lf_r12 {e : Nat} (h : e < 144) : nI e - nI e / 12 * 12 = nI (e % 12) := pk_rem (d := 12) (by omega) (by omega) (by omega)
/-- the loop's state at pair e: b is what is left of a, n edges were taken -/
def lf_Inv (a b : Nat → Int32) (n e : Nat) : Prop :=
  lf_Gr b ∧ lf_S a = lf_S b + 2 * n ∧ (∀ x y, lf_Cn a x y ↔ lf_Cn b x y) ∧ (∀ i, 12 ≤ i → b i = a i) ∧ (∀ x y, x * 12 + y < e → y < 12 → lf_Ed b x y → ¬ lf_Cn (lf_take b x y) x y)
theorem lf_inv_skip {a b : Nat → Int32} {n e : Nat} (I : lf_Inv a b n e) (h : lf_Ed b (e / 12) (e % 12) → ¬ lf_Cn (lf_take b (e / 12) (e % 12)) (e / 12) (e % 12)) : lf_Inv a b n (e + 1) := by
  obtain ⟨h1, h2, h3, h4, h5⟩ := I
  refine ⟨h1, h2, h3, h4, fun x y hxy hy k => ?_⟩
  by_cases q : x * 12 + y < e
  · exact h5 x y q hy k
  · have e1 : e / 12 = x := by omega
    have e2 : e % 12 = y := by omega
    rw [e1, e2] at h
    exact h k
theorem lf_inv_take {a b : Nat → Int32} {n e : Nat} (I : lf_Inv a b n e) (k : lf_Ed b (e / 12) (e % 12)) (c : lf_Cn (lf_take b (e / 12) (e % 12)) (e / 12) (e % 12)) : lf_Inv a (lf_take b (e / 12) (e % 12)) (n + 1) (e + 1) := by
  obtain ⟨h1, h2, h3, h4, h5⟩ := I
  have hu := k.1
  have hv := lf_ed_lt h1 k
  have hn := lf_ed_ne h1 k
  have hS := lf_take_S h1 k
  refine ⟨lf_take_g h1 hu hv hn, by omega, fun x y => (h3 x y).trans (lf_nbr h1 k c x y), fun i hi => ?_, fun x y hxy hy z => ?_⟩
  · rw [lf_take_o (by omega) (by omega)]
    exact h4 i hi
  · have z' := (lf_take_e hu hv hn x y).mp z
    by_cases q : x * 12 + y < e
    · exact lf_For_take h1 k z (h5 x y q hy z'.1)
    · have e1 : e / 12 = x := by omega
      have e2 : e % 12 = y := by omega
      exact absurd ⟨e1.symm, e2.symm⟩ z'.2.1
theorem lf_inv_end {a b : Nat → Int32} {n : Nat} (G : lf_Gr a) (I : lf_Inv a b n 144) : lf_S a / 2 + lf_C a = 12 + n := by
  obtain ⟨h1, h2, h3, h4, h5⟩ := I
  have F : lf_For b := fun x y k => h5 x y (by have := k.1; have := lf_ed_lt h1 k; omega) (lf_ed_lt h1 k) k
  have := lf_forest (lf_S b) b h1 (Nat.le_refl _) F
  have := lf_C_eq G h1 h3
  omega
theorem lf_spY90 {post : Int32 → SY → Prop} {a kp : Nat → Int32} {t : Int32} (b : Nat → Int32) (hb : ∀ i, 12 ≤ i → b i = a i) (hk : ∀ i, i < 12 → kp i = a i) (h : post t (a, kp)) : ∃ n, wY_spare_90 post t n 0 b kp := by
  refine loop_0 (fun n i (c : Nat → Int32) => wY_spare_90 post t n (nI i) c kp) (fun i c => (∀ j, j < i → c j = a j) ∧ (∀ j, 12 ≤ j → c j = a j)) 12 b ⟨fun j hj => by omega, hb⟩ ?_ ?_
  · rintro n c ⟨h1, h2⟩
    have : c = a := funext fun j => by
      rcases Nat.lt_or_ge j 12 with q | q
      · exact h1 j q
      · exact h2 j q
    subst this
    exact br_t lf_e12 h
  · rintro n i c hi ⟨h1, h2⟩ hs
    refine br_f (lf_12 hi) ⟨lf_v12 hi, lf_v12 hi, ?_⟩
    rw [lf_cl hi]
    refine nm_e (nm_r (nI_1 i) (hs _ ⟨fun j hj => ?_, fun j hj => ?_⟩))
    · by_cases e : j = i
      · rw [e, pk_us]; exact hk i hi
      · rw [pk_un e]; exact h1 j (by omega)
    · rw [pk_un (by omega)]; exact h2 j hj
theorem lf_spY30 {post : Int32 → SY → Prop} {a kp : Nat → Int32} (G : lf_Gr a) (hk : ∀ i, i < 12 → kp i = a i) (h : ∀ m, lf_S a / 2 + lf_C a = 12 + m → post (nI m) (a, kp)) : ∃ n, wY_spare_30 post n 0 0 a kp := by
  refine loop_0 (fun n i (t : Int32 × (Nat → Int32)) => wY_spare_30 post n t.1 (nI i) t.2 kp) (fun i t => ∃ m, t.1 = nI m ∧ lf_Inv a t.2 m i) 144 (0, a) ⟨0, rfl, G, rfl, fun _ _ => Iff.rfl, fun _ _ => rfl, fun x y z => by omega⟩ ?_ ?_
  · rintro n ⟨t, b⟩ ⟨m, hm, I⟩
    dsimp only at hm I ⊢
    subst hm
    exact br_t (nI_le (a := 144) (b := 144) (by omega) (by omega)) (lf_spY90 b I.2.2.2.1 hk (h m (lf_inv_end G I)))
  · rintro n i ⟨t, b⟩ hi ⟨m, hm, I⟩ hs
    dsimp only at hm I ⊢
    subst hm
    have hu : i / 12 < 12 := by omega
    have hv : i % 12 < 12 := by omega
    refine br_f (nI_ge (b := 144) hi (by decide)) ⟨by decide, by decide, ?_⟩
    rw [lf_r12 hi, lf_d12 hi]
    refine lf_ieY hu hv (fun k => br_f (by decide) ⟨by decide, by decide, ?_⟩) (fun k => br_t rfl (nm_r (nI_1 i) (hs (nI m, b) ⟨m, rfl, lf_inv_skip I fun z => absurd z k⟩)))
    refine lf_ibY I.1 hu hv (fun z => absurd k z) (fun _ c => ?_) (fun _ c => ?_)
    · dsimp only
      exact br_f (by decide) (nm_r (nI_1 i) (hs (nI m, b) ⟨m, rfl, lf_inv_skip I fun _ => c⟩))
    · dsimp only
      refine br_t rfl ⟨by decide, by decide, ?_⟩
      refine lf_rmY hu hv ?_
      dsimp only
      exact nm_r (nI_1 m) (nm_r (nI_1 i) (hs (nI (m + 1), lf_take b (i / 12) (i % 12)) ⟨m + 1, rfl, lf_inv_take I k c⟩))
theorem lf_spY {post : Int32 → SY → Prop} {a kp : Nat → Int32} (G : lf_Gr a) (h : ∀ m kp', lf_S a / 2 + lf_C a = 12 + m → post (nI m) (a, kp')) : wpY_spare post (a, kp) := by
  refine loop_0 (fun n i (c : Nat → Int32) => wY_spare_4 post 0 n (nI i) a c) (fun i c => ∀ j, j < i → c j = a j) 12 kp (fun j hj => by omega) ?_ ?_
  · rintro n c hc
    exact br_t lf_e12 (lf_spY30 G hc (fun m hm => h m c hm))
  · rintro n i c hi hc hs
    refine br_f (lf_12 hi) ⟨lf_v12 hi, lf_v12 hi, ?_⟩
    rw [lf_cl hi]
    refine nm_e (nm_r (nI_1 i) (hs _ fun j hj => ?_))
    by_cases e : j = i
    · rw [e, pk_us]
    · rw [pk_un e]; exact hc j (by omega)
end
section
/-! ===== the public methods, each side against the pure picture ===== -/
theorem lf_tf {b : Bool} {p : Prop} (h : b = true) (h' : b = false) : p := by rw [h] at h'; cases h'
def lf_Pr (x y : Int32) : Prop := ∃ u v : Nat, u < 12 ∧ v < 12 ∧ u ≠ v ∧ x = nI u ∧ y = nI v
theorem lf_nne {u v : Nat} (hu : u < 12) (hv : v < 12) (h : u ≠ v) : ¬ nI u = nI v := fun z => h ((nI_eq (by omega) (by omega)).mp z)
theorem lf_cbX_t {post : Int32 → Prop} {u v : Nat} (hu : u < 12) (hv : v < 12) (h : u ≠ v) (p : post 1) : wpX_canBeEdge post (nI u) (nI v) := by
  unfold wpX_canBeEdge
  exact lf_isX_t hu (br_f (by decide) (lf_isX_t hv (br_f (by decide) (br_f (lf_nne hu hv h) p))))
theorem lf_cbX_f {post : Int32 → Prop} {x y : Int32} (h : ¬ lf_Pr x y) (p : post 0) : wpX_canBeEdge post x y := by
  unfold wpX_canBeEdge
  by_cases hu : lf_Pt x
  · obtain ⟨u, hu, rfl⟩ := hu
    refine lf_isX_t hu (br_f (by decide) ?_)
    by_cases hv : lf_Pt y
    · obtain ⟨v, hv, rfl⟩ := hv
      exact lf_isX_t hv (br_f (by decide) (br_t (Classical.byContradiction fun z => h ⟨u, v, hu, hv, fun e => z (by rw [e]), rfl, rfl⟩) p))
    · exact lf_isX_f hv (br_t rfl p)
  · exact lf_isX_f hu (br_t rfl p)
theorem lf_cbY_t {p Q : Prop} {a kp : Nat → Int32} {u v : Nat} (hu : u < 12) (hv : v < 12) (h : u ≠ v) (q : Q) : wpY_isPoint (fun r_1 => (((r_1 = 0 → p) ∧ (¬ r_1 = 0 → (wpY_isPoint (fun r_5 => (((r_5 = 0 → p) ∧ (¬ r_5 = 0 → (((nI u = nI v → p) ∧ (¬ nI u = nI v → Q))))))) (a, kp) (nI v)))))) (a, kp) (nI u) :=
  lf_isY_t hu (br_f (by decide) (lf_isY_t hv (br_f (by decide) (br_f (lf_nne hu hv h) q))))
theorem lf_cbY_f {p Q : Prop} {a kp : Nat → Int32} {x y : Int32} (h : ¬ lf_Pr x y) (hp : p) : wpY_isPoint (fun r_1 => (((r_1 = 0 → p) ∧ (¬ r_1 = 0 → (wpY_isPoint (fun r_5 => (((r_5 = 0 → p) ∧ (¬ r_5 = 0 → (((x = y → p) ∧ (¬ x = y → Q))))))) (a, kp) y))))) (a, kp) x := by
  by_cases hu : lf_Pt x
  · obtain ⟨u, hu, rfl⟩ := hu
    refine lf_isY_t hu (br_f (by decide) ?_)
    by_cases hv : lf_Pt y
    · obtain ⟨v, hv, rfl⟩ := hv
      exact lf_isY_t hv (br_f (by decide) (br_t (Classical.byContradiction fun z => h ⟨u, v, hu, hv, fun e => z (by rw [e]), rfl, rfl⟩) hp))
    · exact lf_isY_f hv (br_t rfl hp)
  · exact lf_isY_f hu (br_t rfl hp)
/-! link -/
theorem lf_lkX {post : Int32 → SX → Prop} {a : Nat → Int32} {x y : Nat} (hx : x < 12) (hy : y < 12) (hn : x ≠ y) (hS : lf_S a / 2 ≤ 30) (h0 : bt (a x) y = true → post 0 a) (h1 : bt (a x) y = false → lf_S a / 2 = 30 → post (-2) a) (h2 : bt (a x) y = false → lf_S a / 2 ≠ 30 → bt (lf_rc a x) y = true → post 1 (lf_put a x y)) (h3 : bt (a x) y = false → lf_S a / 2 ≠ 30 → bt (lf_rc a x) y = false → post 2 (lf_put a x y)) : wpX_link post a (nI x) (nI y) := by
  unfold wpX_link
  refine lf_cbX_t hx hy hn (br_f (by decide) (lf_heX hx hy (fun q => br_f (by decide) (h0 q)) (fun q => br_t rfl (lf_ceX a ?_))))
  refine pk_lt (lf_S a / 2) 30 (fun hl => ?_) (fun hl => h1 q (by omega))
  exact lf_jX hy (fun c => lf_adX hx hy (br_f (by decide) (h2 q (by omega) c))) (fun c => lf_adX hx hy (br_t rfl (h3 q (by omega) c)))
theorem lf_lkY {post : Int32 → SY → Prop} {a kp : Nat → Int32} (G : lf_Gr a) {x y : Nat} (hx : x < 12) (hy : y < 12) (hn : x ≠ y) (hS : lf_S a / 2 ≤ 30) (h0 : bt (a x) y = true → post 0 (a, kp)) (h1 : bt (a x) y = false → lf_S a / 2 = 30 → post (-2) (a, kp)) (h2 : bt (a x) y = false → lf_S a / 2 ≠ 30 → bt (lf_rc a x) y = true → post 1 (lf_put a x y, kp)) (h3 : bt (a x) y = false → lf_S a / 2 ≠ 30 → bt (lf_rc a x) y = false → post 2 (lf_put a x y, kp)) : wpY_link post (a, kp) (nI x) (nI y) := by
  unfold wpY_link
  dsimp only
  refine lf_cbY_t hx hy hn ⟨lf_v12 hx, ?_⟩
  rw [lf_cl hx]
  refine lf_hY hy (fun q => br_f (by decide) (h0 q)) (fun q => br_t rfl (lf_ceY a kp ?_))
  refine pk_eq (lf_S a / 2) 30 (fun hl => h1 q hl) (fun hl => ?_)
  exact lf_jY G hx hy (fun c => lf_adY hx hy (br_f (by decide) (h2 q hl c))) (fun c => lf_adY hx hy (br_t rfl (h3 q hl c)))
/-! cut -/
theorem lf_cuX {post : Int32 → SX → Prop} {a : Nat → Int32} {x y : Nat} (hx : x < 12) (hy : y < 12) (hn : x ≠ y) (h0 : bt (a x) y = false → post 0 a) (h1 : bt (a x) y = true → bt (lf_rc (lf_take a x y) x) y = true → post 1 (lf_take a x y)) (h2 : bt (a x) y = true → bt (lf_rc (lf_take a x y) x) y = false → post 2 (lf_take a x y)) : wpX_cut post a (nI x) (nI y) := by
  unfold wpX_cut
  refine lf_cbX_t hx hy hn (br_f (by decide) (lf_heX hx hy (fun q => br_f (by decide) ?_) (fun q => br_t rfl (h0 q))))
  exact lf_rmX hx hy (lf_jX hy (fun c => br_f (by decide) (h1 q c)) (fun c => br_t rfl (h2 q c)))
theorem lf_cuY {post : Int32 → SY → Prop} {a kp : Nat → Int32} (G : lf_Gr a) {x y : Nat} (hx : x < 12) (hy : y < 12) (hn : x ≠ y) (h0 : bt (a x) y = false → post 0 (a, kp)) (h1 : bt (a x) y = true → bt (lf_rc (lf_take a x y) x) y = true → post 1 (lf_take a x y, kp)) (h2 : bt (a x) y = true → bt (lf_rc (lf_take a x y) x) y = false → post 2 (lf_take a x y, kp)) : wpY_cut post (a, kp) (nI x) (nI y) := by
  unfold wpY_cut
  dsimp only
  refine lf_cbY_t hx hy hn ⟨lf_v12 hx, ?_⟩
  rw [lf_cl hx]
  refine lf_hY hy (fun q => br_f (by decide) (lf_rmY hx hy ?_)) (fun q => br_t rfl (h0 q))
  exact lf_jY (lf_take_g G hx hy hn) hx hy (fun c => br_f (by decide) (h1 q c)) (fun c => br_t rfl (h2 q c))
/-! isBridge -/
theorem lf_ibX {post : Int32 → SX → Prop} {a : Nat → Int32} (G : lf_Gr a) {u v : Nat} (hu : u < 12) (hv : v < 12) (hn : u ≠ v) (h0 : ¬ lf_Ed a u v → post 0 a) (h1 : lf_Ed a u v → ¬ lf_Cn (lf_take a u v) u v → post 1 a) (h2 : lf_Ed a u v → lf_Cn (lf_take a u v) u v → post 0 a) : wpX_isBridge post a (nI u) (nI v) := by
  unfold wpX_isBridge
  have G' := lf_take_g G hu hv hn
  refine lf_cbX_t hu hv hn (br_f (by decide) (lf_heX hu hv (fun q => br_f (by decide) (lf_rmX hu hv ?_)) (fun q => br_t rfl (h0 fun z => lf_tf z.2 q))))
  refine lf_jX hv (fun c => lf_adX hu hv (br_f (by decide) ?_)) (fun c => lf_adX hu hv (br_t rfl ?_))
  · rw [lf_put_take G ⟨hu, q⟩]
    exact h2 ⟨hu, q⟩ ((lf_rc_iff G' hu v).mp c)
  · rw [lf_put_take G ⟨hu, q⟩]
    exact h1 ⟨hu, q⟩ fun z => lf_tf ((lf_rc_iff G' hu v).mpr z) c
/-! isolate -/
def lf_iso (a : Nat → Int32) (u : Nat) : Nat → Nat → Int32
  | 0 => a
  | n + 1 => if bt (lf_iso a u n u) n = true then lf_take (lf_iso a u n) u n else lf_iso a u n
theorem lf_iso_t {a : Nat → Int32} {u n : Nat} (h : bt (lf_iso a u n u) n = true) : lf_iso a u (n + 1) = lf_take (lf_iso a u n) u n := if_pos h
theorem lf_iso_f {a : Nat → Int32} {u n : Nat} (h : bt (lf_iso a u n u) n = false) : lf_iso a u (n + 1) = lf_iso a u n := if_neg (by rw [h]; decide)
theorem lf_iso_g {a : Nat → Int32} (G : lf_Gr a) {u : Nat} (hu : u < 12) : ∀ n, n ≤ 12 → lf_Gr (lf_iso a u n) ∧ lf_S (lf_iso a u n) ≤ lf_S a := by
  intro n
  induction n with
  | zero => intro _; exact ⟨G, Nat.le_refl _⟩
  | succ n ih =>
    intro hn
    obtain ⟨g, hS⟩ := ih (by omega)
    cases q : bt (lf_iso a u n u) n
    · rw [lf_iso_f q]; exact ⟨g, hS⟩
    · rw [lf_iso_t q]
      have e : lf_Ed (lf_iso a u n) u n := ⟨hu, q⟩
      have := lf_take_S g e
      exact ⟨lf_take_g g hu (by omega) (lf_ed_ne g e), by omega⟩
theorem lf_isoX {post : Int32 → SX → Prop} {a : Nat → Int32} (G : lf_Gr a) {u : Nat} (hu : u < 12) (h : post (nI (lf_C (lf_iso a u 12)) - nI (lf_C a)) (lf_iso a u 12)) : wpX_isolate post a (nI u) := by
  unfold wpX_isolate
  refine lf_isX_t hu (br_f (by decide) (lf_cpX G ?_))
  refine loop_0 (fun n i (b : Nat → Int32) => wX_isolate_16 post (nI u) (nI (lf_C a)) n (nI i) b) (fun i b => b = lf_iso a u i) 12 a rfl ?_ ?_
  · rintro n b rfl
    exact br_t lf_e12 (lf_cpX (lf_iso_g G hu 12 (by omega)).1 h)
  · rintro n i b hi rfl hs
    refine br_f (lf_12 hi) (lf_heX hu hi (fun q => br_f (by decide) (lf_rmX hu hi ?_)) (fun q => br_t rfl ?_))
    · exact nm_r (nI_1 i) (hs _ (lf_iso_t q).symm)
    · exact nm_r (nI_1 i) (hs _ (lf_iso_f q).symm)
theorem lf_isoY {post : Int32 → SY → Prop} {a kp : Nat → Int32} (G : lf_Gr a) {u : Nat} (hu : u < 12) (h : post (nI (lf_C (lf_iso a u 12)) - nI (lf_C a)) (lf_iso a u 12, kp)) : wpY_isolate post (a, kp) (nI u) := by
  unfold wpY_isolate
  dsimp only
  refine lf_isY_t hu (br_f (by decide) (lf_cpY G ?_))
  refine loop_0 (fun n i (b : Nat → Int32) => wY_isolate_17 post (nI u) (nI (lf_C a)) n (nI i) b kp) (fun i b => b = lf_iso a u i) 12 a rfl ?_ ?_
  · rintro n b rfl
    exact br_t lf_e12 (lf_cpY (lf_iso_g G hu 12 (by omega)).1 h)
  · rintro n i b hi rfl hs
    refine br_f (lf_12 hi) ⟨lf_v12 hu, ?_⟩
    rw [lf_cl hu]
    refine lf_hY hi (fun q => br_f (by decide) (lf_rmY hu hi ?_)) (fun q => br_t rfl ?_)
    · exact nm_r (nI_1 i) (hs _ (lf_iso_t q).symm)
    · exact nm_r (nI_1 i) (hs _ (lf_iso_f q).symm)
/-! greatest -/
def lf_gt (a : Nat → Int32) : Nat → Int32
  | 0 => 0
  | n + 1 => if nI (lf_ct (bt (lf_rc a n)) 12) ≤ lf_gt a n then lf_gt a n else nI (lf_ct (bt (lf_rc a n)) 12)
theorem lf_gtX {post : Int32 → Prop} {a : Nat → Int32} (h : post (lf_gt a 12)) : wpX_greatest post a := by
  refine loop_0 (fun n i (t : Int32) => wX_greatest_4 post a n t (nI i)) (fun i t => t = lf_gt a i) 12 0 rfl ?_ ?_
  · intro n t ht
    refine br_t lf_e12 ?_
    rw [ht]
    exact h
  · rintro n i t hi rfl hs
    refine br_f (lf_12 hi) (lf_rcX (lf_szX _ ?_))
    by_cases e : nI (lf_ct (bt (lf_rc a i)) 12) ≤ lf_gt a i
    · exact br_t e (nm_r (nI_1 i) (hs _ (if_pos e).symm))
    · exact br_f e (nm_r (nI_1 i) (hs _ (if_neg e).symm))
theorem lf_gtY {post : Int32 → Prop} {a kp : Nat → Int32} (G : lf_Gr a) (h : post (lf_gt a 12)) : wpY_greatest post (a, kp) := by
  refine loop_0 (fun n i (t : Int32) => wY_greatest_4 post a kp n t (nI i)) (fun i t => t = lf_gt a i) 12 0 rfl ?_ ?_
  · intro n t ht
    refine br_t lf_e12 ?_
    rw [ht]
    exact h
  · rintro n i t hi rfl hs
    refine br_f (lf_12 hi) (lf_rcY G hi (lf_szY a kp _ ?_))
    by_cases e : nI (lf_ct (bt (lf_rc a i)) 12) ≤ lf_gt a i
    · exact br_t e (nm_r (nI_1 i) (hs _ (if_pos e).symm))
    · exact br_f e (nm_r (nI_1 i) (hs _ (if_neg e).symm))
end
section
/-- the class's sets of neighbours are the reference's; they are a graph on 12 points, of at most 30 edges -/
def i_Rel (k : Nat) (u : SX) (v : SY) : Prop := ∃ kp : Nat → Int32, v = (u, kp) ∧ lf_Gr u ∧ lf_S u / 2 ≤ 30
theorem lf_mk {k : Nat} {a kp : Nat → Int32} (G : lf_Gr a) (h : lf_S a / 2 ≤ 30) : i_Rel k a (a, kp) := ⟨kp, rfl, G, h⟩
theorem i_up {k : Nat} {u : SX} {v : SY} (h : i_Rel k u v) : i_Rel (k + 3) u v := h
theorem i_vc0 : wpX_init (fun u => wpY_init (fun v => i_Rel 0 u v)) := by
  refine lf_mk (k := 0) (fun x y e => lf_tf e.2 (b_0 y)) ?_
  have : lf_S (fun _ => 0) = 0 := lf_sm_zero 12 fun i _ => (lf_ct_zero 12).mpr fun j _ => b_0 j
  rw [this]
  omega
theorem i_vc_link {k : Nat} {u : SX} {v : SY} (I : i_Rel k u v) (hk : k + 3 ≤ 1536) (v1 : Int32) (v2 : Int32) : wpX_link (fun r u' => wpY_link (fun r' v' => r' = r ∧ i_Rel (k + 3) u' v') v v1 v2) u v1 v2 := by
  obtain ⟨kp, rfl, G, hS⟩ := I
  by_cases h : lf_Pr v1 v2
  · obtain ⟨x, y, hx, hy, hn, rfl, rfl⟩ := h
    have hP : bt (u x) y = false → lf_S u / 2 ≠ 30 → lf_S (lf_put u x y) / 2 ≤ 30 := fun q z => by
      rw [lf_put_S G hx hy hn q]; omega
    refine lf_lkX hx hy hn hS (fun q => ?_) (fun q z => ?_) (fun q z c => ?_) (fun q z c => ?_)
    · exact lf_lkY G hx hy hn hS (fun _ => ⟨rfl, lf_mk G hS⟩) (fun q' => lf_tf q q') (fun q' => lf_tf q q') (fun q' => lf_tf q q')
    · exact lf_lkY G hx hy hn hS (fun q' => lf_tf q' q) (fun _ _ => ⟨rfl, lf_mk G hS⟩) (fun _ z' => absurd z z') (fun _ z' => absurd z z')
    · exact lf_lkY G hx hy hn hS (fun q' => lf_tf q' q) (fun _ z' => absurd z' z) (fun _ _ _ => ⟨rfl, lf_mk (lf_put_g G hx hy hn) (hP q z)⟩) (fun _ _ c' => lf_tf c c')
    · exact lf_lkY G hx hy hn hS (fun q' => lf_tf q' q) (fun _ z' => absurd z' z) (fun _ _ c' => lf_tf c' c) (fun _ _ _ => ⟨rfl, lf_mk (lf_put_g G hx hy hn) (hP q z)⟩)
  · unfold wpX_link
    refine lf_cbX_f h (br_t rfl ?_)
    unfold wpY_link
    dsimp only
    exact lf_cbY_f h ⟨rfl, lf_mk G hS⟩
theorem i_vc_cut {k : Nat} {u : SX} {v : SY} (I : i_Rel k u v) (hk : k + 3 ≤ 1536) (v1 : Int32) (v2 : Int32) : wpX_cut (fun r u' => wpY_cut (fun r' v' => r' = r ∧ i_Rel (k + 3) u' v') v v1 v2) u v1 v2 := by
  obtain ⟨kp, rfl, G, hS⟩ := I
  by_cases h : lf_Pr v1 v2
  · obtain ⟨x, y, hx, hy, hn, rfl, rfl⟩ := h
    have hT : bt (u x) y = true → lf_S (lf_take u x y) / 2 ≤ 30 := fun q => by
      have := lf_take_S G ⟨hx, q⟩
      omega
    refine lf_cuX hx hy hn (fun q => ?_) (fun q c => ?_) (fun q c => ?_)
    · exact lf_cuY G hx hy hn (fun _ => ⟨rfl, lf_mk G hS⟩) (fun q' => lf_tf q' q) (fun q' => lf_tf q' q)
    · exact lf_cuY G hx hy hn (fun q' => lf_tf q q') (fun _ _ => ⟨rfl, lf_mk (lf_take_g G hx hy hn) (hT q)⟩) (fun _ c' => lf_tf c c')
    · exact lf_cuY G hx hy hn (fun q' => lf_tf q q') (fun _ c' => lf_tf c' c) (fun _ _ => ⟨rfl, lf_mk (lf_take_g G hx hy hn) (hT q)⟩)
  · unfold wpX_cut
    refine lf_cbX_f h (br_t rfl ?_)
    unfold wpY_cut
    dsimp only
    exact lf_cbY_f h ⟨rfl, lf_mk G hS⟩
theorem i_vc_connected {k : Nat} {u : SX} {v : SY} (I : i_Rel k u v) (hk : k + 3 ≤ 1536) (v1 : Int32) (v2 : Int32) : wpX_connected (fun r => wpY_connected (fun r' => r' = r ∧ i_Rel (k + 3) u v) v v1 v2) u v1 v2 := by
  obtain ⟨kp, rfl, G, hS⟩ := I
  unfold wpX_connected
  by_cases h1 : lf_Pt v1
  · obtain ⟨x, hx, rfl⟩ := h1
    refine lf_isX_t hx (br_f (by decide) ?_)
    by_cases h2 : lf_Pt v2
    · obtain ⟨y, hy, rfl⟩ := h2
      refine lf_isX_t hy (br_f (by decide) (lf_jX hy (fun c => br_f (by decide) ?_) (fun c => br_t rfl ?_)))
      · exact lf_jY G hx hy (fun _ => ⟨rfl, lf_mk G hS⟩) (fun c' => lf_tf c c')
      · exact lf_jY G hx hy (fun c' => lf_tf c' c) (fun _ => ⟨rfl, lf_mk G hS⟩)
    · refine lf_isX_f h2 (br_t rfl ?_)
      unfold wpY_connected
      dsimp only
      exact lf_isY_t hx (br_f (by decide) (lf_isY_f h2 (br_t rfl ⟨rfl, lf_mk G hS⟩)))
  · refine lf_isX_f h1 (br_t rfl ?_)
    unfold wpY_connected
    dsimp only
    exact lf_isY_f h1 (br_t rfl ⟨rfl, lf_mk G hS⟩)
theorem i_vc_part {k : Nat} {u : SX} {v : SY} (I : i_Rel k u v) (hk : k + 3 ≤ 1536) (v1 : Int32) : wpX_part (fun r => wpY_part (fun r' => r' = r ∧ i_Rel (k + 3) u v) v v1) u v1 := by
  obtain ⟨kp, rfl, G, hS⟩ := I
  unfold wpX_part wpY_part
  dsimp only
  by_cases h1 : lf_Pt v1
  · obtain ⟨x, hx, rfl⟩ := h1
    exact lf_isX_t hx (br_f (by decide) (lf_rcX (lf_isY_t hx (br_f (by decide) (lf_rcY G hx ⟨rfl, lf_mk G hS⟩)))))
  · exact lf_isX_f h1 (br_t rfl (lf_isY_f h1 (br_t rfl ⟨rfl, lf_mk G hS⟩)))
theorem i_vc_parts {k : Nat} {u : SX} {v : SY} (I : i_Rel k u v) (hk : k + 3 ≤ 1536) : wpX_parts (fun r => wpY_parts (fun r' => r' = r ∧ i_Rel (k + 3) u v) v) u := by
  obtain ⟨kp, rfl, G, hS⟩ := I
  unfold wpX_parts
  exact lf_cpX G (lf_cpY G ⟨rfl, lf_mk G hS⟩)
theorem i_vc_isEdge {k : Nat} {u : SX} {v : SY} (I : i_Rel k u v) (hk : k + 3 ≤ 1536) (v1 : Int32) (v2 : Int32) : wpX_isEdge (fun r => wpY_isEdge (fun r' => r' = r ∧ i_Rel (k + 3) u v) v v1 v2) u v1 v2 := by
  obtain ⟨kp, rfl, G, hS⟩ := I
  unfold wpX_isEdge
  by_cases h : lf_Pr v1 v2
  · obtain ⟨x, y, hx, hy, hn, rfl, rfl⟩ := h
    refine lf_cbX_t hx hy hn (br_f (by decide) (lf_heX hx hy (fun q => br_f (by decide) ?_) (fun q => br_t rfl ?_)))
    · exact lf_ieY hx hy (fun _ => ⟨rfl, lf_mk G hS⟩) (fun z => absurd ⟨hx, q⟩ z)
    · exact lf_ieY hx hy (fun z => lf_tf z.2 q) (fun _ => ⟨rfl, lf_mk G hS⟩)
  · refine lf_cbX_f h (br_t rfl ?_)
    by_cases h1 : lf_Pt v1
    · obtain ⟨x, hx, rfl⟩ := h1
      by_cases h2 : lf_Pt v2
      · obtain ⟨y, hy, rfl⟩ := h2
        exact lf_ieY hx hy (fun z => absurd ⟨x, y, hx, hy, lf_ed_ne G z, rfl, rfl⟩ h) (fun _ => ⟨rfl, lf_mk G hS⟩)
      · unfold wpY_isEdge
        dsimp only
        exact lf_isY_t hx (br_f (by decide) (lf_isY_f h2 (br_t rfl ⟨rfl, lf_mk G hS⟩)))
    · unfold wpY_isEdge
      dsimp only
      exact lf_isY_f h1 (br_t rfl ⟨rfl, lf_mk G hS⟩)
theorem i_vc_isBridge {k : Nat} {u : SX} {v : SY} (I : i_Rel k u v) (hk : k + 3 ≤ 1536) (v1 : Int32) (v2 : Int32) : wpX_isBridge (fun r u' => wpY_isBridge (fun r' v' => r' = r ∧ i_Rel (k + 3) u' v') v v1 v2) u v1 v2 := by
  obtain ⟨kp, rfl, G, hS⟩ := I
  by_cases h : lf_Pr v1 v2
  · obtain ⟨x, y, hx, hy, hn, rfl, rfl⟩ := h
    refine lf_ibX G hx hy hn (fun e => ?_) (fun e c => ?_) (fun e c => ?_)
    · exact lf_ibY G hx hy (fun _ => ⟨rfl, lf_mk G hS⟩) (fun z => absurd z e) (fun z => absurd z e)
    · exact lf_ibY G hx hy (fun z => absurd e z) (fun _ _ => ⟨rfl, lf_mk G hS⟩) (fun _ c' => absurd c' c)
    · exact lf_ibY G hx hy (fun z => absurd e z) (fun _ c' => absurd c c') (fun _ _ => ⟨rfl, lf_mk G hS⟩)
  · unfold wpX_isBridge
    refine lf_cbX_f h (br_t rfl ?_)
    by_cases h1 : lf_Pt v1
    · obtain ⟨x, hx, rfl⟩ := h1
      by_cases h2 : lf_Pt v2
      · obtain ⟨y, hy, rfl⟩ := h2
        exact lf_ibY G hx hy (fun _ => ⟨rfl, lf_mk G hS⟩) (fun z => absurd ⟨x, y, hx, hy, lf_ed_ne G z, rfl, rfl⟩ h) (fun z => absurd ⟨x, y, hx, hy, lf_ed_ne G z, rfl, rfl⟩ h)
      · unfold wpY_isBridge
        dsimp only
        unfold wpY_isEdge
        dsimp only
        exact lf_isY_t hx (br_f (by decide) (lf_isY_f h2 (br_t rfl (br_t rfl ⟨rfl, lf_mk G hS⟩))))
    · unfold wpY_isBridge
      dsimp only
      unfold wpY_isEdge
      dsimp only
      exact lf_isY_f h1 (br_t rfl (br_t rfl ⟨rfl, lf_mk G hS⟩))
theorem i_vc_edges {k : Nat} {u : SX} {v : SY} (I : i_Rel k u v) (hk : k + 3 ≤ 1536) : wpX_edges (fun r => wpY_edges (fun r' => r' = r ∧ i_Rel (k + 3) u v) v) u := by
  obtain ⟨kp, rfl, G, hS⟩ := I
  unfold wpX_edges
  exact lf_ceX u (lf_ceY u kp ⟨rfl, lf_mk G hS⟩)
theorem i_vc_spare {k : Nat} {u : SX} {v : SY} (I : i_Rel k u v) (hk : k + 3 ≤ 1536) : wpX_spare (fun r => wpY_spare (fun r' v' => r' = r ∧ i_Rel (k + 3) u v') v) u := by
  obtain ⟨kp, rfl, G, hS⟩ := I
  unfold wpX_spare
  refine lf_cpX G (nm_e (lf_ceX u (lf_spY G fun m kp' hm => ⟨?_, lf_mk G hS⟩)))
  have hC := lf_C_le u
  have e : (12 : Int32) - nI (lf_C u) = nI (12 - lf_C u) := pk_sub (a := 12) hC
  rw [e, pk_sub (by omega)]
  exact congrArg nI (by omega)
theorem i_vc_isolate {k : Nat} {u : SX} {v : SY} (I : i_Rel k u v) (hk : k + 3 ≤ 1536) (v1 : Int32) : wpX_isolate (fun r u' => wpY_isolate (fun r' v' => r' = r ∧ i_Rel (k + 3) u' v') v v1) u v1 := by
  obtain ⟨kp, rfl, G, hS⟩ := I
  by_cases h1 : lf_Pt v1
  · obtain ⟨x, hx, rfl⟩ := h1
    obtain ⟨g, hs⟩ := lf_iso_g G hx 12 (by omega)
    exact lf_isoX G hx (lf_isoY G hx ⟨rfl, lf_mk g (by omega)⟩)
  · unfold wpX_isolate
    refine lf_isX_f h1 (br_t rfl ?_)
    unfold wpY_isolate
    dsimp only
    exact lf_isY_f h1 (br_t rfl ⟨rfl, lf_mk G hS⟩)
theorem i_vc_greatest {k : Nat} {u : SX} {v : SY} (I : i_Rel k u v) (hk : k + 3 ≤ 1536) : wpX_greatest (fun r => wpY_greatest (fun r' => r' = r ∧ i_Rel (k + 3) u v) v) u := by
  obtain ⟨kp, rfl, G, hS⟩ := I
  exact lf_gtX (lf_gtY G ⟨rfl, lf_mk G hS⟩)
end
