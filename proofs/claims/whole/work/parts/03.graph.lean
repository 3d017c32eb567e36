/-! ===== the graph: a point's neighbours as a set ===== -/
def lf_Ed (a : Nat → Int32) (x y : Nat) : Prop := x < 12 ∧ bt (a x) y = true
def lf_Gr (a : Nat → Int32) : Prop := ∀ x y, lf_Ed a x y → y ≠ x ∧ lf_Ed a y x
def lf_Cn (a : Nat → Int32) (u v : Nat) : Prop := ∀ P : Nat → Prop, P u → (∀ x y, P x → lf_Ed a x y → P y) → P v
theorem lf_cn_rf (a : Nat → Int32) (u : Nat) : lf_Cn a u u := fun _ h _ => h
theorem lf_cn_tr {a : Nat → Int32} {u v w : Nat} (h : lf_Cn a u v) (h2 : lf_Cn a v w) : lf_Cn a u w := fun P hu hs => h2 P (h P hu hs) hs
theorem lf_cn_ed {a : Nat → Int32} {u v : Nat} (h : lf_Ed a u v) : lf_Cn a u v := fun _ hu hs => hs u v hu h
theorem lf_cn_sy {a : Nat → Int32} (G : lf_Gr a) {u v : Nat} (h : lf_Cn a u v) : lf_Cn a v u :=
  h (fun x => lf_Cn a x u) (lf_cn_rf a u) (fun x y hx he => lf_cn_tr (lf_cn_ed (G x y he).2) hx)
theorem lf_ed_lt {a : Nat → Int32} (G : lf_Gr a) {x y : Nat} (h : lf_Ed a x y) : y < 12 := (G x y h).2.1
theorem lf_cn_lt {a : Nat → Int32} (G : lf_Gr a) {u v : Nat} (hu : u < 12) (h : lf_Cn a u v) : v < 12 :=
  h (fun x => x < 12) hu (fun _ _ _ he => lf_ed_lt G he)
theorem lf_cn_mono {a b : Nat → Int32} (h : ∀ x y, lf_Ed a x y → lf_Ed b x y) {u v : Nat} (c : lf_Cn a u v) : lf_Cn b u v :=
  fun P hu hs => c P hu (fun x y hx he => hs x y hx (h x y he))
/-! ===== the sweeps ===== -/
def lf_sw (a : Nat → Int32) (s : Int32) : Nat → Int32
  | 0 => s
  | n + 1 => if bt (lf_sw a s n) n = true then lf_sw a s n ||| a n else lf_sw a s n
def lf_it (a : Nat → Int32) (s : Int32) : Nat → Int32
  | 0 => s
  | n + 1 => lf_sw a (lf_it a s n) 12
theorem lf_sw_t {a : Nat → Int32} {s : Int32} {n : Nat} (h : bt (lf_sw a s n) n = true) : lf_sw a s (n + 1) = lf_sw a s n ||| a n := if_pos h
theorem lf_sw_f {a : Nat → Int32} {s : Int32} {n : Nat} (h : bt (lf_sw a s n) n = false) : lf_sw a s (n + 1) = lf_sw a s n := if_neg (by rw [h]; decide)
theorem lf_sw_s {a : Nat → Int32} {s : Int32} {n j : Nat} (h : bt (lf_sw a s n) j = true) : bt (lf_sw a s (n + 1)) j = true := by
  cases e : bt (lf_sw a s n) n
  · rw [lf_sw_f e]; exact h
  · rw [lf_sw_t e, b_or, h]; rfl
theorem lf_sw_a {a : Nat → Int32} {s : Int32} {n j : Nat} (h : bt (lf_sw a s n) j = true) : ∀ m, bt (lf_sw a s (n + m)) j = true := by
  intro m
  induction m with
  | zero => exact h
  | succ m ih => exact lf_sw_s ih
theorem lf_sw_m {a : Nat → Int32} {s : Int32} {n m j : Nat} (hm : n ≤ m) (h : bt (lf_sw a s n) j = true) : bt (lf_sw a s m) j = true := by
  obtain ⟨d, rfl⟩ := Nat.exists_eq_add_of_le hm
  exact lf_sw_a h d
theorem lf_sw_ed {a : Nat → Int32} {s : Int32} {x y : Nat} (hx : x < 12) (h : bt s x = true) (he : bt (a x) y = true) : bt (lf_sw a s 12) y = true := by
  have h1 : bt (lf_sw a s x) x = true := lf_sw_m (Nat.zero_le x) h
  have h2 : bt (lf_sw a s (x + 1)) y = true := by rw [lf_sw_t h1, b_or, he]; exact Bool.or_true _
  exact lf_sw_m (by omega) h2
theorem lf_sw_in {a : Nat → Int32} {s : Int32} {P : Nat → Prop} (hs : ∀ j, bt s j = true → P j) (hp : ∀ x y, P x → lf_Ed a x y → P y) : ∀ n, n ≤ 12 → ∀ j, bt (lf_sw a s n) j = true → P j := by
  intro n
  induction n with
  | zero => intro _ j h; exact hs j h
  | succ n ih =>
    intro hn j h
    cases e : bt (lf_sw a s n) n
    · rw [lf_sw_f e] at h; exact ih (by omega) j h
    · rw [lf_sw_t e, b_or, Bool.or_eq_true] at h
      rcases h with h | h
      · exact ih (by omega) j h
      · exact hp n j (ih (by omega) n e) ⟨by omega, h⟩
theorem lf_it_in {a : Nat → Int32} {s : Int32} {P : Nat → Prop} (hs : ∀ j, bt s j = true → P j) (hp : ∀ x y, P x → lf_Ed a x y → P y) : ∀ n, ∀ j, bt (lf_it a s n) j = true → P j := by
  intro n
  induction n with
  | zero => exact hs
  | succ n ih => exact lf_sw_in ih hp 12 (Nat.le_refl _)
def lf_Cl (a : Nat → Int32) (s : Int32) : Prop := ∀ x y, bt s x = true → lf_Ed a x y → bt s y = true
theorem lf_cl_sw {a : Nat → Int32} {s : Int32} (h : lf_Cl a s) : lf_sw a s 12 = s :=
  lf_ext fun j => ⟨lf_sw_in (P := fun j => bt s j = true) (fun _ h => h) h 12 (Nat.le_refl _) j, fun z => lf_sw_m (n := 0) (by omega) z⟩
theorem lf_sw_cl {a : Nat → Int32} {s : Int32} (h : lf_sw a s 12 = s) : lf_Cl a s := fun x y hx he => by
  rw [← h]; exact lf_sw_ed he.1 hx he.2
theorem lf_it_m {a : Nat → Int32} {s : Int32} {j : Nat} (h : bt s j = true) : ∀ n, bt (lf_it a s n) j = true := by
  intro n
  induction n with
  | zero => exact h
  | succ n ih => exact lf_sw_m (n := 0) (by omega) ih
theorem lf_it_gr {a : Nat → Int32} (G : lf_Gr a) {s : Int32} {u : Nat} (hu : u < 12) (h : bt s u = true) (hs : ∀ j, bt s j = true → j < 12) : ∀ n, lf_Cl a (lf_it a s n) ∨ n + 1 ≤ lf_ct (bt (lf_it a s n)) 12 := by
  intro n
  induction n with
  | zero =>
    refine Or.inr ?_
    have := lf_ct_lt (p := fun _ => false) (q := bt s) (k := u) (fun i z => by cases z) rfl h 12 hu
    exact Nat.le_trans (by omega) this
  | succ n ih =>
    by_cases e : lf_sw a (lf_it a s n) 12 = lf_it a s n
    · refine Or.inl ?_
      show lf_Cl a (lf_sw a (lf_it a s n) 12)
      rw [e]
      exact lf_sw_cl e
    · rcases ih with c | c
      · exact absurd (lf_cl_sw c) e
      · refine Or.inr ?_
        have hm : ∀ j, bt (lf_it a s n) j = true → bt (lf_sw a (lf_it a s n) 12) j = true := fun j z => lf_sw_m (n := 0) (by omega) z
        have hl : ∀ j, bt (lf_it a s (n + 1)) j = true → j < 12 := lf_it_in (P := fun j => j < 12) hs (fun _ _ _ z => lf_ed_lt G z) (n + 1)
        have hk : ∃ k, bt (lf_it a s n) k = false ∧ bt (lf_sw a (lf_it a s n) 12) k = true := by
          refine Classical.byContradiction fun z => e (lf_ext fun j => ⟨fun y => ?_, hm j⟩)
          cases q : bt (lf_it a s n) j
          · exact absurd ⟨j, q, y⟩ z
          · rfl
        obtain ⟨k, k1, k2⟩ := hk
        have := lf_ct_lt hm k1 k2 12 (hl k k2)
        show n + 1 + 1 ≤ lf_ct (bt (lf_sw a (lf_it a s n) 12)) 12
        omega
theorem lf_it_cl {a : Nat → Int32} (G : lf_Gr a) {s : Int32} {u : Nat} (hu : u < 12) (h : bt s u = true) (hs : ∀ j, bt s j = true → j < 12) : lf_Cl a (lf_it a s 11) := by
  rcases lf_it_gr G hu h hs 11 with c | c
  · exact c
  · intro x y _ he
    exact lf_ct_full 12 c y (lf_ed_lt G he)
theorem lf_bitT {v : Nat} (hv : v < 12) (i : Nat) : bt (lf_bit v) i = true ↔ i = v := by
  rcases Nat.lt_or_ge i 32 with h | h
  · rw [lf_bitb hv h, decide_eq_true_iff]
  · rw [b_big h]
    exact ⟨fun z => (by cases z), fun z => (by omega)⟩
def lf_rc (a : Nat → Int32) (u : Nat) : Int32 := lf_it a (lf_bit u) 11
theorem lf_rc_cl {a : Nat → Int32} (G : lf_Gr a) {u : Nat} (hu : u < 12) : lf_Cl a (lf_rc a u) :=
  lf_it_cl G hu ((lf_bitT hu u).mpr rfl) (fun j z => by rw [(lf_bitT hu j).mp z]; exact hu)
theorem lf_rc12 {a : Nat → Int32} (G : lf_Gr a) {u : Nat} (hu : u < 12) : lf_it a (lf_bit u) 12 = lf_rc a u := lf_cl_sw (lf_rc_cl G hu)
theorem lf_rc_iff {a : Nat → Int32} (G : lf_Gr a) {u : Nat} (hu : u < 12) (j : Nat) : bt (lf_rc a u) j = true ↔ lf_Cn a u j := by
  constructor
  · exact lf_it_in (P := fun j => lf_Cn a u j) (fun j z => by rw [(lf_bitT hu j).mp z]; exact lf_cn_rf a u) (fun x y hx he => lf_cn_tr hx (lf_cn_ed he)) 11 j
  · intro c
    exact c (fun j => bt (lf_rc a u) j = true) (lf_it_m ((lf_bitT hu u).mpr rfl) 11) (fun x y hx he => lf_rc_cl G hu x y hx he)
/-! ===== the number of parts ===== -/
def lf_ls (a : Nat → Int32) (w : Nat) : Bool := decide (lf_ct (bt (lf_rc a w)) w = 0)
def lf_C (a : Nat → Int32) : Nat := lf_ct (lf_ls a) 12
theorem lf_ls_iff {a : Nat → Int32} (G : lf_Gr a) {w : Nat} (hw : w < 12) : lf_ls a w = true ↔ ∀ j, j < w → ¬ lf_Cn a w j := by
  unfold lf_ls
  rw [decide_eq_true_iff, lf_ct_zero]
  constructor
  · intro h j hj c
    have := h j hj
    rw [(lf_rc_iff G hw j).mpr c] at this
    cases this
  · intro h j hj
    cases e : bt (lf_rc a w) j
    · rfl
    · exact absurd ((lf_rc_iff G hw j).mp e) (h j hj)
theorem lf_C_le (a : Nat → Int32) : lf_C a ≤ 12 := lf_ct_le _ 12
theorem lf_C_eq {a b : Nat → Int32} (Ga : lf_Gr a) (Gb : lf_Gr b) (h : ∀ x y, lf_Cn a x y ↔ lf_Cn b x y) : lf_C a = lf_C b := by
  refine lf_ct_congr 12 fun w hw => Bool.eq_iff_iff.mpr ?_
  rw [lf_ls_iff Ga hw, lf_ls_iff Gb hw]
  exact ⟨fun z j hj c => z j hj ((h w j).mpr c), fun z j hj c => z j hj ((h w j).mp c)⟩
def lf_S (a : Nat → Int32) : Nat := lf_sm (fun i => lf_ct (bt (a i)) 12) 12
theorem lf_S_le (a : Nat → Int32) : lf_S a ≤ 144 := lf_sm_le (m := 12) (fun i => lf_ct_le _ 12) 12
