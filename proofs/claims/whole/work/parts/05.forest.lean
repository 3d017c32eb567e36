/-! ===== bridges, and the graph whose edges are all bridges ===== -/
theorem lf_ed_ne {a : Nat → Int32} (G : lf_Gr a) {u v : Nat} (e : lf_Ed a u v) : u ≠ v := fun z => (G u v e).1 z.symm
theorem lf_nbr {a : Nat → Int32} {u v : Nat} (G : lf_Gr a) (e : lf_Ed a u v) (c : lf_Cn (lf_take a u v) u v) (x y : Nat) : lf_Cn a x y ↔ lf_Cn (lf_take a u v) x y := by
  have hu := e.1
  have hv := lf_ed_lt G e
  have h := lf_ed_ne G e
  have G' := lf_take_g G hu hv h
  constructor
  · intro k
    refine k (fun z => lf_Cn (lf_take a u v) x z) (lf_cn_rf _ _) fun p q hp he => ?_
    by_cases q1 : p = u ∧ q = v
    · rw [q1.1] at hp; rw [q1.2]; exact lf_cn_tr hp c
    · by_cases q2 : p = v ∧ q = u
      · rw [q2.1] at hp; rw [q2.2]; exact lf_cn_tr hp (lf_cn_sy G' c)
      · exact lf_cn_tr hp (lf_cn_ed ((lf_take_e hu hv h p q).mpr ⟨he, q1, q2⟩))
  · exact lf_cn_mono fun p q he => ((lf_take_e hu hv h p q).mp he).1
theorem lf_br {a : Nat → Int32} {u v : Nat} (G : lf_Gr a) (e : lf_Ed a u v) (x y : Nat) : lf_Cn a x y ↔ lf_Cn (lf_take a u v) x y ∨ (lf_Cn (lf_take a u v) x u ∧ lf_Cn (lf_take a u v) v y) ∨ (lf_Cn (lf_take a u v) x v ∧ lf_Cn (lf_take a u v) u y) := by
  have hu := e.1
  have hv := lf_ed_lt G e
  have h := lf_ed_ne G e
  have G' := lf_take_g G hu hv h
  have M : ∀ {p q : Nat}, lf_Cn (lf_take a u v) p q → lf_Cn a p q := fun k => lf_cn_mono (fun p q he => ((lf_take_e hu hv h p q).mp he).1) k
  constructor
  · intro k
    refine k (fun y => lf_Cn (lf_take a u v) x y ∨ (lf_Cn (lf_take a u v) x u ∧ lf_Cn (lf_take a u v) v y) ∨ (lf_Cn (lf_take a u v) x v ∧ lf_Cn (lf_take a u v) u y)) (Or.inl (lf_cn_rf _ _)) fun p q hp he => ?_
    by_cases q1 : p = u ∧ q = v
    · rw [q1.1] at hp; rw [q1.2]
      rcases hp with hp | hp | hp
      · exact Or.inr (Or.inl ⟨hp, lf_cn_rf _ _⟩)
      · exact Or.inr (Or.inl ⟨hp.1, lf_cn_rf _ _⟩)
      · exact Or.inl hp.1
    · by_cases q2 : p = v ∧ q = u
      · rw [q2.1] at hp; rw [q2.2]
        rcases hp with hp | hp | hp
        · exact Or.inr (Or.inr ⟨hp, lf_cn_rf _ _⟩)
        · exact Or.inl hp.1
        · exact Or.inr (Or.inr ⟨hp.1, lf_cn_rf _ _⟩)
      · have s := lf_cn_ed ((lf_take_e hu hv h p q).mpr ⟨he, q1, q2⟩)
        rcases hp with hp | hp | hp
        · exact Or.inl (lf_cn_tr hp s)
        · exact Or.inr (Or.inl ⟨hp.1, lf_cn_tr hp.2 s⟩)
        · exact Or.inr (Or.inr ⟨hp.1, lf_cn_tr hp.2 s⟩)
  · rintro (k | k | k)
    · exact M k
    · exact lf_cn_tr (M k.1) (lf_cn_tr (lf_cn_ed e) (M k.2))
    · exact lf_cn_tr (M k.1) (lf_cn_tr (lf_cn_ed (G u v e).2) (M k.2))
/-- two classes of R' joined into one of R: one point that was the least of its class is so no more -/
theorem lf_cls {R R' : Nat → Nat → Prop} {u v : Nat} (rf : ∀ x, R' x x) (sy : ∀ x y, R' x y → R' y x) (tr : ∀ x y z, R' x y → R' y z → R' x z)
    (hR : ∀ x y, R x y ↔ R' x y ∨ (R' x u ∧ R' v y) ∨ (R' x v ∧ R' u y)) (hn : ¬ R' u v) (mA mB : Nat) (hA : R' u mA) (hB : R' v mB) (lA : ∀ j, j < mA → ¬ R' u j) (lB : ∀ j, j < mB → ¬ R' v j) (hAB : mA < mB) :
    (∀ j, j < mB → ¬ R' mB j) ∧ (¬ ∀ j, j < mB → ¬ R mB j) ∧ (∀ w, w ≠ mB → ((∀ j, j < w → ¬ R' w j) ↔ (∀ j, j < w → ¬ R w j))) := by
  refine ⟨fun j hj k => lB j hj (tr _ _ _ hB k), fun k => k mA hAB ((hR mB mA).mpr (Or.inr (Or.inr ⟨sy _ _ hB, hA⟩))), fun w hw => ⟨fun k j hj r => ?_, fun k j hj r => k j hj ((hR w j).mpr (Or.inl r))⟩⟩
  rcases (hR w j).mp r with q | ⟨q1, q2⟩ | ⟨q1, q2⟩
  · exact k j hj q
  · have h1 : ¬ mA < w := fun z => k mA z (tr _ _ _ q1 hA)
    have h3 : ¬ j < mB := fun z => lB j z q2
    omega
  · have h1 : ¬ mB < w := fun z => k mB z (tr _ _ _ q1 hB)
    have h2 : ¬ w < mB := fun z => lB w z (sy _ _ q1)
    omega
theorem lf_C_br {a : Nat → Int32} {u v : Nat} (G : lf_Gr a) (e : lf_Ed a u v) (c : ¬ lf_Cn (lf_take a u v) u v) : lf_C (lf_take a u v) = lf_C a + 1 := by
  have hu := e.1
  have hv := lf_ed_lt G e
  have h := lf_ed_ne G e
  have G' := lf_take_g G hu hv h
  obtain ⟨mA, hA, lA⟩ := lf_min (P := lf_Cn (lf_take a u v) u) u (lf_cn_rf _ _)
  obtain ⟨mB, hB, lB⟩ := lf_min (P := lf_Cn (lf_take a u v) v) v (lf_cn_rf _ _)
  have key : ∃ m, m < 12 ∧ (∀ j, j < m → ¬ lf_Cn (lf_take a u v) m j) ∧ (¬ ∀ j, j < m → ¬ lf_Cn a m j) ∧ (∀ w, w ≠ m → ((∀ j, j < w → ¬ lf_Cn (lf_take a u v) w j) ↔ (∀ j, j < w → ¬ lf_Cn a w j))) := by
    rcases Nat.lt_trichotomy mA mB with q | q | q
    · exact ⟨mB, lf_cn_lt G' hv hB, lf_cls (R := lf_Cn a) (R' := lf_Cn (lf_take a u v)) (lf_cn_rf _) (fun _ _ => lf_cn_sy G') (fun _ _ _ => lf_cn_tr) (lf_br G e) c mA mB hA hB lA lB q⟩
    · subst q
      exact absurd (lf_cn_tr hA (lf_cn_sy G' hB)) c
    · exact ⟨mA, lf_cn_lt G' hu hA, lf_cls (R := lf_Cn a) (R' := lf_Cn (lf_take a u v)) (lf_cn_rf _) (fun _ _ => lf_cn_sy G') (fun _ _ _ => lf_cn_tr) (fun x y => (lf_br G e x y).trans (or_congr Iff.rfl Or.comm)) (fun z => c (lf_cn_sy G' z)) mB mA hB hA lB lA q⟩
  obtain ⟨m, hm, k1, k2, k3⟩ := key
  refine lf_ct_one (k := m) ((lf_ls_iff G' hm).mpr k1) ?_ 12 hm fun w hw hwm => ?_
  · cases q : lf_ls a m
    · rfl
    · exact absurd ((lf_ls_iff G hm).mp q) k2
  · refine Bool.eq_iff_iff.mpr ?_
    rw [lf_ls_iff G' hw, lf_ls_iff G hw]
    exact k3 w hwm
def lf_For (a : Nat → Int32) : Prop := ∀ x y, lf_Ed a x y → ¬ lf_Cn (lf_take a x y) x y
theorem lf_For_take {a : Nat → Int32} (G : lf_Gr a) {u v x y : Nat} (e : lf_Ed a u v) (k : lf_Ed (lf_take a u v) x y) (c : ¬ lf_Cn (lf_take a x y) x y) : ¬ lf_Cn (lf_take (lf_take a u v) x y) x y := by
  have hu := e.1
  have hv := lf_ed_lt G e
  have h := lf_ed_ne G e
  have G' := lf_take_g G hu hv h
  have k0 : lf_Ed a x y := ((lf_take_e hu hv h x y).mp k).1
  have hx := k0.1
  have hy := lf_ed_lt G k0
  have hxy := lf_ed_ne G k0
  refine fun z => c (lf_cn_mono (fun p q he => ?_) z)
  rw [lf_take_e hx hy hxy, lf_take_e hu hv h] at he
  rw [lf_take_e hx hy hxy]
  exact ⟨he.1.1, he.2⟩
theorem lf_forest : ∀ n : Nat, ∀ a : Nat → Int32, lf_Gr a → lf_S a ≤ n → lf_For a → lf_S a + 2 * lf_C a = 24 := by
  intro n
  induction n using Nat.strongRecOn with
  | ind n ih =>
    intro a G hn F
    by_cases k : ∃ u v, lf_Ed a u v
    · obtain ⟨u, v, e⟩ := k
      have hS := lf_take_S G e
      have hC := lf_C_br G e (F u v e)
      have := ih (n - 2) (by omega) (lf_take a u v) (lf_take_g G e.1 (lf_ed_lt G e) (lf_ed_ne G e)) (by omega)
        (fun x y z => lf_For_take G e z (F x y ((lf_take_e e.1 (lf_ed_lt G e) (lf_ed_ne G e) x y).mp z).1))
      omega
    · have hS : lf_S a = 0 := lf_sm_zero 12 fun i hi => (lf_ct_zero 12).mpr fun j _ => by
        cases q : bt (a i) j
        · rfl
        · exact absurd ⟨i, j, hi, q⟩ k
      have hC : lf_C a = 12 := lf_ct_all 12 fun w hw => (lf_ls_iff G hw).mpr fun j hj c => by
        have : j = w := c (fun z => z = w) rfl (fun x y _ he => absurd ⟨x, y, he⟩ k)
        omega
      omega
