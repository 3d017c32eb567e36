/-! ===== an edge put, an edge taken ===== -/
def lf_put (a : Nat → Int32) (u v : Nat) : Nat → Int32 := upd (upd a u (a u ||| lf_bit v)) v (upd a u (a u ||| lf_bit v) v ||| lf_bit u)
def lf_take (a : Nat → Int32) (u v : Nat) : Nat → Int32 := upd (upd a u (a u &&& (lf_bit v ^^^ (-1)))) v (upd a u (a u &&& (lf_bit v ^^^ (-1))) v &&& (lf_bit u ^^^ (-1)))
theorem lf_nb (x : Int32) {v : Nat} (hv : v < 12) (j : Nat) : bt (x &&& (lf_bit v ^^^ (-1))) j = true ↔ bt x j = true ∧ ¬ j = v := by
  rcases Nat.lt_or_ge j 32 with h | h
  · rw [b_and, b_xor, b_m1 j h, lf_bitb hv h]
    by_cases e : j = v
    · simp [e]
    · simp [e]
  · rw [b_big h, b_big h]
    simp
theorem lf_ob (x : Int32) {v : Nat} (hv : v < 12) (j : Nat) : bt (x ||| lf_bit v) j = true ↔ bt x j = true ∨ j = v := by
  rw [b_or, Bool.or_eq_true, lf_bitT hv]
theorem lf_put_o {a : Nat → Int32} {u v i : Nat} (h1 : i ≠ u) (h2 : i ≠ v) : lf_put a u v i = a i := by
  unfold lf_put; rw [pk_un h2, pk_un h1]
theorem lf_take_o {a : Nat → Int32} {u v i : Nat} (h1 : i ≠ u) (h2 : i ≠ v) : lf_take a u v i = a i := by
  unfold lf_take; rw [pk_un h2, pk_un h1]
theorem lf_put_u {a : Nat → Int32} {u v : Nat} (h : u ≠ v) : lf_put a u v u = a u ||| lf_bit v := by
  unfold lf_put; rw [pk_un h, pk_us]
theorem lf_put_v {a : Nat → Int32} {u v : Nat} (h : u ≠ v) : lf_put a u v v = a v ||| lf_bit u := by
  unfold lf_put; rw [pk_us, pk_un (fun z => h z.symm)]
theorem lf_take_u {a : Nat → Int32} {u v : Nat} (h : u ≠ v) : lf_take a u v u = a u &&& (lf_bit v ^^^ (-1)) := by
  unfold lf_take; rw [pk_un h, pk_us]
theorem lf_take_v {a : Nat → Int32} {u v : Nat} (h : u ≠ v) : lf_take a u v v = a v &&& (lf_bit u ^^^ (-1)) := by
  unfold lf_take; rw [pk_us, pk_un (fun z => h z.symm)]
theorem lf_put_b {a : Nat → Int32} {u v : Nat} (hu : u < 12) (hv : v < 12) (h : u ≠ v) (i j : Nat) : bt (lf_put a u v i) j = true ↔ bt (a i) j = true ∨ (i = u ∧ j = v) ∨ (i = v ∧ j = u) := by
  by_cases e : i = u
  · subst e
    rw [lf_put_u h, lf_ob _ hv]
    simp [h]
  · by_cases e2 : i = v
    · subst e2
      rw [lf_put_v h, lf_ob _ hu]
      simp [e]
    · rw [lf_put_o e e2]
      simp [e, e2]
theorem lf_take_b {a : Nat → Int32} {u v : Nat} (hu : u < 12) (hv : v < 12) (h : u ≠ v) (i j : Nat) : bt (lf_take a u v i) j = true ↔ bt (a i) j = true ∧ ¬ (i = u ∧ j = v) ∧ ¬ (i = v ∧ j = u) := by
  by_cases e : i = u
  · subst e
    rw [lf_take_u h, lf_nb _ hv]
    simp [h]
  · by_cases e2 : i = v
    · subst e2
      rw [lf_take_v h, lf_nb _ hu]
      simp [e]
    · rw [lf_take_o e e2]
      simp [e, e2]
theorem lf_put_e {a : Nat → Int32} {u v : Nat} (hu : u < 12) (hv : v < 12) (h : u ≠ v) (x y : Nat) : lf_Ed (lf_put a u v) x y ↔ lf_Ed a x y ∨ (x = u ∧ y = v) ∨ (x = v ∧ y = u) := by
  unfold lf_Ed
  rw [lf_put_b hu hv h]
  constructor
  · rintro ⟨h1, h2 | h2⟩
    · exact Or.inl ⟨h1, h2⟩
    · exact Or.inr h2
  · rintro (⟨h1, h2⟩ | h2)
    · exact ⟨h1, Or.inl h2⟩
    · exact ⟨by omega, Or.inr h2⟩
theorem lf_take_e {a : Nat → Int32} {u v : Nat} (hu : u < 12) (hv : v < 12) (h : u ≠ v) (x y : Nat) : lf_Ed (lf_take a u v) x y ↔ lf_Ed a x y ∧ ¬ (x = u ∧ y = v) ∧ ¬ (x = v ∧ y = u) := by
  unfold lf_Ed
  rw [lf_take_b hu hv h]
  exact ⟨fun z => ⟨⟨z.1, z.2.1⟩, z.2.2⟩, fun z => ⟨z.1.1, z.1.2, z.2⟩⟩
theorem lf_put_g {a : Nat → Int32} {u v : Nat} (G : lf_Gr a) (hu : u < 12) (hv : v < 12) (h : u ≠ v) : lf_Gr (lf_put a u v) := by
  intro x y e
  rw [lf_put_e hu hv h] at e ⊢
  rcases e with e | ⟨e1, e2⟩ | ⟨e1, e2⟩
  · exact ⟨(G x y e).1, Or.inl (G x y e).2⟩
  · exact ⟨by omega, Or.inr (Or.inr ⟨e2, e1⟩)⟩
  · exact ⟨by omega, Or.inr (Or.inl ⟨e2, e1⟩)⟩
theorem lf_take_g {a : Nat → Int32} {u v : Nat} (G : lf_Gr a) (hu : u < 12) (hv : v < 12) (h : u ≠ v) : lf_Gr (lf_take a u v) := by
  intro x y e
  rw [lf_take_e hu hv h] at e ⊢
  exact ⟨(G x y e.1).1, (G x y e.1).2, fun z => e.2.2 ⟨z.2, z.1⟩, fun z => e.2.1 ⟨z.2, z.1⟩⟩
theorem lf_put_take {a : Nat → Int32} {u v : Nat} (G : lf_Gr a) (e : lf_Ed a u v) : lf_put (lf_take a u v) u v = a := by
  have hu := e.1
  have hv := lf_ed_lt G e
  have h : u ≠ v := fun z => (G u v e).1 z.symm
  have e' := (G u v e).2
  funext i
  refine lf_ext fun j => ?_
  rw [lf_put_b hu hv h, lf_take_b hu hv h]
  constructor
  · rintro (z | ⟨z1, z2⟩ | ⟨z1, z2⟩)
    · exact z.1
    · rw [z1, z2]; exact e.2
    · rw [z1, z2]; exact e'.2
  · intro z
    by_cases q1 : i = u ∧ j = v
    · exact Or.inr (Or.inl q1)
    · by_cases q2 : i = v ∧ j = u
      · exact Or.inr (Or.inr q2)
      · exact Or.inl ⟨z, q1, q2⟩
theorem lf_ct_nb {x : Int32} {v : Nat} (hv : v < 12) (h : bt x v = true) : lf_ct (bt x) 12 = lf_ct (bt (x &&& (lf_bit v ^^^ (-1)))) 12 + 1 := by
  refine lf_ct_one (k := v) h ?_ 12 hv fun i _ hi => ?_
  · cases q : bt (x &&& (lf_bit v ^^^ (-1))) v
    · rfl
    · exact absurd rfl ((lf_nb x hv v).mp q).2
  · refine Bool.eq_iff_iff.mpr ?_
    rw [lf_nb x hv]
    exact ⟨fun z => ⟨z, hi⟩, fun z => z.1⟩
theorem lf_ct_ob {x : Int32} {v : Nat} (hv : v < 12) (h : bt x v = false) : lf_ct (bt (x ||| lf_bit v)) 12 = lf_ct (bt x) 12 + 1 := by
  refine lf_ct_one (k := v) ((lf_ob x hv v).mpr (Or.inr rfl)) h 12 hv fun i _ hi => ?_
  refine Bool.eq_iff_iff.mpr ?_
  rw [lf_ob x hv]
  exact ⟨fun z => z.elim id (fun q => absurd q hi), Or.inl⟩
theorem lf_take_S {a : Nat → Int32} {u v : Nat} (G : lf_Gr a) (e : lf_Ed a u v) : lf_S a = lf_S (lf_take a u v) + 2 := by
  have hu := e.1
  have hv := lf_ed_lt G e
  have h : u ≠ v := fun z => (G u v e).1 z.symm
  have e' := (G u v e).2
  refine lf_sm_two (k := u) (l := v) h ?_ ?_ hu hv fun i _ h1 h2 => ?_
  · show lf_ct (bt (a u)) 12 = lf_ct (bt (lf_take a u v u)) 12 + 1
    rw [lf_take_u h]; exact lf_ct_nb hv e.2
  · show lf_ct (bt (a v)) 12 = lf_ct (bt (lf_take a u v v)) 12 + 1
    rw [lf_take_v h]; exact lf_ct_nb hu e'.2
  · show lf_ct (bt (a i)) 12 = lf_ct (bt (lf_take a u v i)) 12
    rw [lf_take_o h1 h2]
theorem lf_put_S {a : Nat → Int32} {u v : Nat} (G : lf_Gr a) (hu : u < 12) (hv : v < 12) (h : u ≠ v) (e : bt (a u) v = false) : lf_S (lf_put a u v) = lf_S a + 2 := by
  have e' : bt (a v) u = false := by
    cases q : bt (a v) u
    · rfl
    · have := (G v u ⟨hv, q⟩).2.2
      rw [e] at this; cases this
  refine lf_sm_two (k := u) (l := v) h ?_ ?_ hu hv fun i _ h1 h2 => ?_
  · show lf_ct (bt (lf_put a u v u)) 12 = lf_ct (bt (a u)) 12 + 1
    rw [lf_put_u h]; exact lf_ct_ob hv e
  · show lf_ct (bt (lf_put a u v v)) 12 = lf_ct (bt (a v)) 12 + 1
    rw [lf_put_v h]; exact lf_ct_ob hu e'
  · show lf_ct (bt (lf_put a u v i)) 12 = lf_ct (bt (a i)) 12
    rw [lf_put_o h1 h2]
