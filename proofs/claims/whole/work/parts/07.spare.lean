/-! ===== the reference's spare ===== -/
theorem lf_ieY {post : Int32 → Prop} {a kp : Nat → Int32} {u v : Nat} (hu : u < 12) (hv : v < 12) (ht : lf_Ed a u v → post 1) (hf : ¬ lf_Ed a u v → post 0) : wpY_isEdge post (a, kp) (nI u) (nI v) := by
  unfold wpY_isEdge
  dsimp only
  refine lf_isY_t hu (br_f (by decide) (lf_isY_t hv (br_f (by decide) ⟨lf_v12 hu, ?_⟩)))
  rw [lf_cl hu]
  refine lf_hY hv (fun q => br_f (by decide) (ht ⟨hu, q⟩)) (fun q => br_t rfl (hf fun z => ?_))
  rw [z.2] at q; cases q
theorem lf_ibY {post : Int32 → SY → Prop} {a kp : Nat → Int32} (G : lf_Gr a) {u v : Nat} (hu : u < 12) (hv : v < 12) (h0 : ¬ lf_Ed a u v → post 0 (a, kp)) (h1 : lf_Ed a u v → ¬ lf_Cn (lf_take a u v) u v → post 1 (a, kp)) (h2 : lf_Ed a u v → lf_Cn (lf_take a u v) u v → post 0 (a, kp)) : wpY_isBridge post (a, kp) (nI u) (nI v) := by
  unfold wpY_isBridge
  dsimp only
  refine lf_ieY hu hv (fun e => br_f (by decide) (lf_rmY hu hv ?_)) (fun e => br_t rfl (h0 e))
  dsimp only
  have G' := lf_take_g G hu hv (lf_ed_ne G e)
  refine lf_jY G' hu hv (fun q => br_f (by decide) ?_) (fun q => br_t rfl ?_)
  · unfold wY_isBridge_31
    refine lf_adY hu hv ⟨rfl, ?_⟩
    rw [lf_put_take G e]
    exact h2 e ((lf_rc_iff G' hu v).mp q)
  · unfold wY_isBridge_31
    refine lf_adY hu hv ⟨rfl, ?_⟩
    rw [lf_put_take G e]
    refine h1 e fun z => ?_
    rw [(lf_rc_iff G' hu v).mpr z] at q; cases q
theorem lf_d12 {e : Nat} (h : e < 144) : nI e / 12 = nI (e / 12) := pk_div (d := 12) (by omega) (by omega) (by omega)
theorem lf_r12 {e : Nat} (h : e < 144) : nI e - nI e / 12 * 12 = nI (e % 12) := pk_rem (d := 12) (by omega) (by omega) (by omega)
/-- the loop's state at pair e: b is what is left of a, n edges were taken -/
def lf_Inv (a b : Nat → Int32) (n e : Nat) : Prop :=
  lf_Gr b ∧ lf_S a = lf_S b + 2 * n ∧ (∀ x y, lf_Cn a x y ↔ lf_Cn b x y) ∧ (∀ i, 12 ≤ i → b i = a i) ∧ (∀ x y, x * 12 + y < e → y < 12 → lf_Ed b x y → ¬ lf_Cn (lf_take b x y) x y)
theorem lf_inv_skip {a b : Nat → Int32} {n e : Nat} (I : lf_Inv a b n e) (h : lf_Ed b (e / 12) (e % 12) → ¬ lf_Cn (lf_take b (e / 12) (e % 12)) (e / 12) (e % 12)) : lf_Inv a b n (e + 1) := by
  obtain ⟨h1, h2, h3, h4, h5⟩ := I
  refine ⟨h1, h2, h3, h4, fun x y hxy hy k => ?_⟩
  by_cases q : x * 12 + y < e
  · exact h5 x y q hy k
  · have e1 : e / 12 = x := by omega
    have e2 : e % 12 = y := by omega
    rw [e1, e2] at h
    exact h k
theorem lf_inv_take {a b : Nat → Int32} {n e : Nat} (I : lf_Inv a b n e) (k : lf_Ed b (e / 12) (e % 12)) (c : lf_Cn (lf_take b (e / 12) (e % 12)) (e / 12) (e % 12)) : lf_Inv a (lf_take b (e / 12) (e % 12)) (n + 1) (e + 1) := by
  obtain ⟨h1, h2, h3, h4, h5⟩ := I
  have hu := k.1
  have hv := lf_ed_lt h1 k
  have hn := lf_ed_ne h1 k
  have hS := lf_take_S h1 k
  refine ⟨lf_take_g h1 hu hv hn, by omega, fun x y => (h3 x y).trans (lf_nbr h1 k c x y), fun i hi => ?_, fun x y hxy hy z => ?_⟩
  · rw [lf_take_o (by omega) (by omega)]
    exact h4 i hi
  · have z' := (lf_take_e hu hv hn x y).mp z
    by_cases q : x * 12 + y < e
    · exact lf_For_take h1 k z (h5 x y q hy z'.1)
    · have e1 : e / 12 = x := by omega
      have e2 : e % 12 = y := by omega
      exact absurd ⟨e1.symm, e2.symm⟩ z'.2.1
theorem lf_inv_end {a b : Nat → Int32} {n : Nat} (G : lf_Gr a) (I : lf_Inv a b n 144) : lf_S a / 2 + lf_C a = 12 + n := by
  obtain ⟨h1, h2, h3, h4, h5⟩ := I
  have F : lf_For b := fun x y k => h5 x y (by have := k.1; have := lf_ed_lt h1 k; omega) (lf_ed_lt h1 k) k
  have := lf_forest (lf_S b) b h1 (Nat.le_refl _) F
  have := lf_C_eq G h1 h3
  omega
theorem lf_spY90 {post : Int32 → SY → Prop} {a kp : Nat → Int32} {t : Int32} (b : Nat → Int32) (hb : ∀ i, 12 ≤ i → b i = a i) (hk : ∀ i, i < 12 → kp i = a i) (h : post t (a, kp)) : ∃ n, wY_spare_90 post t n 0 b kp := by
  refine loop_0 (fun n i (c : Nat → Int32) => wY_spare_90 post t n (nI i) c kp) (fun i c => (∀ j, j < i → c j = a j) ∧ (∀ j, 12 ≤ j → c j = a j)) 12 b ⟨fun j hj => by omega, hb⟩ ?_ ?_
  · rintro n c ⟨h1, h2⟩
    have : c = a := funext fun j => by
      rcases Nat.lt_or_ge j 12 with q | q
      · exact h1 j q
      · exact h2 j q
    subst this
    exact br_t lf_e12 h
  · rintro n i c hi ⟨h1, h2⟩ hs
    refine br_f (lf_12 hi) ⟨lf_v12 hi, lf_v12 hi, ?_⟩
    rw [lf_cl hi]
    refine nm_e (nm_r (nI_1 i) (hs _ ⟨fun j hj => ?_, fun j hj => ?_⟩))
    · by_cases e : j = i
      · rw [e, pk_us]; exact hk i hi
      · rw [pk_un e]; exact h1 j (by omega)
    · rw [pk_un (by omega)]; exact h2 j hj
theorem lf_spY30 {post : Int32 → SY → Prop} {a kp : Nat → Int32} (G : lf_Gr a) (hk : ∀ i, i < 12 → kp i = a i) (h : ∀ m, lf_S a / 2 + lf_C a = 12 + m → post (nI m) (a, kp)) : ∃ n, wY_spare_30 post n 0 0 a kp := by
  refine loop_0 (fun n i (t : Int32 × (Nat → Int32)) => wY_spare_30 post n t.1 (nI i) t.2 kp) (fun i t => ∃ m, t.1 = nI m ∧ lf_Inv a t.2 m i) 144 (0, a) ⟨0, rfl, G, rfl, fun _ _ => Iff.rfl, fun _ _ => rfl, fun x y z => by omega⟩ ?_ ?_
  · rintro n ⟨t, b⟩ ⟨m, hm, I⟩
    dsimp only at hm I ⊢
    subst hm
    exact br_t (nI_le (a := 144) (b := 144) (by omega) (by omega)) (lf_spY90 b I.2.2.2.1 hk (h m (lf_inv_end G I)))
  · rintro n i ⟨t, b⟩ hi ⟨m, hm, I⟩ hs
    dsimp only at hm I ⊢
    subst hm
    have hu : i / 12 < 12 := by omega
    have hv : i % 12 < 12 := by omega
    refine br_f (nI_ge (b := 144) hi (by decide)) ⟨by decide, by decide, ?_⟩
    rw [lf_r12 hi, lf_d12 hi]
    refine lf_ieY hu hv (fun k => br_f (by decide) ⟨by decide, by decide, ?_⟩) (fun k => br_t rfl (nm_r (nI_1 i) (hs (nI m, b) ⟨m, rfl, lf_inv_skip I fun z => absurd z k⟩)))
    refine lf_ibY I.1 hu hv (fun z => absurd k z) (fun _ c => ?_) (fun _ c => ?_)
    · dsimp only
      exact br_f (by decide) (nm_r (nI_1 i) (hs (nI m, b) ⟨m, rfl, lf_inv_skip I fun _ => c⟩))
    · dsimp only
      refine br_t rfl ⟨by decide, by decide, ?_⟩
      refine lf_rmY hu hv ?_
      dsimp only
      exact nm_r (nI_1 m) (nm_r (nI_1 i) (hs (nI (m + 1), lf_take b (i / 12) (i % 12)) ⟨m + 1, rfl, lf_inv_take I k c⟩))
theorem lf_spY {post : Int32 → SY → Prop} {a kp : Nat → Int32} (G : lf_Gr a) (h : ∀ m kp', lf_S a / 2 + lf_C a = 12 + m → post (nI m) (a, kp')) : wpY_spare post (a, kp) := by
  refine loop_0 (fun n i (c : Nat → Int32) => wY_spare_4 post 0 n (nI i) a c) (fun i c => ∀ j, j < i → c j = a j) 12 kp (fun j hj => by omega) ?_ ?_
  · rintro n c hc
    exact br_t lf_e12 (lf_spY30 G hc (fun m hm => h m c hm))
  · rintro n i c hi hc hs
    refine br_f (lf_12 hi) ⟨lf_v12 hi, lf_v12 hi, ?_⟩
    rw [lf_cl hi]
    refine nm_e (nm_r (nI_1 i) (hs _ fun j hj => ?_))
    by_cases e : j = i
    · rw [e, pk_us]
    · rw [pk_un e]; exact hc j (by omega)
