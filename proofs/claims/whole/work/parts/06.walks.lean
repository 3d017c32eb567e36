/-! ===== the walks of the private methods, each with a general post ===== -/
theorem lf_12 {i : Nat} (h : i < 12) : ¬ (12 : Int32) ≤ nI i := nI_ge (b := 12) h (by decide)
theorem lf_e12 : (12 : Int32) ≤ nI 12 := nI_le (a := 12) (b := 12) (by omega) (by omega)
theorem lf_cl {i : Nat} (h : i < 12) : (nI i).toNatClampNeg = i := nI_clamp (by omega)
theorem lf_v12 {i : Nat} (h : i < 12) : vp_in (nI i) 12 := vp_in_nI h (by omega)
def lf_Pt (x : Int32) : Prop := ∃ j : Nat, j < 12 ∧ x = nI j
theorem lf_isX_t {post : Int32 → Prop} {j : Nat} (hj : j < 12) (h : post 1) : wpX_isPoint post (nI j) :=
  br_f (nI_pos (by omega)) (br_f (lf_12 hj) h)
theorem lf_isX_f {post : Int32 → Prop} {x : Int32} (hx : ¬ lf_Pt x) (h : post 0) : wpX_isPoint post x := by
  by_cases h0 : x < 0
  · exact br_t h0 h
  · refine br_f h0 ?_
    obtain ⟨j, hj, rfl⟩ := nI_of h0
    have : ¬ j < 12 := fun z => hx ⟨j, z, rfl⟩
    exact br_t (nI_le (a := 12) (by omega) hj) h
theorem lf_isY_t {post : Int32 → Prop} {a kp : Nat → Int32} {j : Nat} (hj : j < 12) (h : post 1) : wpY_isPoint post (a, kp) (nI j) :=
  br_f (nI_pos (by omega)) (br_f (nI_nlt (a := 11) (b := j) (by omega) (by omega)) h)
theorem lf_isY_f {post : Int32 → Prop} {a kp : Nat → Int32} {x : Int32} (hx : ¬ lf_Pt x) (h : post 0) : wpY_isPoint post (a, kp) x := by
  by_cases h0 : x < 0
  · exact br_t h0 h
  · refine br_f h0 ?_
    obtain ⟨j, hj, rfl⟩ := nI_of h0
    have : ¬ j < 12 := fun z => hx ⟨j, z, rfl⟩
    exact br_t (nI_lt (a := 11) (by omega) hj) h
theorem lf_hX {post : Int32 → Prop} {s : Int32} {j : Nat} (hj : j < 12) (ht : bt s j = true → post 1) (hf : bt s j = false → post 0) : wpX_holds post s (nI j) := by
  unfold wpX_holds
  rw [lf_sh s (by omega)]
  cases q : bt s j
  · exact br_t rfl (hf q)
  · exact br_f (by decide) (ht q)
theorem lf_hY {post : Int32 → Prop} {a kp : Nat → Int32} {s : Int32} {j : Nat} (hj : j < 12) (ht : bt s j = true → post 1) (hf : bt s j = false → post 0) : wpY_in post (a, kp) s (nI j) := by
  unfold wpY_in
  dsimp only
  rw [lf_sh s (by omega)]
  cases q : bt s j
  · exact br_f (by decide) (hf q)
  · exact br_t rfl (ht q)
theorem lf_heX {post : Int32 → Prop} {a : Nat → Int32} {u v : Nat} (hu : u < 12) (hv : v < 12) (ht : bt (a u) v = true → post 1) (hf : bt (a u) v = false → post 0) : wpX_hasEdge post a (nI u) (nI v) := by
  unfold wpX_hasEdge
  rw [lf_cl hu]
  exact ⟨lf_v12 hu, lf_hX hv (fun q => ⟨rfl, ht q⟩) (fun q => ⟨rfl, hf q⟩)⟩
/-! sizes -/
theorem lf_szX {post : Int32 → Prop} (s : Int32) (h : post (nI (lf_ct (bt s) 12))) : wpX_sizeOf post s := by
  refine loop_0 (fun n i (t : Int32) => wX_sizeOf_4 post s n t (nI i)) (fun i t => t = nI (lf_ct (bt s) i)) 12 0 rfl ?_ ?_
  · rintro n t rfl
    exact br_t lf_e12 h
  · rintro n i t hi rfl hs
    refine br_f (lf_12 hi) (lf_hX hi (fun q => br_f (by decide) (nm_e ?_)) (fun q => br_t rfl ?_))
    · refine nm_r (nI_1 i) (hs _ ?_)
      rw [nI_1, lf_ct_t q]
    · refine nm_r (nI_1 i) (hs _ ?_)
      rw [lf_ct_f q]
theorem lf_szY {post : Int32 → Prop} (a kp : Nat → Int32) (s : Int32) (h : post (nI (lf_ct (bt s) 12))) : wpY_sizeOf post (a, kp) s := by
  refine loop_0 (fun n i (t : Int32) => wY_sizeOf_4 post s a kp n t (nI i)) (fun i t => t = nI (lf_ct (bt s) i)) 12 0 rfl ?_ ?_
  · rintro n t rfl
    exact br_t lf_e12 h
  · rintro n i t hi rfl hs
    refine br_f (lf_12 hi) (lf_hY hi (fun q => br_f (by decide) (nm_e ?_)) (fun q => br_t rfl ?_))
    · refine nm_r (nI_1 i) (hs _ ?_)
      rw [nI_1, lf_ct_t q]
    · refine nm_r (nI_1 i) (hs _ ?_)
      rw [lf_ct_f q]
theorem lf_half (a : Nat → Int32) : nI (lf_S a) / 2 = nI (lf_S a / 2) :=
  pk_div (d := 2) (by have := lf_S_le a; omega) (by omega) (by omega)
theorem lf_ceX {post : Int32 → Prop} (a : Nat → Int32) (h : post (nI (lf_S a / 2))) : wpX_countEdges post a := by
  refine loop_0 (fun n i (t : Int32) => wX_countEdges_4 post a n t (nI i)) (fun i t => t = nI (lf_sm (fun i => lf_ct (bt (a i)) 12) i)) 12 0 rfl ?_ ?_
  · rintro n t rfl
    refine br_t lf_e12 ⟨by decide, ?_⟩
    rw [← lf_half] at h
    exact h
  · rintro n i t hi rfl hs
    refine br_f (lf_12 hi) ⟨lf_v12 hi, ?_⟩
    rw [lf_cl hi]
    refine lf_szX _ (nm_e ?_)
    refine nm_r (nI_1 i) (hs _ ?_)
    rw [nI_add]; rfl
theorem lf_ceY {post : Int32 → Prop} (a kp : Nat → Int32) (h : post (nI (lf_S a / 2))) : wpY_edges post (a, kp) := by
  refine loop_0 (fun n i (t : Int32) => wY_edges_4 post a kp n t (nI i)) (fun i t => t = nI (lf_sm (fun i => lf_ct (bt (a i)) 12) i)) 12 0 rfl ?_ ?_
  · rintro n t rfl
    refine br_t lf_e12 ⟨by decide, ?_⟩
    rw [← lf_half] at h
    exact h
  · rintro n i t hi rfl hs
    refine br_f (lf_12 hi) ⟨lf_v12 hi, ?_⟩
    rw [lf_cl hi]
    refine lf_szY a kp _ (nm_e ?_)
    refine nm_r (nI_1 i) (hs _ ?_)
    rw [nI_add]; rfl
/-! what is reached -/
theorem lf_swX {post : Int32 → Prop} {J : Int32 → Int32 → Prop} {a : Nat → Int32} {r : Nat} (s : Int32) (h : J (lf_sw a s 12) (nI (r + 1))) : ∃ n, wX_reachable_15 post J (nI r) a n s 0 := by
  refine loop_0 (fun n i (t : Int32) => wX_reachable_15 post J (nI r) a n t (nI i)) (fun i t => t = lf_sw a s i) 12 s rfl ?_ ?_
  · rintro n t rfl
    exact br_t lf_e12 (nm_r (nI_1 r) h)
  · rintro n i t hi rfl hs
    refine br_f (lf_12 hi) (lf_hX hi (fun q => br_f (by decide) ⟨lf_v12 hi, ?_⟩) (fun q => br_t rfl ?_))
    · rw [lf_cl hi]
      exact nm_e (nm_r (nI_1 i) (hs _ (lf_sw_t q).symm))
    · exact nm_r (nI_1 i) (hs _ (lf_sw_f q).symm)
theorem lf_swY {post : Int32 → Prop} {J : Int32 → Int32 → Prop} {a kp : Nat → Int32} {r : Nat} (s : Int32) (h : J (lf_sw a s 12) (nI (r + 1))) : ∃ n, wY_walk_15 post J (nI r) a kp n s 0 := by
  refine loop_0 (fun n i (t : Int32) => wY_walk_15 post J (nI r) a kp n t (nI i)) (fun i t => t = lf_sw a s i) 12 s rfl ?_ ?_
  · rintro n t rfl
    exact br_t lf_e12 (nm_r (nI_1 r) h)
  · rintro n i t hi rfl hs
    refine br_f (lf_12 hi) (lf_hY hi (fun q => br_f (by decide) ⟨lf_v12 hi, ?_⟩) (fun q => br_t rfl ?_))
    · rw [lf_cl hi]
      exact nm_e (nm_r (nI_1 i) (hs _ (lf_sw_t q).symm))
    · exact nm_r (nI_1 i) (hs _ (lf_sw_f q).symm)
theorem lf_rcX {post : Int32 → Prop} {a : Nat → Int32} {u : Nat} (h : post (lf_rc a u)) : wpX_reachable post a (nI u) := by
  refine nm_e ?_
  refine loop_0 (fun n i (t : Int32) => wX_reachable_6 post a n t (nI (i + 1))) (fun i t => t = lf_it a (lf_bit u) i) 11 (lf_bit u) rfl ?_ ?_
  · rintro n t rfl
    exact br_t lf_e12 h
  · rintro n i t hi rfl hs
    exact br_f (lf_12 (by omega)) (lf_swX _ (hs _ rfl))
theorem lf_rcY {post : Int32 → Prop} {a kp : Nat → Int32} (G : lf_Gr a) {u : Nat} (hu : u < 12) (h : post (lf_rc a u)) : wpY_walk post (a, kp) (nI u) := by
  refine nm_e ?_
  refine loop_0 (fun n i (t : Int32) => wY_walk_6 post a kp n t (nI i)) (fun i t => t = lf_it a (lf_bit u) i) 12 (lf_bit u) rfl ?_ ?_
  · rintro n t rfl
    rw [← lf_rc12 G hu] at h
    exact br_t lf_e12 h
  · rintro n i t hi rfl hs
    exact br_f (lf_12 hi) (lf_swY _ (hs _ rfl))
theorem lf_jX {post : Int32 → Prop} {a : Nat → Int32} {u v : Nat} (hv : v < 12) (ht : bt (lf_rc a u) v = true → post 1) (hf : bt (lf_rc a u) v = false → post 0) : wpX_areJoined post a (nI u) (nI v) := by
  unfold wpX_areJoined
  exact lf_rcX (lf_hX hv (fun q => ⟨rfl, ht q⟩) (fun q => ⟨rfl, hf q⟩))
theorem lf_jY {post : Int32 → Prop} {a kp : Nat → Int32} (G : lf_Gr a) {u v : Nat} (hu : u < 12) (hv : v < 12) (ht : bt (lf_rc a u) v = true → post 1) (hf : bt (lf_rc a u) v = false → post 0) : wpY_connected post (a, kp) (nI u) (nI v) := by
  unfold wpY_connected
  dsimp only
  refine lf_isY_t hu (br_f (by decide) (lf_isY_t hv (br_f (by decide) ?_)))
  exact lf_rcY G hu (lf_hY hv (fun q => ⟨rfl, ht q⟩) (fun q => ⟨rfl, hf q⟩))
/-! edges put and taken -/
theorem lf_adX {post : SX → Prop} {a : Nat → Int32} {u v : Nat} (hu : u < 12) (hv : v < 12) (h : post (lf_put a u v)) : wpX_addEdge post a (nI u) (nI v) := by
  unfold wpX_addEdge
  rw [lf_cl hu, lf_cl hv]
  exact ⟨lf_v12 hu, lf_v12 hu, nm_e ⟨lf_v12 hv, lf_v12 hv, nm_e h⟩⟩
theorem lf_adY {post : SY → Prop} {a kp : Nat → Int32} {u v : Nat} (hu : u < 12) (hv : v < 12) (h : post (lf_put a u v, kp)) : wpY_put post (a, kp) (nI u) (nI v) := by
  unfold wpY_put
  dsimp only
  rw [lf_cl hu, lf_cl hv]
  exact ⟨lf_v12 hu, lf_v12 hu, nm_e ⟨lf_v12 hv, lf_v12 hv, nm_e h⟩⟩
theorem lf_rmX {post : SX → Prop} {a : Nat → Int32} {u v : Nat} (hu : u < 12) (hv : v < 12) (h : post (lf_take a u v)) : wpX_removeEdge post a (nI u) (nI v) := by
  unfold wpX_removeEdge
  rw [lf_cl hu, lf_cl hv]
  exact ⟨lf_v12 hu, lf_v12 hu, nm_e ⟨lf_v12 hv, lf_v12 hv, nm_e h⟩⟩
theorem lf_rmY {post : SY → Prop} {a kp : Nat → Int32} {u v : Nat} (hu : u < 12) (hv : v < 12) (h : post (lf_take a u v, kp)) : wpY_take post (a, kp) (nI u) (nI v) := by
  unfold wpY_take
  dsimp only
  rw [lf_cl hu, lf_cl hv]
  exact ⟨lf_v12 hu, lf_v12 hu, nm_e ⟨lf_v12 hv, lf_v12 hv, nm_e h⟩⟩
/-! the number of parts -/
theorem lf_cpX {post : Int32 → Prop} {a : Nat → Int32} (G : lf_Gr a) (h : post (nI (lf_C a))) : wpX_countParts post a := by
  refine loop_0 (fun n i (t : Int32 × Int32) => wX_countParts_6 post a n t.1 t.2 (nI i)) (fun i t => (∀ j, bt t.1 j = true ↔ ∃ w, w < i ∧ lf_Cn a w j) ∧ t.2 = nI (lf_ct (lf_ls a) i)) 12 (0, 0) ⟨fun j => ?_, rfl⟩ ?_ ?_
  · rw [b_0]
    exact ⟨fun z => (by cases z), fun ⟨w, z, _⟩ => (by omega)⟩
  · rintro n ⟨s, t⟩ ⟨_, ht⟩
    dsimp only at ht ⊢
    subst ht
    exact br_t lf_e12 h
  · rintro n i ⟨s, t⟩ hi ⟨hb, ht⟩ hs
    dsimp only at hb ht ⊢
    subst ht
    refine br_f (lf_12 hi) (lf_hX hi (fun q => br_f (by decide) ?_) (fun q => br_t rfl (lf_rcX (nm_e ?_))))
    · obtain ⟨w, hw, c⟩ := (hb i).mp q
      refine nm_r (nI_1 i) (hs (s, nI (lf_ct (lf_ls a) i)) ⟨fun j => ?_, ?_⟩)
      · rw [hb j]
        constructor
        · rintro ⟨x, hx, k⟩
          exact ⟨x, by omega, k⟩
        · rintro ⟨x, hx, k⟩
          by_cases e : x = i
          · subst e
            exact ⟨w, hw, lf_cn_tr c k⟩
          · exact ⟨x, by omega, k⟩
      · have : lf_ls a i = false := by
          cases z : lf_ls a i
          · rfl
          · exact absurd (lf_cn_sy G c) ((lf_ls_iff G hi).mp z w hw)
        rw [lf_ct_f this]
    · rw [nI_1]
      refine nm_e (nm_r (nI_1 i) (hs (s ||| lf_rc a i, nI (lf_ct (lf_ls a) i + 1)) ⟨fun j => ?_, ?_⟩))
      · show bt (s ||| lf_rc a i) j = true ↔ _
        rw [b_or, Bool.or_eq_true, hb j, lf_rc_iff G hi]
        constructor
        · rintro (⟨x, hx, k⟩ | k)
          · exact ⟨x, by omega, k⟩
          · exact ⟨i, by omega, k⟩
        · rintro ⟨x, hx, k⟩
          by_cases e : x = i
          · subst e
            exact Or.inr k
          · exact Or.inl ⟨x, by omega, k⟩
      · have : lf_ls a i = true := (lf_ls_iff G hi).mpr fun j hj c => by
          rw [(hb i).mpr ⟨j, hj, lf_cn_sy G c⟩] at q
          cases q
        rw [lf_ct_t this]
theorem lf_lowz (s : Int32) {u : Nat} (hu : u < 12) : s &&& (lf_bit u - 1) = 0 ↔ lf_ct (bt s) u = 0 := by
  rw [lf_ct_zero]
  constructor
  · intro h i hi
    have : bt (s &&& (lf_bit u - 1)) i = bt 0 i := by rw [h]
    rw [b_and, lf_low u hu i (by omega), b_0, decide_eq_true hi, Bool.and_true] at this
    exact this
  · intro h
    refine b_ext fun i hi => ?_
    rw [b_and, lf_low u hu i hi, b_0]
    by_cases e : i < u
    · rw [h i e]; rfl
    · rw [decide_eq_false e, Bool.and_false]
theorem lf_cpY {post : Int32 → Prop} {a kp : Nat → Int32} (G : lf_Gr a) (h : post (nI (lf_C a))) : wpY_parts post (a, kp) := by
  refine loop_0 (fun n i (t : Int32) => wY_parts_4 post a kp n t (nI i)) (fun i t => t = nI (lf_ct (lf_ls a) i)) 12 0 rfl ?_ ?_
  · rintro n t rfl
    exact br_t lf_e12 h
  · rintro n i t hi rfl hs
    refine br_f (lf_12 hi) (lf_rcY G hi ?_)
    cases z : lf_ls a i
    · have : ¬ (lf_rc a i) &&& (lf_bit i - 1) = 0 := fun k => by
        have y : lf_ls a i = true := decide_eq_true ((lf_lowz _ hi).mp k)
        rw [z] at y; cases y
      refine br_f this (nm_r (nI_1 i) (hs _ ?_))
      rw [lf_ct_f z]
    · have : (lf_rc a i) &&& (lf_bit i - 1) = 0 := (lf_lowz _ hi).mpr (of_decide_eq_true z)
      refine br_t this (nm_e (nm_r (nI_1 i) (hs _ ?_)))
      rw [nI_1, lf_ct_t z]
