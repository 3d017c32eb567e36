/-- the class's sets of neighbours are the reference's; they are a graph on 12 points, of at most 30 edges -/
def i_Rel (k : Nat) (u : SX) (v : SY) : Prop := ∃ kp : Nat → Int32, v = (u, kp) ∧ lf_Gr u ∧ lf_S u / 2 ≤ 30
theorem lf_mk {k : Nat} {a kp : Nat → Int32} (G : lf_Gr a) (h : lf_S a / 2 ≤ 30) : i_Rel k a (a, kp) := ⟨kp, rfl, G, h⟩
theorem i_up {k : Nat} {u : SX} {v : SY} (h : i_Rel k u v) : i_Rel (k + 3) u v := h
theorem i_vc0 : wpX_init (fun u => wpY_init (fun v => i_Rel 0 u v)) := by
  refine lf_mk (k := 0) (fun x y e => lf_tf e.2 (b_0 y)) ?_
  have : lf_S (fun _ => 0) = 0 := lf_sm_zero 12 fun i _ => (lf_ct_zero 12).mpr fun j _ => b_0 j
  rw [this]
  omega
theorem i_vc_link {k : Nat} {u : SX} {v : SY} (I : i_Rel k u v) (hk : k + 3 ≤ 1536) (v1 : Int32) (v2 : Int32) : wpX_link (fun r u' => wpY_link (fun r' v' => r' = r ∧ i_Rel (k + 3) u' v') v v1 v2) u v1 v2 := by
  obtain ⟨kp, rfl, G, hS⟩ := I
  by_cases h : lf_Pr v1 v2
  · obtain ⟨x, y, hx, hy, hn, rfl, rfl⟩ := h
    have hP : bt (u x) y = false → lf_S u / 2 ≠ 30 → lf_S (lf_put u x y) / 2 ≤ 30 := fun q z => by
      rw [lf_put_S G hx hy hn q]; omega
    refine lf_lkX hx hy hn hS (fun q => ?_) (fun q z => ?_) (fun q z c => ?_) (fun q z c => ?_)
    · exact lf_lkY G hx hy hn hS (fun _ => ⟨rfl, lf_mk G hS⟩) (fun q' => lf_tf q q') (fun q' => lf_tf q q') (fun q' => lf_tf q q')
    · exact lf_lkY G hx hy hn hS (fun q' => lf_tf q' q) (fun _ _ => ⟨rfl, lf_mk G hS⟩) (fun _ z' => absurd z z') (fun _ z' => absurd z z')
    · exact lf_lkY G hx hy hn hS (fun q' => lf_tf q' q) (fun _ z' => absurd z' z) (fun _ _ _ => ⟨rfl, lf_mk (lf_put_g G hx hy hn) (hP q z)⟩) (fun _ _ c' => lf_tf c c')
    · exact lf_lkY G hx hy hn hS (fun q' => lf_tf q' q) (fun _ z' => absurd z' z) (fun _ _ c' => lf_tf c' c) (fun _ _ _ => ⟨rfl, lf_mk (lf_put_g G hx hy hn) (hP q z)⟩)
  · unfold wpX_link
    refine lf_cbX_f h (br_t rfl ?_)
    unfold wpY_link
    dsimp only
    exact lf_cbY_f h ⟨rfl, lf_mk G hS⟩
theorem i_vc_cut {k : Nat} {u : SX} {v : SY} (I : i_Rel k u v) (hk : k + 3 ≤ 1536) (v1 : Int32) (v2 : Int32) : wpX_cut (fun r u' => wpY_cut (fun r' v' => r' = r ∧ i_Rel (k + 3) u' v') v v1 v2) u v1 v2 := by
  obtain ⟨kp, rfl, G, hS⟩ := I
  by_cases h : lf_Pr v1 v2
  · obtain ⟨x, y, hx, hy, hn, rfl, rfl⟩ := h
    have hT : bt (u x) y = true → lf_S (lf_take u x y) / 2 ≤ 30 := fun q => by
      have := lf_take_S G ⟨hx, q⟩
      omega
    refine lf_cuX hx hy hn (fun q => ?_) (fun q c => ?_) (fun q c => ?_)
    · exact lf_cuY G hx hy hn (fun _ => ⟨rfl, lf_mk G hS⟩) (fun q' => lf_tf q' q) (fun q' => lf_tf q' q)
    · exact lf_cuY G hx hy hn (fun q' => lf_tf q q') (fun _ _ => ⟨rfl, lf_mk (lf_take_g G hx hy hn) (hT q)⟩) (fun _ c' => lf_tf c c')
    · exact lf_cuY G hx hy hn (fun q' => lf_tf q q') (fun _ c' => lf_tf c' c) (fun _ _ => ⟨rfl, lf_mk (lf_take_g G hx hy hn) (hT q)⟩)
  · unfold wpX_cut
    refine lf_cbX_f h (br_t rfl ?_)
    unfold wpY_cut
    dsimp only
    exact lf_cbY_f h ⟨rfl, lf_mk G hS⟩
theorem i_vc_connected {k : Nat} {u : SX} {v : SY} (I : i_Rel k u v) (hk : k + 3 ≤ 1536) (v1 : Int32) (v2 : Int32) : wpX_connected (fun r => wpY_connected (fun r' => r' = r ∧ i_Rel (k + 3) u v) v v1 v2) u v1 v2 := by
  obtain ⟨kp, rfl, G, hS⟩ := I
  unfold wpX_connected
  by_cases h1 : lf_Pt v1
  · obtain ⟨x, hx, rfl⟩ := h1
    refine lf_isX_t hx (br_f (by decide) ?_)
    by_cases h2 : lf_Pt v2
    · obtain ⟨y, hy, rfl⟩ := h2
      refine lf_isX_t hy (br_f (by decide) (lf_jX hy (fun c => br_f (by decide) ?_) (fun c => br_t rfl ?_)))
      · exact lf_jY G hx hy (fun _ => ⟨rfl, lf_mk G hS⟩) (fun c' => lf_tf c c')
      · exact lf_jY G hx hy (fun c' => lf_tf c' c) (fun _ => ⟨rfl, lf_mk G hS⟩)
    · refine lf_isX_f h2 (br_t rfl ?_)
      unfold wpY_connected
      dsimp only
      exact lf_isY_t hx (br_f (by decide) (lf_isY_f h2 (br_t rfl ⟨rfl, lf_mk G hS⟩)))
  · refine lf_isX_f h1 (br_t rfl ?_)
    unfold wpY_connected
    dsimp only
    exact lf_isY_f h1 (br_t rfl ⟨rfl, lf_mk G hS⟩)
theorem i_vc_part {k : Nat} {u : SX} {v : SY} (I : i_Rel k u v) (hk : k + 3 ≤ 1536) (v1 : Int32) : wpX_part (fun r => wpY_part (fun r' => r' = r ∧ i_Rel (k + 3) u v) v v1) u v1 := by
  obtain ⟨kp, rfl, G, hS⟩ := I
  unfold wpX_part wpY_part
  dsimp only
  by_cases h1 : lf_Pt v1
  · obtain ⟨x, hx, rfl⟩ := h1
    exact lf_isX_t hx (br_f (by decide) (lf_rcX (lf_isY_t hx (br_f (by decide) (lf_rcY G hx ⟨rfl, lf_mk G hS⟩)))))
  · exact lf_isX_f h1 (br_t rfl (lf_isY_f h1 (br_t rfl ⟨rfl, lf_mk G hS⟩)))
theorem i_vc_parts {k : Nat} {u : SX} {v : SY} (I : i_Rel k u v) (hk : k + 3 ≤ 1536) : wpX_parts (fun r => wpY_parts (fun r' => r' = r ∧ i_Rel (k + 3) u v) v) u := by
  obtain ⟨kp, rfl, G, hS⟩ := I
  unfold wpX_parts
  exact lf_cpX G (lf_cpY G ⟨rfl, lf_mk G hS⟩)
theorem i_vc_isEdge {k : Nat} {u : SX} {v : SY} (I : i_Rel k u v) (hk : k + 3 ≤ 1536) (v1 : Int32) (v2 : Int32) : wpX_isEdge (fun r => wpY_isEdge (fun r' => r' = r ∧ i_Rel (k + 3) u v) v v1 v2) u v1 v2 := by
  obtain ⟨kp, rfl, G, hS⟩ := I
  unfold wpX_isEdge
  by_cases h : lf_Pr v1 v2
  · obtain ⟨x, y, hx, hy, hn, rfl, rfl⟩ := h
    refine lf_cbX_t hx hy hn (br_f (by decide) (lf_heX hx hy (fun q => br_f (by decide) ?_) (fun q => br_t rfl ?_)))
    · exact lf_ieY hx hy (fun _ => ⟨rfl, lf_mk G hS⟩) (fun z => absurd ⟨hx, q⟩ z)
    · exact lf_ieY hx hy (fun z => lf_tf z.2 q) (fun _ => ⟨rfl, lf_mk G hS⟩)
  · refine lf_cbX_f h (br_t rfl ?_)
    by_cases h1 : lf_Pt v1
    · obtain ⟨x, hx, rfl⟩ := h1
      by_cases h2 : lf_Pt v2
      · obtain ⟨y, hy, rfl⟩ := h2
        exact lf_ieY hx hy (fun z => absurd ⟨x, y, hx, hy, lf_ed_ne G z, rfl, rfl⟩ h) (fun _ => ⟨rfl, lf_mk G hS⟩)
      · unfold wpY_isEdge
        dsimp only
        exact lf_isY_t hx (br_f (by decide) (lf_isY_f h2 (br_t rfl ⟨rfl, lf_mk G hS⟩)))
    · unfold wpY_isEdge
      dsimp only
      exact lf_isY_f h1 (br_t rfl ⟨rfl, lf_mk G hS⟩)
theorem i_vc_isBridge {k : Nat} {u : SX} {v : SY} (I : i_Rel k u v) (hk : k + 3 ≤ 1536) (v1 : Int32) (v2 : Int32) : wpX_isBridge (fun r u' => wpY_isBridge (fun r' v' => r' = r ∧ i_Rel (k + 3) u' v') v v1 v2) u v1 v2 := by
  obtain ⟨kp, rfl, G, hS⟩ := I
  by_cases h : lf_Pr v1 v2
  · obtain ⟨x, y, hx, hy, hn, rfl, rfl⟩ := h
    refine lf_ibX G hx hy hn (fun e => ?_) (fun e c => ?_) (fun e c => ?_)
    · exact lf_ibY G hx hy (fun _ => ⟨rfl, lf_mk G hS⟩) (fun z => absurd z e) (fun z => absurd z e)
    · exact lf_ibY G hx hy (fun z => absurd e z) (fun _ _ => ⟨rfl, lf_mk G hS⟩) (fun _ c' => absurd c' c)
    · exact lf_ibY G hx hy (fun z => absurd e z) (fun _ c' => absurd c c') (fun _ _ => ⟨rfl, lf_mk G hS⟩)
  · unfold wpX_isBridge
    refine lf_cbX_f h (br_t rfl ?_)
    by_cases h1 : lf_Pt v1
    · obtain ⟨x, hx, rfl⟩ := h1
      by_cases h2 : lf_Pt v2
      · obtain ⟨y, hy, rfl⟩ := h2
        exact lf_ibY G hx hy (fun _ => ⟨rfl, lf_mk G hS⟩) (fun z => absurd ⟨x, y, hx, hy, lf_ed_ne G z, rfl, rfl⟩ h) (fun z => absurd ⟨x, y, hx, hy, lf_ed_ne G z, rfl, rfl⟩ h)
      · unfold wpY_isBridge
        dsimp only
        unfold wpY_isEdge
        dsimp only
        exact lf_isY_t hx (br_f (by decide) (lf_isY_f h2 (br_t rfl (br_t rfl ⟨rfl, lf_mk G hS⟩))))
    · unfold wpY_isBridge
      dsimp only
      unfold wpY_isEdge
      dsimp only
      exact lf_isY_f h1 (br_t rfl (br_t rfl ⟨rfl, lf_mk G hS⟩))
theorem i_vc_edges {k : Nat} {u : SX} {v : SY} (I : i_Rel k u v) (hk : k + 3 ≤ 1536) : wpX_edges (fun r => wpY_edges (fun r' => r' = r ∧ i_Rel (k + 3) u v) v) u := by
  obtain ⟨kp, rfl, G, hS⟩ := I
  unfold wpX_edges
  exact lf_ceX u (lf_ceY u kp ⟨rfl, lf_mk G hS⟩)
theorem i_vc_spare {k : Nat} {u : SX} {v : SY} (I : i_Rel k u v) (hk : k + 3 ≤ 1536) : wpX_spare (fun r => wpY_spare (fun r' v' => r' = r ∧ i_Rel (k + 3) u v') v) u := by
  obtain ⟨kp, rfl, G, hS⟩ := I
  unfold wpX_spare
  refine lf_cpX G (nm_e (lf_ceX u (lf_spY G fun m kp' hm => ⟨?_, lf_mk G hS⟩)))
  have hC := lf_C_le u
  have e : (12 : Int32) - nI (lf_C u) = nI (12 - lf_C u) := pk_sub (a := 12) hC
  rw [e, pk_sub (by omega)]
  exact congrArg nI (by omega)
theorem i_vc_isolate {k : Nat} {u : SX} {v : SY} (I : i_Rel k u v) (hk : k + 3 ≤ 1536) (v1 : Int32) : wpX_isolate (fun r u' => wpY_isolate (fun r' v' => r' = r ∧ i_Rel (k + 3) u' v') v v1) u v1 := by
  obtain ⟨kp, rfl, G, hS⟩ := I
  by_cases h1 : lf_Pt v1
  · obtain ⟨x, hx, rfl⟩ := h1
    obtain ⟨g, hs⟩ := lf_iso_g G hx 12 (by omega)
    exact lf_isoX G hx (lf_isoY G hx ⟨rfl, lf_mk g (by omega)⟩)
  · unfold wpX_isolate
    refine lf_isX_f h1 (br_t rfl ?_)
    unfold wpY_isolate
    dsimp only
    exact lf_isY_f h1 (br_t rfl ⟨rfl, lf_mk G hS⟩)
theorem i_vc_greatest {k : Nat} {u : SX} {v : SY} (I : i_Rel k u v) (hk : k + 3 ≤ 1536) : wpX_greatest (fun r => wpY_greatest (fun r' => r' = r ∧ i_Rel (k + 3) u v) v) u := by
  obtain ⟨kp, rfl, G, hS⟩ := I
  exact lf_gtX (lf_gtY G ⟨rfl, lf_mk G hS⟩)
