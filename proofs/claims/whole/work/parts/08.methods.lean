/-! ===== the public methods, each side against the pure picture ===== -/
theorem lf_tf {b : Bool} {p : Prop} (h : b = true) (h' : b = false) : p := by rw [h] at h'; cases h'
def lf_Pr (x y : Int32) : Prop := ∃ u v : Nat, u < 12 ∧ v < 12 ∧ u ≠ v ∧ x = nI u ∧ y = nI v
theorem lf_nne {u v : Nat} (hu : u < 12) (hv : v < 12) (h : u ≠ v) : ¬ nI u = nI v := fun z => h ((nI_eq (by omega) (by omega)).mp z)
theorem lf_cbX_t {post : Int32 → Prop} {u v : Nat} (hu : u < 12) (hv : v < 12) (h : u ≠ v) (p : post 1) : wpX_canBeEdge post (nI u) (nI v) := by
  unfold wpX_canBeEdge
  exact lf_isX_t hu (br_f (by decide) (lf_isX_t hv (br_f (by decide) (br_f (lf_nne hu hv h) p))))
theorem lf_cbX_f {post : Int32 → Prop} {x y : Int32} (h : ¬ lf_Pr x y) (p : post 0) : wpX_canBeEdge post x y := by
  unfold wpX_canBeEdge
  by_cases hu : lf_Pt x
  · obtain ⟨u, hu, rfl⟩ := hu
    refine lf_isX_t hu (br_f (by decide) ?_)
    by_cases hv : lf_Pt y
    · obtain ⟨v, hv, rfl⟩ := hv
      exact lf_isX_t hv (br_f (by decide) (br_t (Classical.byContradiction fun z => h ⟨u, v, hu, hv, fun e => z (by rw [e]), rfl, rfl⟩) p))
    · exact lf_isX_f hv (br_t rfl p)
  · exact lf_isX_f hu (br_t rfl p)
theorem lf_cbY_t {p Q : Prop} {a kp : Nat → Int32} {u v : Nat} (hu : u < 12) (hv : v < 12) (h : u ≠ v) (q : Q) : wpY_isPoint (fun r_1 => (((r_1 = 0 → p) ∧ (¬ r_1 = 0 → (wpY_isPoint (fun r_5 => (((r_5 = 0 → p) ∧ (¬ r_5 = 0 → (((nI u = nI v → p) ∧ (¬ nI u = nI v → Q))))))) (a, kp) (nI v)))))) (a, kp) (nI u) :=
  lf_isY_t hu (br_f (by decide) (lf_isY_t hv (br_f (by decide) (br_f (lf_nne hu hv h) q))))
theorem lf_cbY_f {p Q : Prop} {a kp : Nat → Int32} {x y : Int32} (h : ¬ lf_Pr x y) (hp : p) : wpY_isPoint (fun r_1 => (((r_1 = 0 → p) ∧ (¬ r_1 = 0 → (wpY_isPoint (fun r_5 => (((r_5 = 0 → p) ∧ (¬ r_5 = 0 → (((x = y → p) ∧ (¬ x = y → Q))))))) (a, kp) y))))) (a, kp) x := by
  by_cases hu : lf_Pt x
  · obtain ⟨u, hu, rfl⟩ := hu
    refine lf_isY_t hu (br_f (by decide) ?_)
    by_cases hv : lf_Pt y
    · obtain ⟨v, hv, rfl⟩ := hv
      exact lf_isY_t hv (br_f (by decide) (br_t (Classical.byContradiction fun z => h ⟨u, v, hu, hv, fun e => z (by rw [e]), rfl, rfl⟩) hp))
    · exact lf_isY_f hv (br_t rfl hp)
  · exact lf_isY_f hu (br_t rfl hp)
/-! link -/
theorem lf_lkX {post : Int32 → SX → Prop} {a : Nat → Int32} {x y : Nat} (hx : x < 12) (hy : y < 12) (hn : x ≠ y) (hS : lf_S a / 2 ≤ 30) (h0 : bt (a x) y = true → post 0 a) (h1 : bt (a x) y = false → lf_S a / 2 = 30 → post (-2) a) (h2 : bt (a x) y = false → lf_S a / 2 ≠ 30 → bt (lf_rc a x) y = true → post 1 (lf_put a x y)) (h3 : bt (a x) y = false → lf_S a / 2 ≠ 30 → bt (lf_rc a x) y = false → post 2 (lf_put a x y)) : wpX_link post a (nI x) (nI y) := by
  unfold wpX_link
  refine lf_cbX_t hx hy hn (br_f (by decide) (lf_heX hx hy (fun q => br_f (by decide) (h0 q)) (fun q => br_t rfl (lf_ceX a ?_))))
  refine pk_lt (lf_S a / 2) 30 (fun hl => ?_) (fun hl => h1 q (by omega))
  exact lf_jX hy (fun c => lf_adX hx hy (br_f (by decide) (h2 q (by omega) c))) (fun c => lf_adX hx hy (br_t rfl (h3 q (by omega) c)))
theorem lf_lkY {post : Int32 → SY → Prop} {a kp : Nat → Int32} (G : lf_Gr a) {x y : Nat} (hx : x < 12) (hy : y < 12) (hn : x ≠ y) (hS : lf_S a / 2 ≤ 30) (h0 : bt (a x) y = true → post 0 (a, kp)) (h1 : bt (a x) y = false → lf_S a / 2 = 30 → post (-2) (a, kp)) (h2 : bt (a x) y = false → lf_S a / 2 ≠ 30 → bt (lf_rc a x) y = true → post 1 (lf_put a x y, kp)) (h3 : bt (a x) y = false → lf_S a / 2 ≠ 30 → bt (lf_rc a x) y = false → post 2 (lf_put a x y, kp)) : wpY_link post (a, kp) (nI x) (nI y) := by
  unfold wpY_link
  dsimp only
  refine lf_cbY_t hx hy hn ⟨lf_v12 hx, ?_⟩
  rw [lf_cl hx]
  refine lf_hY hy (fun q => br_f (by decide) (h0 q)) (fun q => br_t rfl (lf_ceY a kp ?_))
  refine pk_eq (lf_S a / 2) 30 (fun hl => h1 q hl) (fun hl => ?_)
  exact lf_jY G hx hy (fun c => lf_adY hx hy (br_f (by decide) (h2 q hl c))) (fun c => lf_adY hx hy (br_t rfl (h3 q hl c)))
/-! cut -/
theorem lf_cuX {post : Int32 → SX → Prop} {a : Nat → Int32} {x y : Nat} (hx : x < 12) (hy : y < 12) (hn : x ≠ y) (h0 : bt (a x) y = false → post 0 a) (h1 : bt (a x) y = true → bt (lf_rc (lf_take a x y) x) y = true → post 1 (lf_take a x y)) (h2 : bt (a x) y = true → bt (lf_rc (lf_take a x y) x) y = false → post 2 (lf_take a x y)) : wpX_cut post a (nI x) (nI y) := by
  unfold wpX_cut
  refine lf_cbX_t hx hy hn (br_f (by decide) (lf_heX hx hy (fun q => br_f (by decide) ?_) (fun q => br_t rfl (h0 q))))
  exact lf_rmX hx hy (lf_jX hy (fun c => br_f (by decide) (h1 q c)) (fun c => br_t rfl (h2 q c)))
theorem lf_cuY {post : Int32 → SY → Prop} {a kp : Nat → Int32} (G : lf_Gr a) {x y : Nat} (hx : x < 12) (hy : y < 12) (hn : x ≠ y) (h0 : bt (a x) y = false → post 0 (a, kp)) (h1 : bt (a x) y = true → bt (lf_rc (lf_take a x y) x) y = true → post 1 (lf_take a x y, kp)) (h2 : bt (a x) y = true → bt (lf_rc (lf_take a x y) x) y = false → post 2 (lf_take a x y, kp)) : wpY_cut post (a, kp) (nI x) (nI y) := by
  unfold wpY_cut
  dsimp only
  refine lf_cbY_t hx hy hn ⟨lf_v12 hx, ?_⟩
  rw [lf_cl hx]
  refine lf_hY hy (fun q => br_f (by decide) (lf_rmY hx hy ?_)) (fun q => br_t rfl (h0 q))
  exact lf_jY (lf_take_g G hx hy hn) hx hy (fun c => br_f (by decide) (h1 q c)) (fun c => br_t rfl (h2 q c))
/-! isBridge -/
theorem lf_ibX {post : Int32 → SX → Prop} {a : Nat → Int32} (G : lf_Gr a) {u v : Nat} (hu : u < 12) (hv : v < 12) (hn : u ≠ v) (h0 : ¬ lf_Ed a u v → post 0 a) (h1 : lf_Ed a u v → ¬ lf_Cn (lf_take a u v) u v → post 1 a) (h2 : lf_Ed a u v → lf_Cn (lf_take a u v) u v → post 0 a) : wpX_isBridge post a (nI u) (nI v) := by
  unfold wpX_isBridge
  have G' := lf_take_g G hu hv hn
  refine lf_cbX_t hu hv hn (br_f (by decide) (lf_heX hu hv (fun q => br_f (by decide) (lf_rmX hu hv ?_)) (fun q => br_t rfl (h0 fun z => lf_tf z.2 q))))
  refine lf_jX hv (fun c => lf_adX hu hv (br_f (by decide) ?_)) (fun c => lf_adX hu hv (br_t rfl ?_))
  · rw [lf_put_take G ⟨hu, q⟩]
    exact h2 ⟨hu, q⟩ ((lf_rc_iff G' hu v).mp c)
  · rw [lf_put_take G ⟨hu, q⟩]
    exact h1 ⟨hu, q⟩ fun z => lf_tf ((lf_rc_iff G' hu v).mpr z) c
/-! isolate -/
def lf_iso (a : Nat → Int32) (u : Nat) : Nat → Nat → Int32
  | 0 => a
  | n + 1 => if bt (lf_iso a u n u) n = true then lf_take (lf_iso a u n) u n else lf_iso a u n
theorem lf_iso_t {a : Nat → Int32} {u n : Nat} (h : bt (lf_iso a u n u) n = true) : lf_iso a u (n + 1) = lf_take (lf_iso a u n) u n := if_pos h
theorem lf_iso_f {a : Nat → Int32} {u n : Nat} (h : bt (lf_iso a u n u) n = false) : lf_iso a u (n + 1) = lf_iso a u n := if_neg (by rw [h]; decide)
theorem lf_iso_g {a : Nat → Int32} (G : lf_Gr a) {u : Nat} (hu : u < 12) : ∀ n, n ≤ 12 → lf_Gr (lf_iso a u n) ∧ lf_S (lf_iso a u n) ≤ lf_S a := by
  intro n
  induction n with
  | zero => intro _; exact ⟨G, Nat.le_refl _⟩
  | succ n ih =>
    intro hn
    obtain ⟨g, hS⟩ := ih (by omega)
    cases q : bt (lf_iso a u n u) n
    · rw [lf_iso_f q]; exact ⟨g, hS⟩
    · rw [lf_iso_t q]
      have e : lf_Ed (lf_iso a u n) u n := ⟨hu, q⟩
      have := lf_take_S g e
      exact ⟨lf_take_g g hu (by omega) (lf_ed_ne g e), by omega⟩
theorem lf_isoX {post : Int32 → SX → Prop} {a : Nat → Int32} (G : lf_Gr a) {u : Nat} (hu : u < 12) (h : post (nI (lf_C (lf_iso a u 12)) - nI (lf_C a)) (lf_iso a u 12)) : wpX_isolate post a (nI u) := by
  unfold wpX_isolate
  refine lf_isX_t hu (br_f (by decide) (lf_cpX G ?_))
  refine loop_0 (fun n i (b : Nat → Int32) => wX_isolate_16 post (nI u) (nI (lf_C a)) n (nI i) b) (fun i b => b = lf_iso a u i) 12 a rfl ?_ ?_
  · rintro n b rfl
    exact br_t lf_e12 (lf_cpX (lf_iso_g G hu 12 (by omega)).1 h)
  · rintro n i b hi rfl hs
    refine br_f (lf_12 hi) (lf_heX hu hi (fun q => br_f (by decide) (lf_rmX hu hi ?_)) (fun q => br_t rfl ?_))
    · exact nm_r (nI_1 i) (hs _ (lf_iso_t q).symm)
    · exact nm_r (nI_1 i) (hs _ (lf_iso_f q).symm)
theorem lf_isoY {post : Int32 → SY → Prop} {a kp : Nat → Int32} (G : lf_Gr a) {u : Nat} (hu : u < 12) (h : post (nI (lf_C (lf_iso a u 12)) - nI (lf_C a)) (lf_iso a u 12, kp)) : wpY_isolate post (a, kp) (nI u) := by
  unfold wpY_isolate
  dsimp only
  refine lf_isY_t hu (br_f (by decide) (lf_cpY G ?_))
  refine loop_0 (fun n i (b : Nat → Int32) => wY_isolate_17 post (nI u) (nI (lf_C a)) n (nI i) b kp) (fun i b => b = lf_iso a u i) 12 a rfl ?_ ?_
  · rintro n b rfl
    exact br_t lf_e12 (lf_cpY (lf_iso_g G hu 12 (by omega)).1 h)
  · rintro n i b hi rfl hs
    refine br_f (lf_12 hi) ⟨lf_v12 hu, ?_⟩
    rw [lf_cl hu]
    refine lf_hY hi (fun q => br_f (by decide) (lf_rmY hu hi ?_)) (fun q => br_t rfl ?_)
    · exact nm_r (nI_1 i) (hs _ (lf_iso_t q).symm)
    · exact nm_r (nI_1 i) (hs _ (lf_iso_f q).symm)
/-! greatest -/
def lf_gt (a : Nat → Int32) : Nat → Int32
  | 0 => 0
  | n + 1 => if nI (lf_ct (bt (lf_rc a n)) 12) ≤ lf_gt a n then lf_gt a n else nI (lf_ct (bt (lf_rc a n)) 12)
theorem lf_gtX {post : Int32 → Prop} {a : Nat → Int32} (h : post (lf_gt a 12)) : wpX_greatest post a := by
  refine loop_0 (fun n i (t : Int32) => wX_greatest_4 post a n t (nI i)) (fun i t => t = lf_gt a i) 12 0 rfl ?_ ?_
  · intro n t ht
    refine br_t lf_e12 ?_
    rw [ht]
    exact h
  · rintro n i t hi rfl hs
    refine br_f (lf_12 hi) (lf_rcX (lf_szX _ ?_))
    by_cases e : nI (lf_ct (bt (lf_rc a i)) 12) ≤ lf_gt a i
    · exact br_t e (nm_r (nI_1 i) (hs _ (if_pos e).symm))
    · exact br_f e (nm_r (nI_1 i) (hs _ (if_neg e).symm))
theorem lf_gtY {post : Int32 → Prop} {a kp : Nat → Int32} (G : lf_Gr a) (h : post (lf_gt a 12)) : wpY_greatest post (a, kp) := by
  refine loop_0 (fun n i (t : Int32) => wY_greatest_4 post a kp n t (nI i)) (fun i t => t = lf_gt a i) 12 0 rfl ?_ ?_
  · intro n t ht
    refine br_t lf_e12 ?_
    rw [ht]
    exact h
  · rintro n i t hi rfl hs
    refine br_f (lf_12 hi) (lf_rcY G hi (lf_szY a kp _ ?_))
    by_cases e : nI (lf_ct (bt (lf_rc a i)) 12) ≤ lf_gt a i
    · exact br_t e (nm_r (nI_1 i) (hs _ (if_pos e).symm))
    · exact br_f e (nm_r (nI_1 i) (hs _ (if_neg e).symm))
