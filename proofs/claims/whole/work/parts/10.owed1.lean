/-! the relation, and the calls without groups -/
/-- digit c of the long is the reference's cell c -/
def i_Rel (_ : Nat) (u : SX) (v : SY) : Prop := cp_On u v.2.1
theorem i_up {k : Nat} {u : SX} {v : SY} (h : i_Rel k u v) : i_Rel (k + 4) u v := h
theorem i_vc0 : wpX_init (fun u => wpY_init (fun v => i_Rel 0 u v)) := fun c _ => by rw [cp_0]; rfl
/-! turn -/
theorem ox_turnF {post : Int32 → SX → Prop} {w : Int64} {x : Int32} (hx : x < 0 ∨ nI 64 ≤ x) (h : post (-1) w) : wpX_turn post w x := by
  unfold wpX_turn
  exact cx_cellF hx (br_t rfl h)
theorem ox_turnT {post : Int32 → SX → Prop} {w : Int64} {c : Nat} (hc : c < 64) (h : post (cp_I (!cp_b w c)) (w ^^^ cp_1 c)) : wpX_turn post w (nI c) := by
  unfold wpX_turn
  refine cx_cellT hc (br_f (by decide) (nm_e (cx_has hc ?_)))
  have e : cp_b (w ^^^ cp_1 c) c = !cp_b w c := cp_turnb w hc
  refine cp_Ib (fun z => ?_) (fun z => ?_)
  · have z2 : cp_b (w ^^^ cp_1 c) c = false := z
    rw [← e, z2] at h; exact h
  · have z2 : cp_b (w ^^^ cp_1 c) c = true := z
    rw [← e, z2] at h; exact h
theorem oy_turnF {post : Int32 → SY → Prop} {f : Int32} {on st me nx : Nat → Int32} {x : Int32} (hx : x < 0 ∨ nI 64 ≤ x) (h : post (-1) (f, on, st, me, nx)) : wpY_turn post (f, on, st, me, nx) x := by
  unfold wpY_turn; dsimp only
  exact cy_cellF hx (br_t rfl h)
theorem oy_turnT {post : Int32 → SY → Prop} {w : Int64} {f : Int32} {on st me nx : Nat → Int32} {c : Nat} (hR : cp_On w on) (hc : c < 64) (h : ∀ on', cp_On (w ^^^ cp_1 c) on' → post (cp_I (!cp_b w c)) (f, on', st, me, nx)) : wpY_turn post (f, on, st, me, nx) (nI c) := by
  unfold wpY_turn; dsimp only
  have vi := vp_in_nI (N := 64) hc (by decide)
  have cl : (nI c).toNatClampNeg = c := nI_clamp (by omega)
  have H := h _ (cp_turn hR hc)
  refine cy_cellT hc (br_f (by decide) ⟨vi, ?_⟩)
  rw [cl, hR c hc]
  refine cp_Ib (fun e => ⟨vi, ?_⟩) (fun e => ⟨vi, ?_⟩)
  · rw [e] at H
    rw [cl, cp_nar1]
    exact nm_e ⟨vi, br_f (by rw [pk_us]; decide) H⟩
  · rw [e] at H
    rw [cl, cp_nar0]
    exact nm_e ⟨vi, br_t (by rw [pk_us]; rfl) H⟩
theorem i_vc_turn {k : Nat} {u : SX} {v : SY} (I : i_Rel k u v) (hk : k + 4 ≤ 2048) (v1 : Int32) : wpX_turn (fun r u' => wpY_turn (fun r' v' => r' = r ∧ i_Rel (k + 4) u' v') v v1) u v1 := by
  obtain ⟨f, on, st, me, nx⟩ := v
  have hR : cp_On u on := I
  rcases cp_cell v1 with bad | ⟨c, hc, rfl⟩
  · exact ox_turnF bad (oy_turnF bad ⟨rfl, hR⟩)
  · exact ox_turnT hc (oy_turnT hR hc (fun on' h' => ⟨rfl, h'⟩))
/-! line -/
theorem cp_y8 (x : Int32) : (x < 0 ∨ (¬ x < 0 ∧ (8 : Int32) ≤ x ∧ (7 : Int32) < x)) ∨ ∃ y, y < 8 ∧ x = nI y := by
  by_cases h : x < 0
  · exact Or.inl (Or.inl h)
  · obtain ⟨j, hj, rfl⟩ := nI_of h
    by_cases g : j < 8
    · exact Or.inr ⟨j, g, rfl⟩
    · exact Or.inl (Or.inr ⟨h, nI_le (a := 8) (by omega) hj, nI_lt (a := 7) (by omega) hj⟩)
theorem cp_s256 (x : Int32) : (x < 0 ∨ (¬ x < 0 ∧ ¬ x ≤ 255)) ∨ ∃ s, s < 256 ∧ x = nI s := by
  by_cases h : x < 0
  · exact Or.inl (Or.inl h)
  · obtain ⟨j, hj, rfl⟩ := nI_of h
    by_cases g : j < 256
    · exact Or.inr ⟨j, g, rfl⟩
    · exact Or.inl (Or.inr ⟨h, nI_ge (a := 255) (by omega) hj⟩)
theorem i_vc_line {k : Nat} {u : SX} {v : SY} (I : i_Rel k u v) (hk : k + 4 ≤ 2048) (v1 : Int32) (v2 : Int32) : wpX_line (fun r u' => wpY_line (fun r' v' => r' = r ∧ i_Rel (k + 4) u' v') v v1 v2) u v1 v2 := by
  obtain ⟨f, on, st, me, nx⟩ := v
  have hR : cp_On u on := I
  rcases cp_y8 v1 with (h | ⟨h, h8, h7⟩) | ⟨y, hy, rfl⟩
  · exact br_t h (br_t h ⟨rfl, hR⟩)
  · exact br_f h (br_t h8 (br_f h (br_t h7 ⟨rfl, hR⟩)))
  · have y0 : ¬ nI y < 0 := nI_pos (by omega)
    have y8 : ¬ (8 : Int32) ≤ nI y := nI_ge (b := 8) hy (by decide)
    have y7 : ¬ (7 : Int32) < nI y := nI_nlt (a := 7) (by omega) (by decide)
    rcases cp_s256 v2 with (h | ⟨h, h5⟩) | ⟨s, hs, rfl⟩
    · exact br_f y0 (br_f y8 (br_t h (br_f y0 (br_f y7 (br_t h ⟨rfl, hR⟩)))))
    · exact br_f y0 (br_f y8 (br_f h (br_f h5 (br_f y0 (br_f y7 (br_f h (br_f h5 ⟨rfl, hR⟩)))))))
    · have s0 : ¬ nI s < 0 := nI_pos (by omega)
      have s5 : nI s ≤ 255 := nI_le (b := 255) (by omega) (by decide)
      have e8 : 8 * nI y = nI (8 * y) := pk_mul 8 y
      refine br_f y0 (br_f y8 (br_f s0 (br_t s5 (nm_r e8 (nm_e (nm_e (br_f y0 (br_f y7 (br_f s0 (br_t s5 ?_))))))))))
      exact cy_line hR hy hs (fun r on' hr hon => ⟨b_ext (fun i hi => (hr i hi).trans (cp_lnA u hy hi).symm), hon⟩)
/-! box -/
theorem cp_v01 (x : Int32) : (x < 0 ∨ (¬ x < 0 ∧ ¬ x ≤ 1)) ∨ ∃ v, x = cp_I v := by
  by_cases h : x < 0
  · exact Or.inl (Or.inl h)
  · obtain ⟨j, hj, rfl⟩ := nI_of h
    by_cases g : j < 2
    · right
      by_cases z : j = 0
      · subst z; exact ⟨false, rfl⟩
      · have : j = 1 := by omega
        subst this; exact ⟨true, rfl⟩
    · exact Or.inl (Or.inr ⟨h, nI_ge (a := 1) (by omega) hj⟩)
theorem cp_v0 : ∀ v, ¬ cp_I v < 0 := by decide
theorem cp_v1 : ∀ v, cp_I v ≤ 1 := by decide
theorem ox_boxF0 {post : Int32 → SX → Prop} {w : Int64} {x y z : Int32} (hx : x < 0 ∨ nI 64 ≤ x) (h : post (-1) w) : wpX_box post w x y z := by
  unfold wpX_box
  exact cx_cellF hx (br_t rfl h)
theorem ox_boxF1 {post : Int32 → SX → Prop} {w : Int64} {f : Nat} {y z : Int32} (hf : f < 64) (hy : y < 0 ∨ nI 64 ≤ y) (h : post (-1) w) : wpX_box post w (nI f) y z := by
  unfold wpX_box
  refine cx_cellT hf ?_
  refine br_f (c := (1 : Int32) = 0) (by decide) ?_
  exact cx_cellF hy (br_t rfl h)
theorem ox_boxF2 {post : Int32 → SX → Prop} {w : Int64} {f t : Nat} {z : Int32} (hf : f < 64) (ht : t < 64) (hz : z < 0 ∨ (¬ z < 0 ∧ ¬ z ≤ 1)) (h : post (-1) w) : wpX_box post w (nI f) (nI t) z := by
  unfold wpX_box
  refine cx_cellT hf ?_
  refine br_f (c := (1 : Int32) = 0) (by decide) ?_
  refine cx_cellT ht ?_
  refine br_f (c := (1 : Int32) = 0) (by decide) ?_
  rcases hz with hz | ⟨h0, h1⟩
  · exact br_t hz h
  · exact br_f h0 (br_f h1 h)
theorem ox_box {post : Int32 → SX → Prop} {w : Int64} {f t : Nat} {v : Bool} (hf : f < 64) (ht : t < 64) (hF : ¬ (f % 8 ≤ t % 8 ∧ f / 8 ≤ t / 8) → post (-1) w) (hT : f % 8 ≤ t % 8 → f / 8 ≤ t / 8 → ∀ w', (∀ d, d < 64 → cp_b w' d = if cp_Q f t d then v else cp_b w d) → post (nI (cp_ct (cp_b (w ^^^ w')) 64)) w') : wpX_box post w (nI f) (nI t) (cp_I v) := by
  unfold wpX_box
  refine cx_cellT hf ?_
  refine br_f (c := (1 : Int32) = 0) (by decide) ?_
  refine cx_cellT ht ?_
  refine br_f (c := (1 : Int32) = 0) (by decide) ?_
  refine br_f (cp_v0 v) (br_t (cp_v1 v) ⟨cp_n8, cp_n8, pk_lt (t % 8) (f % 8) (fun g => hF (by omega)) (fun g1 => ⟨cp_n8, cp_n8, pk_le (f / 8) (t / 8) (fun g2 => ?_) (fun g2 => hF (by omega)) (cp_div8 hf) (cp_div8 ht)⟩) (cp_rem8 ht) (cp_rem8 hf)⟩)
  refine cx_rect hf ht (fun r hr => ?_)
  cases v
  · refine br_f (by decide) ?_
    unfold wX_box_83
    refine cx_become (hT g1 g2 _ (fun d hd => ?_))
    rw [cp_and, cp_not _ hd, hr d hd]
    cases cp_Q f t d <;> simp
  · refine br_t rfl ?_
    unfold wX_box_83
    refine cx_become (hT g1 g2 _ (fun d hd => ?_))
    rw [cp_or, hr d hd]
    cases cp_Q f t d <;> simp
theorem oy_boxF0 {post : Int32 → SY → Prop} {F : Int32} {on st me nx : Nat → Int32} {x y z : Int32} (hx : x < 0 ∨ nI 64 ≤ x) (h : post (-1) (F, on, st, me, nx)) : wpY_box post (F, on, st, me, nx) x y z := by
  unfold wpY_box; dsimp only
  exact cy_cellF hx (br_t rfl h)
theorem oy_boxF1 {post : Int32 → SY → Prop} {F : Int32} {on st me nx : Nat → Int32} {f : Nat} {y z : Int32} (hf : f < 64) (hy : y < 0 ∨ nI 64 ≤ y) (h : post (-1) (F, on, st, me, nx)) : wpY_box post (F, on, st, me, nx) (nI f) y z := by
  unfold wpY_box; dsimp only
  refine cy_cellT hf ?_
  refine br_f (c := (1 : Int32) = 0) (by decide) ?_
  exact cy_cellF hy (br_t rfl h)
theorem oy_boxF2 {post : Int32 → SY → Prop} {F : Int32} {on st me nx : Nat → Int32} {f t : Nat} {z : Int32} (hf : f < 64) (ht : t < 64) (hz : z < 0 ∨ (¬ z < 0 ∧ ¬ z ≤ 1)) (h : post (-1) (F, on, st, me, nx)) : wpY_box post (F, on, st, me, nx) (nI f) (nI t) z := by
  unfold wpY_box; dsimp only
  refine cy_cellT hf ?_
  refine br_f (c := (1 : Int32) = 0) (by decide) ?_
  refine cy_cellT ht ?_
  refine br_f (c := (1 : Int32) = 0) (by decide) ?_
  refine ⟨cp_n8, cp_n8, pk_lt (t % 8) (f % 8) (fun g => h) (fun g1 => ⟨cp_n8, cp_n8, pk_lt (t / 8) (f / 8) (fun g2 => h) (fun g2 => ?_) (cp_div8 ht) (cp_div8 hf)⟩) (cp_rem8 ht) (cp_rem8 hf)⟩
  rcases hz with hz | ⟨h0, h1⟩
  · exact br_t hz h
  · exact br_f h0 (br_f h1 h)
theorem oy_boxF3 {post : Int32 → SY → Prop} {F : Int32} {on st me nx : Nat → Int32} {f t : Nat} {z : Int32} (hf : f < 64) (ht : t < 64) (hz : ¬ (f % 8 ≤ t % 8 ∧ f / 8 ≤ t / 8)) (h : post (-1) (F, on, st, me, nx)) : wpY_box post (F, on, st, me, nx) (nI f) (nI t) z := by
  unfold wpY_box; dsimp only
  refine cy_cellT hf ?_
  refine br_f (c := (1 : Int32) = 0) (by decide) ?_
  refine cy_cellT ht ?_
  refine br_f (c := (1 : Int32) = 0) (by decide) ?_
  exact ⟨cp_n8, cp_n8, pk_lt (t % 8) (f % 8) (fun g => h) (fun g1 => ⟨cp_n8, cp_n8, pk_lt (t / 8) (f / 8) (fun g2 => h) (fun g2 => by omega) (cp_div8 ht) (cp_div8 hf)⟩) (cp_rem8 ht) (cp_rem8 hf)⟩
theorem oy_box {post : Int32 → SY → Prop} {w w' : Int64} {F : Int32} {on st me nx : Nat → Int32} {f t : Nat} {v : Bool} (hR : cp_On w on) (hf : f < 64) (ht : t < 64) (h1 : f % 8 ≤ t % 8) (h2 : f / 8 ≤ t / 8) (hw : ∀ d, d < 64 → cp_b w' d = if cp_Q f t d then v else cp_b w d) (h : ∀ on', cp_On w' on' → post (nI (cp_ct (cp_b (w ^^^ w')) 64)) (F, on', st, me, nx)) : wpY_box post (F, on, st, me, nx) (nI f) (nI t) (cp_I v) := by
  unfold wpY_box; dsimp only
  refine cy_cellT hf ?_
  refine br_f (c := (1 : Int32) = 0) (by decide) ?_
  refine cy_cellT ht ?_
  refine br_f (c := (1 : Int32) = 0) (by decide) ?_
  exact ⟨cp_n8, cp_n8, pk_lt (t % 8) (f % 8) (fun g => by omega) (fun g1 => ⟨cp_n8, cp_n8, pk_lt (t / 8) (f / 8) (fun g2 => by omega) (fun g2 => br_f (cp_v0 v) (br_t (cp_v1 v) ⟨cp_n8, nm_r (cp_div8 hf) (cy_box hR hf ht h1 h2 hw h)⟩)) (cp_div8 ht) (cp_div8 hf)⟩) (cp_rem8 ht) (cp_rem8 hf)⟩
theorem i_vc_box {k : Nat} {u : SX} {v : SY} (I : i_Rel k u v) (hk : k + 4 ≤ 2048) (v1 : Int32) (v2 : Int32) (v3 : Int32) : wpX_box (fun r u' => wpY_box (fun r' v' => r' = r ∧ i_Rel (k + 4) u' v') v v1 v2 v3) u v1 v2 v3 := by
  obtain ⟨f, on, st, me, nx⟩ := v
  have hR : cp_On u on := I
  rcases cp_cell v1 with bad | ⟨a, ha, rfl⟩
  · exact ox_boxF0 bad (oy_boxF0 bad ⟨rfl, hR⟩)
  · rcases cp_cell v2 with bad | ⟨b, hb, rfl⟩
    · exact ox_boxF1 ha bad (oy_boxF1 ha bad ⟨rfl, hR⟩)
    · rcases cp_v01 v3 with bad | ⟨v, rfl⟩
      · exact ox_boxF2 ha hb bad (oy_boxF2 ha hb bad ⟨rfl, hR⟩)
      · exact ox_box ha hb (fun bad => oy_boxF3 ha hb bad ⟨rfl, hR⟩) (fun h1 h2 w' hw => oy_box hR ha hb h1 h2 hw (fun on' h' => ⟨rfl, h'⟩))
/-! cells, edge, depth, grow, shrink -/
theorem i_vc_cells {k : Nat} {u : SX} {v : SY} (I : i_Rel k u v) (hk : k + 4 ≤ 2048) : wpX_cells (fun r => wpY_cells (fun r' => r' = r ∧ i_Rel (k + 4) u v) v) u := by
  obtain ⟨f, on, st, me, nx⟩ := v
  have hR : cp_On u on := I
  unfold wpX_cells
  exact cx_count (cy_cells hR ⟨rfl, hR⟩)
theorem i_vc_edge {k : Nat} {u : SX} {v : SY} (I : i_Rel k u v) (hk : k + 4 ≤ 2048) : wpX_edge (fun r => wpY_edge (fun r' => r' = r ∧ i_Rel (k + 4) u v) v) u := by
  obtain ⟨f, on, st, me, nx⟩ := v
  have hR : cp_On u on := I
  exact cx_edge (cy_edge hR ⟨rfl, hR⟩)
theorem ox_depthF {post : Int32 → Prop} {w : Int64} {x : Int32} (hx : x < 0 ∨ nI 64 ≤ x) (h : post (-1)) : wpX_depth post w x := by
  unfold wpX_depth
  exact cx_cellF hx (br_t rfl h)
theorem ox_depthT {post : Int32 → Prop} {w : Int64} {c : Nat} (hc : c < 64) (h : post (nI (cp_dl w c 100))) : wpX_depth post w (nI c) := by
  unfold wpX_depth
  refine cx_cellT hc ?_
  refine br_f (c := (1 : Int32) = 0) (by decide) ?_
  exact cx_depth2 hc h
theorem oy_depthF {post : Int32 → Prop} {f : Int32} {on st me nx : Nat → Int32} {x : Int32} (hx : x < 0 ∨ nI 64 ≤ x) (h : post (-1)) : wpY_depth post (f, on, st, me, nx) x := by
  unfold wpY_depth; dsimp only
  exact cy_cellF hx (br_t rfl h)
theorem oy_depthT {post : Int32 → Prop} {w : Int64} {f : Int32} {on st me nx : Nat → Int32} {c : Nat} (hR : cp_On w on) (hc : c < 64) (h : post (nI (cp_dl w c 100))) : wpY_depth post (f, on, st, me, nx) (nI c) := by
  unfold wpY_depth; dsimp only
  refine cy_cellT hc ?_
  refine br_f (c := (1 : Int32) = 0) (by decide) ?_
  exact cy_depth hR hc h
theorem i_vc_depth {k : Nat} {u : SX} {v : SY} (I : i_Rel k u v) (hk : k + 4 ≤ 2048) (v1 : Int32) : wpX_depth (fun r => wpY_depth (fun r' => r' = r ∧ i_Rel (k + 4) u v) v v1) u v1 := by
  obtain ⟨f, on, st, me, nx⟩ := v
  have hR : cp_On u on := I
  rcases cp_cell v1 with bad | ⟨c, hc, rfl⟩
  · exact ox_depthF bad (oy_depthF bad ⟨rfl, hR⟩)
  · exact ox_depthT hc (oy_depthT hR hc ⟨rfl, hR⟩)
theorem ox_growF {post : Int32 → SX → Prop} {w : Int64} {x : Int32} (hx : ¬ x = 4 ∧ ¬ x = 8) (h : post (-1) w) : wpX_grow post w x := by
  unfold wpX_grow
  exact cx_modeF hx (br_t rfl h)
theorem ox_growT {post : Int32 → SX → Prop} {w : Int64} {m : Bool} (h : post (nI (cp_ct (cp_b (w ^^^ (w ||| cp_nr m w))) 64)) (w ||| cp_nr m w)) : wpX_grow post w (cp_md m) := by
  unfold wpX_grow
  refine cx_modeT m ?_
  refine br_f (c := (1 : Int32) = 0) (by decide) ?_
  exact cx_near (cx_become h)
theorem oy_growF {post : Int32 → SY → Prop} {f : Int32} {on st me nx : Nat → Int32} {x : Int32} (hx : ¬ x = 4 ∧ ¬ x = 8) (h : post (-1) (f, on, st, me, nx)) : wpY_grow post (f, on, st, me, nx) x := by
  unfold wpY_grow; dsimp only
  exact cy_modeF hx (br_t rfl h)
theorem i_vc_grow {k : Nat} {u : SX} {v : SY} (I : i_Rel k u v) (hk : k + 4 ≤ 2048) (v1 : Int32) : wpX_grow (fun r u' => wpY_grow (fun r' v' => r' = r ∧ i_Rel (k + 4) u' v') v v1) u v1 := by
  obtain ⟨f, on, st, me, nx⟩ := v
  have hR : cp_On u on := I
  rcases cp_mode v1 with bad | ⟨m, rfl⟩
  · exact ox_growF bad (oy_growF bad ⟨rfl, hR⟩)
  · exact ox_growT (cy_grow hR rfl (fun on' nx' h' => ⟨rfl, h'⟩))
theorem ox_shrinkF {post : Int32 → SX → Prop} {w : Int64} {x : Int32} (hx : ¬ x = 4 ∧ ¬ x = 8) (h : post (-1) w) : wpX_shrink post w x := by
  unfold wpX_shrink
  exact cx_modeF hx (br_t rfl h)
theorem ox_shrinkT {post : Int32 → SX → Prop} {w : Int64} {m : Bool} (h : post (nI (cp_ct (cp_b (w ^^^ cp_sh m w)) 64)) (cp_sh m w)) : wpX_shrink post w (cp_md m) := by
  unfold wpX_shrink
  refine cx_modeT m ?_
  refine br_f (c := (1 : Int32) = 0) (by decide) ?_
  exact cx_shrunk (cx_become h)
theorem oy_shrinkF {post : Int32 → SY → Prop} {f : Int32} {on st me nx : Nat → Int32} {x : Int32} (hx : ¬ x = 4 ∧ ¬ x = 8) (h : post (-1) (f, on, st, me, nx)) : wpY_shrink post (f, on, st, me, nx) x := by
  unfold wpY_shrink; dsimp only
  exact cy_modeF hx (br_t rfl h)
theorem i_vc_shrink {k : Nat} {u : SX} {v : SY} (I : i_Rel k u v) (hk : k + 4 ≤ 2048) (v1 : Int32) : wpX_shrink (fun r u' => wpY_shrink (fun r' v' => r' = r ∧ i_Rel (k + 4) u' v') v v1) u v1 := by
  obtain ⟨f, on, st, me, nx⟩ := v
  have hR : cp_On u on := I
  rcases cp_mode v1 with bad | ⟨m, rfl⟩
  · exact ox_shrinkF bad (oy_shrinkF bad ⟨rfl, hR⟩)
  · exact ox_shrinkT (cy_shrink hR rfl (fun on' nx' h' => ⟨rfl, h'⟩))
