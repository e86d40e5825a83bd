/-! the calls over groups -/
theorem ox_piecesF {post : Int32 → Prop} {w : Int64} {x : Int32} (hx : ¬ x = 4 ∧ ¬ x = 8) (h : post (-1)) : wpX_pieces post w x := by
  unfold wpX_pieces
  exact cx_modeF hx (br_t rfl h)
theorem ox_piecesT {post : Int32 → Prop} {w : Int64} {m : Bool} (h : post (nI (cp_ct (cp_ld m w) 64))) : wpX_pieces post w (cp_md m) := by
  unfold wpX_pieces
  refine cx_modeT m ?_
  refine br_f (c := (1 : Int32) = 0) (by decide) ?_
  exact cx_groups h
theorem oy_piecesF {post : Int32 → SY → Prop} {f : Int32} {on st me nx : Nat → Int32} {x : Int32} (hx : ¬ x = 4 ∧ ¬ x = 8) (h : post (-1) (f, on, st, me, nx)) : wpY_pieces post (f, on, st, me, nx) x := by
  unfold wpY_pieces; dsimp only
  exact cy_modeF hx (br_t rfl h)
theorem i_vc_pieces {k : Nat} {u : SX} {v : SY} (I : i_Rel k u v) (hk : k + 4 ≤ 2048) (v1 : Int32) : wpX_pieces (fun r => wpY_pieces (fun r' v' => r' = r ∧ i_Rel (k + 4) u v') v v1) u v1 := by
  obtain ⟨f, on, st, me, nx⟩ := v
  have hR : cp_On u on := I
  rcases cp_mode v1 with bad | ⟨m, rfl⟩
  · exact ox_piecesF bad (oy_piecesF bad ⟨rfl, hR⟩)
  · exact ox_piecesT (cy_pieces hR (fun f' st' me' => ⟨rfl, hR⟩))
theorem ox_holesF {post : Int32 → Prop} {w : Int64} {x : Int32} (hx : ¬ x = 4 ∧ ¬ x = 8) (h : post (-1)) : wpX_holes post w x := by
  unfold wpX_holes
  exact cx_modeF hx (br_t rfl h)
theorem ox_holesT {post : Int32 → Prop} {w : Int64} {m : Bool} (h : post (nI (cp_ct (cp_ld (!m) (cp_H m w)) 64))) : wpX_holes post w (cp_md m) := by
  unfold wpX_holes
  refine cx_modeT m ?_
  refine br_f (c := (1 : Int32) = 0) (by decide) ?_
  exact cx_holes (cx_other m (cx_groups h))
theorem oy_holesF {post : Int32 → SY → Prop} {f : Int32} {on st me nx : Nat → Int32} {x : Int32} (hx : ¬ x = 4 ∧ ¬ x = 8) (h : post (-1) (f, on, st, me, nx)) : wpY_holes post (f, on, st, me, nx) x := by
  unfold wpY_holes; dsimp only
  exact cy_modeF hx (br_t rfl h)
theorem i_vc_holes {k : Nat} {u : SX} {v : SY} (I : i_Rel k u v) (hk : k + 4 ≤ 2048) (v1 : Int32) : wpX_holes (fun r => wpY_holes (fun r' v' => r' = r ∧ i_Rel (k + 4) u v') v v1) u v1 := by
  obtain ⟨f, on, st, me, nx⟩ := v
  have hR : cp_On u on := I
  rcases cp_mode v1 with bad | ⟨m, rfl⟩
  · exact ox_holesF bad (oy_holesF bad ⟨rfl, hR⟩)
  · exact ox_holesT (cy_holes hR (fun f' st' me' => ⟨rfl, hR⟩))
theorem ox_balanceF {post : Int32 → Prop} {w : Int64} {x : Int32} (hx : ¬ x = 4 ∧ ¬ x = 8) (h : post (-1)) : wpX_balance post w x := by
  unfold wpX_balance
  exact cx_modeF hx (br_t rfl h)
theorem ox_balanceT {post : Int32 → Prop} {w : Int64} {m : Bool} (h : post (nI (cp_ct (cp_ld m w) 64) - nI (cp_ct (cp_ld (!m) (cp_H m w)) 64))) : wpX_balance post w (cp_md m) := by
  unfold wpX_balance
  refine cx_modeT m ?_
  refine br_f (c := (1 : Int32) = 0) (by decide) ?_
  exact cx_holes (cx_other m (cx_groups (cx_groups h)))
theorem oy_balanceF {post : Int32 → SY → Prop} {f : Int32} {on st me nx : Nat → Int32} {x : Int32} (hx : ¬ x = 4 ∧ ¬ x = 8) (h : post (-1) (f, on, st, me, nx)) : wpY_balance post (f, on, st, me, nx) x := by
  unfold wpY_balance; dsimp only
  exact cy_modeF hx (br_t rfl h)
theorem oy_balanceT {post : Int32 → SY → Prop} {w : Int64} {f : Int32} {on st me nx : Nat → Int32} {m : Bool} (hR : cp_On w on) (h : ∀ f' st' me', post (nI (cp_ct (cp_ld m w) 64) - nI (cp_ct (cp_ld (!m) (cp_H m w)) 64)) (f', on, st', me', nx)) : wpY_balance post (f, on, st, me, nx) (cp_md m) := by
  unfold wpY_balance; dsimp only
  refine cy_modeT m ?_
  refine br_f (c := (1 : Int32) = 0) (by decide) ?_
  exact cy_pieces hR (fun f' st' me' => cy_holes hR (fun f2 st2 me2 => h f2 st2 me2))
theorem i_vc_balance {k : Nat} {u : SX} {v : SY} (I : i_Rel k u v) (hk : k + 4 ≤ 2048) (v1 : Int32) : wpX_balance (fun r => wpY_balance (fun r' v' => r' = r ∧ i_Rel (k + 4) u v') v v1) u v1 := by
  obtain ⟨f, on, st, me, nx⟩ := v
  have hR : cp_On u on := I
  rcases cp_mode v1 with bad | ⟨m, rfl⟩
  · exact ox_balanceF bad (oy_balanceF bad ⟨rfl, hR⟩)
  · exact ox_balanceT (oy_balanceT hR (fun f' st' me' => ⟨rfl, hR⟩))
/-! piece, size -/
theorem ox_pieceF {post : Int32 → Prop} {w : Int64} {x y : Int32} (hx : ¬ x = 4 ∧ ¬ x = 8) (h : post (-1)) : wpX_piece post w x y := by
  unfold wpX_piece
  exact cx_modeF hx (br_t rfl h)
theorem ox_pieceC {post : Int32 → Prop} {w : Int64} {m : Bool} {y : Int32} (hy : y < 0 ∨ nI 64 ≤ y) (h : post (-4)) : wpX_piece post w (cp_md m) y := by
  unfold wpX_piece
  refine cx_modeT m ?_
  refine br_f (c := (1 : Int32) = 0) (by decide) ?_
  exact cx_isOnF hy (br_t rfl h)
theorem ox_pieceT {post : Int32 → Prop} {w : Int64} {m : Bool} {c : Nat} (hc : c < 64) (h0 : cp_b w c = false → post (-4)) (h1 : cp_b w c = true → ∀ l, cp_b (cp_C m w c) l = true → (∀ d, d < l → cp_b (cp_C m w c) d = false) → post (nI l)) : wpX_piece post w (cp_md m) (nI c) := by
  unfold wpX_piece
  refine cx_modeT m ?_
  refine br_f (c := (1 : Int32) = 0) (by decide) ?_
  refine cx_isOn hc (cp_Ib h0 (fun e => ?_))
  obtain ⟨l, hl, hm⟩ := cp_lst (cp_C_r m w hc)
  exact cx_spread (S := cp_1 c) (cx_least hl hm (h1 e l hl hm))
theorem oy_pieceF {post : Int32 → SY → Prop} {f : Int32} {on st me nx : Nat → Int32} {x y : Int32} (hx : ¬ x = 4 ∧ ¬ x = 8) (h : post (-1) (f, on, st, me, nx)) : wpY_piece post (f, on, st, me, nx) x y := by
  unfold wpY_piece; dsimp only
  exact cy_modeF hx (br_t rfl h)
theorem oy_pieceC {post : Int32 → SY → Prop} {f : Int32} {on st me nx : Nat → Int32} {m : Bool} {y : Int32} (hy : y < 0 ∨ nI 64 ≤ y) (h : post (-4) (f, on, st, me, nx)) : wpY_piece post (f, on, st, me, nx) (cp_md m) y := by
  unfold wpY_piece; dsimp only
  refine cy_modeT m ?_
  refine br_f (c := (1 : Int32) = 0) (by decide) ?_
  exact cy_cellF hy (br_t rfl h)
theorem oy_piece0 {post : Int32 → SY → Prop} {w : Int64} {f : Int32} {on st me nx : Nat → Int32} {m : Bool} {c : Nat} (hR : cp_On w on) (hc : c < 64) (e : cp_b w c = false) (h : post (-4) (f, on, st, me, nx)) : wpY_piece post (f, on, st, me, nx) (cp_md m) (nI c) := by
  unfold wpY_piece; dsimp only
  refine cy_modeT m ?_
  refine br_f (c := (1 : Int32) = 0) (by decide) ?_
  refine cy_cellT hc ?_
  refine br_f (c := (1 : Int32) = 0) (by decide) ⟨vp_in_nI hc (by decide), ?_⟩
  rw [nI_clamp (show c < 2 ^ 31 by omega), hR c hc, e]
  exact br_t rfl h
theorem oy_piece1 {post : Int32 → SY → Prop} {w : Int64} {f : Int32} {on st me nx : Nat → Int32} {m : Bool} {c l : Nat} (hR : cp_On w on) (hc : c < 64) (e : cp_b w c = true) (hl : cp_b (cp_C m w c) l = true) (hm : ∀ d, d < l → cp_b (cp_C m w c) d = false) (h : ∀ f' st' me', post (nI l) (f', on, st', me', nx)) : wpY_piece post (f, on, st, me, nx) (cp_md m) (nI c) := by
  unfold wpY_piece; dsimp only
  refine cy_modeT m ?_
  refine br_f (c := (1 : Int32) = 0) (by decide) ?_
  refine cy_cellT hc ?_
  refine br_f (c := (1 : Int32) = 0) (by decide) ⟨vp_in_nI hc (by decide), ?_⟩
  rw [nI_clamp (show c < 2 ^ 31 by omega), hR c hc, e]
  refine br_f (by decide) (cy_walk hc (cp_WT hR hc e) (fun n' st' me' hF => cy_least hF hl hm (h _ _ _)))
theorem i_vc_piece {k : Nat} {u : SX} {v : SY} (I : i_Rel k u v) (hk : k + 4 ≤ 2048) (v1 : Int32) (v2 : Int32) : wpX_piece (fun r => wpY_piece (fun r' v' => r' = r ∧ i_Rel (k + 4) u v') v v1 v2) u v1 v2 := by
  obtain ⟨f, on, st, me, nx⟩ := v
  have hR : cp_On u on := I
  rcases cp_mode v1 with bad | ⟨m, rfl⟩
  · exact ox_pieceF bad (oy_pieceF bad ⟨rfl, hR⟩)
  · rcases cp_cell v2 with bad | ⟨c, hc, rfl⟩
    · exact ox_pieceC bad (oy_pieceC bad ⟨rfl, hR⟩)
    · exact ox_pieceT hc (fun e => oy_piece0 hR hc e ⟨rfl, hR⟩) (fun e l hl hm => oy_piece1 hR hc e hl hm (fun f' st' me' => ⟨rfl, hR⟩))
theorem ox_sizeF {post : Int32 → Prop} {w : Int64} {x y : Int32} (hx : ¬ x = 4 ∧ ¬ x = 8) (h : post (-1)) : wpX_size post w x y := by
  unfold wpX_size
  exact cx_modeF hx (br_t rfl h)
theorem ox_sizeC {post : Int32 → Prop} {w : Int64} {m : Bool} {y : Int32} (hy : y < 0 ∨ nI 64 ≤ y) (h : post (-4)) : wpX_size post w (cp_md m) y := by
  unfold wpX_size
  refine cx_modeT m ?_
  refine br_f (c := (1 : Int32) = 0) (by decide) ?_
  exact cx_isOnF hy (br_t rfl h)
theorem ox_sizeT {post : Int32 → Prop} {w : Int64} {m : Bool} {c : Nat} (hc : c < 64) (h0 : cp_b w c = false → post (-4)) (h1 : cp_b w c = true → post (nI (cp_ct (cp_b (cp_C m w c)) 64))) : wpX_size post w (cp_md m) (nI c) := by
  unfold wpX_size
  refine cx_modeT m ?_
  refine br_f (c := (1 : Int32) = 0) (by decide) ?_
  refine cx_isOn hc (cp_Ib h0 (fun e => ?_))
  exact cx_spread (S := cp_1 c) (cx_count (h1 e))
theorem oy_sizeF {post : Int32 → SY → Prop} {f : Int32} {on st me nx : Nat → Int32} {x y : Int32} (hx : ¬ x = 4 ∧ ¬ x = 8) (h : post (-1) (f, on, st, me, nx)) : wpY_size post (f, on, st, me, nx) x y := by
  unfold wpY_size; dsimp only
  exact cy_modeF hx (br_t rfl h)
theorem oy_sizeC {post : Int32 → SY → Prop} {f : Int32} {on st me nx : Nat → Int32} {m : Bool} {y : Int32} (hy : y < 0 ∨ nI 64 ≤ y) (h : post (-4) (f, on, st, me, nx)) : wpY_size post (f, on, st, me, nx) (cp_md m) y := by
  unfold wpY_size; dsimp only
  refine cy_modeT m ?_
  refine br_f (c := (1 : Int32) = 0) (by decide) ?_
  exact cy_cellF hy (br_t rfl h)
theorem oy_size0 {post : Int32 → SY → Prop} {w : Int64} {f : Int32} {on st me nx : Nat → Int32} {m : Bool} {c : Nat} (hR : cp_On w on) (hc : c < 64) (e : cp_b w c = false) (h : post (-4) (f, on, st, me, nx)) : wpY_size post (f, on, st, me, nx) (cp_md m) (nI c) := by
  unfold wpY_size; dsimp only
  refine cy_modeT m ?_
  refine br_f (c := (1 : Int32) = 0) (by decide) ?_
  refine cy_cellT hc ?_
  refine br_f (c := (1 : Int32) = 0) (by decide) ⟨vp_in_nI hc (by decide), ?_⟩
  rw [nI_clamp (show c < 2 ^ 31 by omega), hR c hc, e]
  exact br_t rfl h
theorem oy_size1 {post : Int32 → SY → Prop} {w : Int64} {f : Int32} {on st me nx : Nat → Int32} {m : Bool} {c : Nat} (hR : cp_On w on) (hc : c < 64) (e : cp_b w c = true) (h : ∀ f' st' me', post (nI (cp_ct (cp_b (cp_C m w c)) 64)) (f', on, st', me', nx)) : wpY_size post (f, on, st, me, nx) (cp_md m) (nI c) := by
  unfold wpY_size; dsimp only
  refine cy_modeT m ?_
  refine br_f (c := (1 : Int32) = 0) (by decide) ?_
  refine cy_cellT hc ?_
  refine br_f (c := (1 : Int32) = 0) (by decide) ⟨vp_in_nI hc (by decide), ?_⟩
  rw [nI_clamp (show c < 2 ^ 31 by omega), hR c hc, e]
  refine br_f (by decide) (cy_walk hc (cp_WT hR hc e) (fun n' st' me' hF => ?_))
  have hn := cp_F_n hF
  subst hn
  exact h _ _ _
theorem i_vc_size {k : Nat} {u : SX} {v : SY} (I : i_Rel k u v) (hk : k + 4 ≤ 2048) (v1 : Int32) (v2 : Int32) : wpX_size (fun r => wpY_size (fun r' v' => r' = r ∧ i_Rel (k + 4) u v') v v1 v2) u v1 v2 := by
  obtain ⟨f, on, st, me, nx⟩ := v
  have hR : cp_On u on := I
  rcases cp_mode v1 with bad | ⟨m, rfl⟩
  · exact ox_sizeF bad (oy_sizeF bad ⟨rfl, hR⟩)
  · rcases cp_cell v2 with bad | ⟨c, hc, rfl⟩
    · exact ox_sizeC bad (oy_sizeC bad ⟨rfl, hR⟩)
    · exact ox_sizeT hc (fun e => oy_size0 hR hc e ⟨rfl, hR⟩) (fun e => oy_size1 hR hc e (fun f' st' me' => ⟨rfl, hR⟩))
/-! largest, fill, clear -/
theorem ox_largestF {post : Int32 → Prop} {w : Int64} {x : Int32} (hx : ¬ x = 4 ∧ ¬ x = 8) (h : post (-1)) : wpX_largest post w x := by
  unfold wpX_largest
  exact cx_modeF hx (br_t rfl h)
theorem ox_largestT {post : Int32 → Prop} {w : Int64} {m : Bool} (h : post (nI (cp_mx m w 64))) : wpX_largest post w (cp_md m) := by
  unfold wpX_largest
  refine cx_modeT m ?_
  refine br_f (c := (1 : Int32) = 0) (by decide) ?_
  exact cx_largest h
theorem oy_largestF {post : Int32 → SY → Prop} {f : Int32} {on st me nx : Nat → Int32} {x : Int32} (hx : ¬ x = 4 ∧ ¬ x = 8) (h : post (-1) (f, on, st, me, nx)) : wpY_largest post (f, on, st, me, nx) x := by
  unfold wpY_largest; dsimp only
  exact cy_modeF hx (br_t rfl h)
theorem i_vc_largest {k : Nat} {u : SX} {v : SY} (I : i_Rel k u v) (hk : k + 4 ≤ 2048) (v1 : Int32) : wpX_largest (fun r => wpY_largest (fun r' v' => r' = r ∧ i_Rel (k + 4) u v') v v1) u v1 := by
  obtain ⟨f, on, st, me, nx⟩ := v
  have hR : cp_On u on := I
  rcases cp_mode v1 with bad | ⟨m, rfl⟩
  · exact ox_largestF bad (oy_largestF bad ⟨rfl, hR⟩)
  · exact ox_largestT (cy_largest hR (fun f' st' me' => ⟨rfl, hR⟩))
theorem ox_fillF {post : Int32 → SX → Prop} {w : Int64} {x : Int32} (hx : ¬ x = 4 ∧ ¬ x = 8) (h : post (-1) w) : wpX_fill post w x := by
  unfold wpX_fill
  exact cx_modeF hx (br_t rfl h)
theorem ox_fillT {post : Int32 → SX → Prop} {w : Int64} {m : Bool} (h : post (nI (cp_ct (cp_b (w ^^^ (w ||| cp_H m w))) 64)) (w ||| cp_H m w)) : wpX_fill post w (cp_md m) := by
  unfold wpX_fill
  refine cx_modeT m ?_
  refine br_f (c := (1 : Int32) = 0) (by decide) ?_
  exact cx_holes (cx_become h)
theorem oy_fillF {post : Int32 → SY → Prop} {f : Int32} {on st me nx : Nat → Int32} {x : Int32} (hx : ¬ x = 4 ∧ ¬ x = 8) (h : post (-1) (f, on, st, me, nx)) : wpY_fill post (f, on, st, me, nx) x := by
  unfold wpY_fill; dsimp only
  exact cy_modeF hx (br_t rfl h)
theorem i_vc_fill {k : Nat} {u : SX} {v : SY} (I : i_Rel k u v) (hk : k + 4 ≤ 2048) (v1 : Int32) : wpX_fill (fun r u' => wpY_fill (fun r' v' => r' = r ∧ i_Rel (k + 4) u' v') v v1) u v1 := by
  obtain ⟨f, on, st, me, nx⟩ := v
  have hR : cp_On u on := I
  rcases cp_mode v1 with bad | ⟨m, rfl⟩
  · exact ox_fillF bad (oy_fillF bad ⟨rfl, hR⟩)
  · exact ox_fillT (cy_fill hR rfl (fun f' on' st' me' nx' h' => ⟨rfl, h'⟩))
theorem cp_n64 (x : Int32) : (x < 0 ∨ (¬ x < 0 ∧ ¬ x ≤ 64)) ∨ ∃ n, n ≤ 64 ∧ x = nI n := by
  by_cases h : x < 0
  · exact Or.inl (Or.inl h)
  · obtain ⟨j, hj, rfl⟩ := nI_of h
    by_cases g : j ≤ 64
    · exact Or.inr ⟨j, g, rfl⟩
    · exact Or.inl (Or.inr ⟨h, nI_ge (a := 64) (by omega) hj⟩)
theorem ox_clearF {post : Int32 → SX → Prop} {w : Int64} {x y : Int32} (hx : ¬ x = 4 ∧ ¬ x = 8) (h : post (-1) w) : wpX_clear post w x y := by
  unfold wpX_clear
  exact cx_modeF hx (br_t rfl h)
theorem ox_clearN {post : Int32 → SX → Prop} {w : Int64} {m : Bool} {y : Int32} (hy : y < 0 ∨ (¬ y < 0 ∧ ¬ y ≤ 64)) (h : post (-1) w) : wpX_clear post w (cp_md m) y := by
  unfold wpX_clear
  refine cx_modeT m ?_
  refine br_f (c := (1 : Int32) = 0) (by decide) ?_
  rcases hy with hy | ⟨h0, h1⟩
  · exact br_t hy h
  · exact br_f h0 (br_f h1 h)
theorem ox_clearT {post : Int32 → SX → Prop} {w : Int64} {m : Bool} {c : Nat} (hc : c ≤ 64) (h : ∀ w', (∀ d, d < 64 → cp_b w' d = (cp_b w d && decide (c ≤ cp_ct (cp_b (cp_C m w d)) 64))) → post (nI (cp_ct (cp_b (w ^^^ w')) 64)) w') : wpX_clear post w (cp_md m) (nI c) := by
  unfold wpX_clear
  refine cx_modeT m ?_
  refine br_f (c := (1 : Int32) = 0) (by decide) ?_
  exact br_f (nI_pos (by omega)) (br_t (nI_le (b := 64) hc (by decide)) (cx_clear hc h))
theorem oy_clearF {post : Int32 → SY → Prop} {f : Int32} {on st me nx : Nat → Int32} {x y : Int32} (hx : ¬ x = 4 ∧ ¬ x = 8) (h : post (-1) (f, on, st, me, nx)) : wpY_clear post (f, on, st, me, nx) x y := by
  unfold wpY_clear; dsimp only
  exact cy_modeF hx (br_t rfl h)
theorem oy_clearN {post : Int32 → SY → Prop} {f : Int32} {on st me nx : Nat → Int32} {m : Bool} {y : Int32} (hy : y < 0 ∨ (¬ y < 0 ∧ ¬ y ≤ 64)) (h : post (-1) (f, on, st, me, nx)) : wpY_clear post (f, on, st, me, nx) (cp_md m) y := by
  unfold wpY_clear; dsimp only
  refine cy_modeT m ?_
  refine br_f (c := (1 : Int32) = 0) (by decide) ?_
  rcases hy with hy | ⟨h0, h1⟩
  · exact br_t hy h
  · exact br_f h0 (br_f h1 h)
theorem oy_clearT {post : Int32 → SY → Prop} {w w' : Int64} {f : Int32} {on st me nx : Nat → Int32} {m : Bool} {q : Nat} (hq : q ≤ 64) (hR : cp_On w on) (hw : ∀ d, d < 64 → cp_b w' d = (cp_b w d && decide (q ≤ cp_ct (cp_b (cp_C m w d)) 64))) (h : ∀ f' on' st' me' nx', cp_On w' on' → post (nI (cp_ct (cp_b (w ^^^ w')) 64)) (f', on', st', me', nx')) : wpY_clear post (f, on, st, me, nx) (cp_md m) (nI q) := by
  unfold wpY_clear; dsimp only
  refine cy_modeT m ?_
  refine br_f (c := (1 : Int32) = 0) (by decide) ?_
  exact br_f (nI_pos (by omega)) (br_t (nI_le (b := 64) hq (by decide)) (cy_clear hq hR hw h))
theorem i_vc_clear {k : Nat} {u : SX} {v : SY} (I : i_Rel k u v) (hk : k + 4 ≤ 2048) (v1 : Int32) (v2 : Int32) : wpX_clear (fun r u' => wpY_clear (fun r' v' => r' = r ∧ i_Rel (k + 4) u' v') v v1 v2) u v1 v2 := by
  obtain ⟨f, on, st, me, nx⟩ := v
  have hR : cp_On u on := I
  rcases cp_mode v1 with bad | ⟨m, rfl⟩
  · exact ox_clearF bad (oy_clearF bad ⟨rfl, hR⟩)
  · rcases cp_n64 v2 with bad | ⟨n, hn, rfl⟩
    · exact ox_clearN bad (oy_clearN bad ⟨rfl, hR⟩)
    · exact ox_clearT hn (fun w' hw => oy_clearT hn hR hw (fun f' on' st' me' nx' h' => ⟨rfl, h'⟩))
