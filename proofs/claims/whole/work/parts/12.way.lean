/-! way -/
theorem ox_wayF {post : Int32 → Prop} {w : Int64} {x y z : Int32} (hx : ¬ x = 4 ∧ ¬ x = 8) (h : post (-1)) : wpX_way post w x y z := by
  unfold wpX_way
  exact cx_modeF hx (br_t rfl h)
theorem ox_wayA {post : Int32 → Prop} {w : Int64} {m : Bool} {y z : Int32} (hy : y < 0 ∨ nI 64 ≤ y) (h : post (-4)) : wpX_way post w (cp_md m) y z := by
  unfold wpX_way
  refine cx_modeT m ?_
  refine br_f (c := (1 : Int32) = 0) (by decide) ?_
  exact cx_isOnF hy (br_t rfl h)
theorem ox_wayB {post : Int32 → Prop} {w : Int64} {m : Bool} {a : Nat} {z : Int32} (ha : a < 64) (hz : z < 0 ∨ nI 64 ≤ z) (h : post (-4)) : wpX_way post w (cp_md m) (nI a) z := by
  unfold wpX_way
  refine cx_modeT m ?_
  refine br_f (c := (1 : Int32) = 0) (by decide) ?_
  exact cx_isOn ha (cp_Ib (fun _ => h) (fun _ => cx_isOnF hz (br_t rfl h)))
theorem ox_way0 {post : Int32 → Prop} {w : Int64} {m : Bool} {a b : Nat} (ha : a < 64) (hb : b < 64) (h0 : cp_b w a = false ∨ cp_b w b = false) (h : post (-4)) : wpX_way post w (cp_md m) (nI a) (nI b) := by
  unfold wpX_way
  refine cx_modeT m ?_
  refine br_f (c := (1 : Int32) = 0) (by decide) ?_
  refine cx_isOn ha (cp_Ib (fun _ => h) (fun e => cx_isOn hb (cp_Ib (fun _ => h) (fun e2 => ?_))))
  rcases h0 with z | z
  · rw [z] at e; exact absurd e (by decide)
  · rw [z] at e2; exact absurd e2 (by decide)
theorem ox_way1 {post : Int32 → Prop} {w : Int64} {m : Bool} {a b : Nat} (ha : a < 64) (hb : b < 64) (h1 : cp_b w a = true) (h2 : cp_b w b = true) (h : ∃ n, wX_way_36 post (cp_md m) (nI b) w n (cp_1 a) 0) : wpX_way post w (cp_md m) (nI a) (nI b) := by
  unfold wpX_way
  refine cx_modeT m ?_
  refine br_f (c := (1 : Int32) = 0) (by decide) ?_
  refine cx_isOn ha (cp_Ib (fun e => ?_) (fun _ => cx_isOn hb (cp_Ib (fun e => ?_) (fun _ => nm_e h))))
  · rw [h1] at e; exact absurd e (by decide)
  · rw [h2] at e; exact absurd e (by decide)
theorem oy_wayF {post : Int32 → SY → Prop} {f : Int32} {on st me nx : Nat → Int32} {x y z : Int32} (hx : ¬ x = 4 ∧ ¬ x = 8) (h : post (-1) (f, on, st, me, nx)) : wpY_way post (f, on, st, me, nx) x y z := by
  unfold wpY_way; dsimp only
  exact cy_modeF hx (br_t rfl h)
theorem oy_wayA {post : Int32 → SY → Prop} {f : Int32} {on st me nx : Nat → Int32} {m : Bool} {y z : Int32} (hy : y < 0 ∨ nI 64 ≤ y) (h : post (-4) (f, on, st, me, nx)) : wpY_way post (f, on, st, me, nx) (cp_md m) y z := by
  unfold wpY_way; dsimp only
  refine cy_modeT m ?_
  refine br_f (c := (1 : Int32) = 0) (by decide) ?_
  exact cy_cellF hy (br_t rfl h)
theorem oy_wayB {post : Int32 → SY → Prop} {f : Int32} {on st me nx : Nat → Int32} {m : Bool} {a : Nat} {z : Int32} (ha : a < 64) (hz : z < 0 ∨ nI 64 ≤ z) (h : post (-4) (f, on, st, me, nx)) : wpY_way post (f, on, st, me, nx) (cp_md m) (nI a) z := by
  unfold wpY_way; dsimp only
  refine cy_modeT m ?_
  refine br_f (c := (1 : Int32) = 0) (by decide) ?_
  refine cy_cellT ha ?_
  refine br_f (c := (1 : Int32) = 0) (by decide) ?_
  exact cy_cellF hz (br_t rfl h)
theorem oy_way0 {post : Int32 → SY → Prop} {w : Int64} {f : Int32} {on st me nx : Nat → Int32} {m : Bool} {a b : Nat} (hR : cp_On w on) (ha : a < 64) (hb : b < 64) (h0 : cp_b w a = false ∨ cp_b w b = false) (h : post (-4) (f, on, st, me, nx)) : wpY_way post (f, on, st, me, nx) (cp_md m) (nI a) (nI b) := by
  unfold wpY_way; dsimp only
  refine cy_modeT m ?_
  refine br_f (c := (1 : Int32) = 0) (by decide) ?_
  refine cy_cellT ha ?_
  refine br_f (c := (1 : Int32) = 0) (by decide) ?_
  refine cy_cellT hb ?_
  refine br_f (c := (1 : Int32) = 0) (by decide) ⟨vp_in_nI ha (by decide), ?_⟩
  rw [nI_clamp (show a < 2 ^ 31 by omega), nI_clamp (show b < 2 ^ 31 by omega), hR a ha, hR b hb]
  refine cp_Ib (fun _ => h) (fun e => ⟨vp_in_nI hb (by decide), cp_Ib (fun _ => h) (fun e2 => ?_)⟩)
  rcases h0 with z | z
  · rw [z] at e; exact absurd e (by decide)
  · rw [z] at e2; exact absurd e2 (by decide)
theorem oy_way1 {post : Int32 → SY → Prop} {w : Int64} {f : Int32} {on st me nx : Nat → Int32} {m : Bool} {a b : Nat} (hR : cp_On w on) (ha : a < 64) (hb : b < 64) (h1 : cp_b w a = true) (h2 : cp_b w b = true) (hT : ∀ t, cp_b (cp_sp m w (cp_1 a) t) b = true → (∀ s, cp_b (cp_sp m w (cp_1 a) s) b = true → t ≤ s) → ∀ f' st' me', post (nI t) (f', on, st', me', nx)) (hN : (∀ s, cp_b (cp_sp m w (cp_1 a) s) b = false) → ∀ f' st' me', post (-4) (f', on, st', me', nx)) : wpY_way post (f, on, st, me, nx) (cp_md m) (nI a) (nI b) := by
  unfold wpY_way; dsimp only
  refine cy_modeT m ?_
  refine br_f (c := (1 : Int32) = 0) (by decide) ?_
  refine cy_cellT ha ?_
  refine br_f (c := (1 : Int32) = 0) (by decide) ?_
  refine cy_cellT hb ?_
  refine br_f (c := (1 : Int32) = 0) (by decide) ⟨vp_in_nI ha (by decide), ?_⟩
  rw [nI_clamp (show a < 2 ^ 31 by omega), nI_clamp (show b < 2 ^ 31 by omega), hR a ha, hR b hb, h1, h2]
  have vb := vp_in_nI (N := 64) hb (by decide)
  refine br_f (by decide) ⟨vb, br_f (by decide) (cy_walk ha (cp_WT hR ha h1) (fun n' st' me' hF => ⟨vb, ?_⟩))⟩
  obtain ⟨T, M, _, _, _, f4⟩ := hF
  obtain ⟨e1, e2, e3, e4, e5⟩ := f4 b hb
  dsimp only
  rw [e1]
  by_cases t : T b = 0
  · refine br_f (by rw [cp_st0 e2]; exact fun z => z t) (hN (fun s => cp_nb.mp (fun z => (e5 s z).1 t)) _ _ _)
  · refine br_t (by rw [cp_st0 e2]; exact t) ⟨vb, ?_⟩
    obtain ⟨t', ht⟩ : ∃ k, T b = k + 1 := ⟨T b - 1, by omega⟩
    rw [ht, nI_pred]
    have e4' := e4 t
    rw [ht, Nat.add_sub_cancel] at e4'
    exact hT t' e4' (fun s hs => by have := (e5 s hs).2; omega) _ _ _
theorem cp_grow1 (m : Bool) (W S : Int64) (k : Nat) : (∃ j, j < k ∧ cp_sp m W S (j + 1) = cp_sp m W S j) ∨ k + cp_ct (cp_b S) 64 ≤ cp_ct (cp_b (cp_sp m W S k)) 64 := by
  induction k with
  | zero => exact Or.inr (by rw [Nat.zero_add]; exact Nat.le_refl _)
  | succ k ih =>
    rcases ih with ⟨j, hj, e⟩ | h
    · exact Or.inl ⟨j, by omega, e⟩
    · by_cases e : cp_sp m W S (k + 1) = cp_sp m W S k
      · exact Or.inl ⟨k, by omega, e⟩
      · right
        have mono : ∀ c, c < 64 → cp_b (cp_sp m W S k) c = true → cp_b (cp_sp m W S (k + 1)) c = true := fun c _ hb => cp_sp_le m W S (Nat.le_succ k) hb
        have hd : ∃ d, d < 64 ∧ cp_b (cp_sp m W S k) d = false ∧ cp_b (cp_sp m W S (k + 1)) d = true := by
          refine Classical.byContradiction fun hn => e (cp_ext fun c hc => ?_)
          cases h1 : cp_b (cp_sp m W S k) c
          · cases h2 : cp_b (cp_sp m W S (k + 1)) c
            · rfl
            · exact absurd ⟨c, hc, h1, h2⟩ hn
          · exact mono c hc h1
        obtain ⟨d, hd, h1, h2⟩ := hd
        have := cp_ct_strict 64 mono hd h1 h2
        omega
theorem cp_way64 {m : Bool} {w : Int64} {a b t : Nat} (ha : a < 64) (h1 : cp_b (cp_sp m w (cp_1 a) t) b = true) (h2 : ∀ s, s < t → cp_b (cp_sp m w (cp_1 a) s) b = false) : t < 64 := by
  have c1 : cp_ct (cp_b (cp_1 a)) 64 ≠ 0 := fun z => by
    have := (cp_ct_0 64).mp z a ha
    rw [cp_one ha ha] at this; simp at this
  rcases cp_grow1 m w (cp_1 a) t with ⟨j, hj, e⟩ | g
  · have q := cp_stab m w (cp_1 a) e (t - j)
    rw [show j + (t - j) = t by omega] at q
    rw [q, h2 j hj] at h1; exact absurd h1 (by decide)
  · have := cp_ct_le (cp_b (cp_sp m w (cp_1 a) t)) 64
    omega
theorem i_vc_way {k : Nat} {u : SX} {v : SY} (I : i_Rel k u v) (hk : k + 4 ≤ 2048) (v1 : Int32) (v2 : Int32) (v3 : Int32) : wpX_way (fun r => wpY_way (fun r' v' => r' = r ∧ i_Rel (k + 4) u v') v v1 v2 v3) u v1 v2 v3 := by
  obtain ⟨f, on, st, me, nx⟩ := v
  have hR : cp_On u on := I
  rcases cp_mode v1 with bad | ⟨m, rfl⟩
  · exact ox_wayF bad (oy_wayF bad ⟨rfl, hR⟩)
  · rcases cp_cell v2 with bad | ⟨a, ha, rfl⟩
    · exact ox_wayA bad (oy_wayA bad ⟨rfl, hR⟩)
    · rcases cp_cell v3 with bad | ⟨b, hb, rfl⟩
      · exact ox_wayB ha bad (oy_wayB ha bad ⟨rfl, hR⟩)
      · cases h1 : cp_b u a
        · exact ox_way0 ha hb (Or.inl h1) (oy_way0 hR ha hb (Or.inl h1) ⟨rfl, hR⟩)
        · cases h2 : cp_b u b
          · exact ox_way0 ha hb (Or.inr h2) (oy_way0 hR ha hb (Or.inr h2) ⟨rfl, hR⟩)
          · refine ox_way1 ha hb h1 h2 ?_
            by_cases hx : ∃ s, cp_b (cp_sp m u (cp_1 a) s) b = true
            · obtain ⟨t, t1, t2⟩ := pk_least (fun s => cp_b (cp_sp m u (cp_1 a) s) b = true) hx
              have t2' : ∀ s, s < t → cp_b (cp_sp m u (cp_1 a) s) b = false := fun s hs => cp_nb.mp (t2 s hs)
              refine cx_wayT hb (cp_way64 ha t1 t2') t1 t2' (oy_way1 hR ha hb h1 h2 (fun t' q1 q2 f' st' me' => ⟨congrArg nI ?_, hR⟩) (fun q f' st' me' => absurd t1 (by rw [q t]; decide)))
              have l1 := q2 t t1
              rcases Nat.lt_or_ge t' t with g | g
              · exact absurd q1 (t2 t' g)
              · omega
            · have hn : ∀ s, cp_b (cp_sp m u (cp_1 a) s) b = false := fun s => cp_nb.mp (fun z => hx ⟨s, z⟩)
              exact cx_wayF hb hn (oy_way1 hR ha hb h1 h2 (fun t' q1 _ f' st' me' => absurd ⟨t', q1⟩ hx) (fun _ f' st' me' => ⟨rfl, hR⟩))
