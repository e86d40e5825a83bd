/-! the component's own methods -/
theorem cp_rem8 {a : Nat} (h : a < 64) : nI a - nI a / 8 * 8 = nI (a % 8) := pk_rem (d := 8) (by omega) (by decide) (by decide)
theorem cp_div8 {a : Nat} (h : a < 64) : nI a / 8 = nI (a / 8) := pk_div (d := 8) (by omega) (by decide) (by decide)
theorem cp_64 : (64 : Int32) ≤ nI 64 := by decide
theorem cp_n8 : ¬ (8 : Int32) = 0 := by decide
theorem cp_mode (x : Int32) : (¬ x = 4 ∧ ¬ x = 8) ∨ ∃ m, x = cp_md m := by
  by_cases h4 : x = 4
  · exact Or.inr ⟨false, h4⟩
  · by_cases h8 : x = 8
    · exact Or.inr ⟨true, h8⟩
    · exact Or.inl ⟨h4, h8⟩
theorem cp_cell (x : Int32) : (x < 0 ∨ nI 64 ≤ x) ∨ ∃ c, c < 64 ∧ x = nI c := by
  rcases pk_ix x (n := 64) (by decide) with h | h | h
  · exact Or.inl (Or.inl h)
  · exact Or.inl (Or.inr h)
  · exact Or.inr h
theorem cx_cellT {post : Int32 → Prop} {c : Nat} (hc : c < 64) (h : post 1) : wpX_isCell post (nI c) :=
  br_f (nI_pos (by omega)) (br_f (nI_ge (b := 64) hc (by decide)) h)
theorem cx_cellF {post : Int32 → Prop} {x : Int32} (hx : x < 0 ∨ nI 64 ≤ x) (h : post 0) : wpX_isCell post x := by
  by_cases h0 : x < 0
  · exact br_t h0 h
  · exact br_f h0 (br_t (hx.resolve_left h0) h)
theorem cx_modeT {post : Int32 → Prop} (m : Bool) (h : post 1) : wpX_isMode post (cp_md m) := by
  cases m
  · exact br_t rfl h
  · exact br_f (by decide) (br_t rfl h)
theorem cx_modeF {post : Int32 → Prop} {x : Int32} (hx : ¬ x = 4 ∧ ¬ x = 8) (h : post 0) : wpX_isMode post x := br_f hx.1 (br_f hx.2 h)
theorem cx_other {post : Int32 → Prop} (m : Bool) (h : post (cp_md (!m))) : wpX_otherMode post (cp_md m) := by
  cases m
  · exact br_t rfl h
  · exact br_f (by decide) h
theorem cx_has {post : Int32 → Prop} {w : Int64} {c : Nat} (hc : c < 64) (h : post (cp_I (cp_b w c))) : wpX_has post w (nI c) := by
  cases e : cp_b w c
  · rw [e] at h; exact br_t ((cp_has hc).mpr e) h
  · rw [e] at h; exact br_f (fun z => by rw [(cp_has hc).mp z] at e; exact absurd e (by decide)) h
theorem cx_isOn {post : Int32 → Prop} {w : Int64} {c : Nat} (hc : c < 64) (h : post (cp_I (cp_b w c))) : wpX_isOn post w (nI c) :=
  cx_cellT hc (br_f (by decide) (cx_has hc (cp_Ib (fun e => by rw [e] at h; exact h) (fun e => by rw [e] at h; exact h))))
theorem cx_isOnF {post : Int32 → Prop} {w : Int64} {x : Int32} (hx : x < 0 ∨ nI 64 ≤ x) (h : post 0) : wpX_isOn post w x := cx_cellF hx (br_t rfl h)
theorem cx_count {post : Int32 → Prop} {w : Int64} (h : post (nI (cp_ct (cp_b w) 64))) : wpX_count post w := by
  refine loop_0 (fun n i s => wX_count_4 post w n s (nI i)) (fun i s => s = nI (cp_ct (cp_b w) i)) 64 0 rfl ?_ ?_
  · intro n s hs; subst hs; exact br_t cp_64 h
  · intro n i s hi hs k
    subst hs
    exact br_f (nI_ge (b := 64) hi (by decide)) (cx_has hi (cp_Ib (fun e => nm_r (nI_1 i) (k _ (by rw [cp_ctF e]))) (fun e => nm_r (nI_1 _) (nm_r (nI_1 i) (k _ (by rw [cp_ctT e]))))))
theorem cx_become {post : Int32 → SX → Prop} {w w' : Int64} (h : post (nI (cp_ct (cp_b (w ^^^ w')) 64)) w') : wpX_become post w w' := nm_e (cx_count h)
theorem cx_least {post : Int32 → Prop} {w : Int64} {l : Nat} (hl : cp_b w l = true) (hm : ∀ d, d < l → cp_b w d = false) (h : post (nI l)) : wpX_least post w := by
  have l64 := cp_lt hl
  refine loop_0 (fun n i (_ : Unit) => wX_least_2 post w n (nI i)) (fun _ _ => True) l () trivial ?_ ?_
  · intro n s _
    exact br_f (nI_ge (b := 64) l64 (by decide)) (cx_has l64 (cp_Ib (fun e => by rw [hl] at e; exact absurd e (by decide)) (fun _ => h)))
  · intro n i s hi _ k
    exact br_f (nI_ge (b := 64) (by omega) (by decide)) (cx_has (by omega) (cp_Ib (fun _ => nm_r (nI_1 i) (k () trivial)) (fun e => by rw [hm i hi] at e; exact absurd e (by decide))))
theorem cx_near {post : Int64 → Prop} {m : Bool} {w : Int64} (h : post (cp_nr m w)) : wpX_near post (cp_md m) w := by
  refine nm_e (cp_md8 (fun e => ?_) (fun e => ?_))
  · subst e; exact h
  · subst e; exact h
theorem cx_spread {post : Int64 → Prop} {m : Bool} {W S : Int64} (h : post (cp_G m W S)) : wpX_spread post (cp_md m) S W := by
  refine loop_0 (fun n i s => wX_spread_6 post (cp_md m) W n s (nI i)) (fun i s => s = cp_sp m W S i) 64 S rfl ?_ ?_
  · intro n s hs; subst hs; exact br_t cp_64 h
  · intro n i s hi hs k
    subst hs
    exact br_f (nI_ge (b := 64) hi (by decide)) (cx_near (nm_e (nm_r (nI_1 i) (k _ rfl))))
theorem cx_groups {post : Int32 → Prop} {m : Bool} {W : Int64} (h : post (nI (cp_ct (cp_ld m W) 64))) : wpX_countGroups post (cp_md m) W := by
  refine loop_0 (fun n i (s : Int32 × Int64) => wX_countGroups_8 post (cp_md m) W n s.1 s.2 (nI i)) (fun i s => s.1 = nI (cp_ct (cp_ld m W) i) ∧ cp_rest m W i s.2) 64 (0, W) ⟨rfl, cp_rest0 m W⟩ ?_ ?_
  · rintro n ⟨s, r⟩ ⟨hs, hr⟩
    dsimp only at hs hr
    subst hs
    exact br_t cp_64 h
  · rintro n i ⟨s, r⟩ hi ⟨hs, hr⟩ k
    dsimp only at hs hr
    subst hs
    have hl := cp_rest_ld hi hr
    refine br_f (nI_ge (b := 64) hi (by decide)) (cx_has hi (cp_Ib (fun e => ?_) (fun e => ?_)))
    · exact nm_r (nI_1 i) (k (_, r) ⟨congrArg nI (cp_ctF (hl ▸ e)).symm, cp_restF hi hr e⟩)
    · refine nm_r (nI_1 _) (cx_spread (S := cp_1 i) (nm_e (nm_r (nI_1 i) (k (_, _) ⟨congrArg nI (cp_ctT (hl ▸ e)).symm, cp_restT hi hr e⟩))))
def cp_O (w : Int64) : Int64 := w ^^^ (-1)
def cp_H (m : Bool) (w : Int64) : Int64 := cp_O w &&& (cp_G (!m) (cp_O w) (cp_O w &&& cp_RIM) ^^^ (-1))
theorem cx_holes {post : Int64 → Prop} {m : Bool} {w : Int64} (h : post (cp_H m w)) : wpX_cellsOfHoles post w (cp_md m) :=
  nm_e (cx_other m (cx_spread h))
def cp_sh (m : Bool) (w : Int64) : Int64 := w &&& ((cp_nr m (w ^^^ (-1)) ||| cp_RIM) ^^^ (-1))
theorem cx_shrunk {post : Int64 → Prop} {m : Bool} {w : Int64} (h : post (cp_sh m w)) : wpX_shrunk post (cp_md m) w := cx_near h
def cp_mx (m : Bool) (W : Int64) : Nat → Nat
  | 0 => 0
  | n + 1 => if cp_b W n then (if cp_ct (cp_b (cp_C m W n)) 64 ≤ cp_mx m W n then cp_mx m W n else cp_ct (cp_b (cp_C m W n)) 64) else cp_mx m W n
theorem cp_mx_up (m : Bool) (W : Int64) (n : Nat) : cp_mx m W n ≤ cp_mx m W (n + 1) := by
  rw [cp_mx]; split
  · split <;> omega
  · omega
theorem cp_mx_le (m : Bool) (W : Int64) (n : Nat) : cp_mx m W n ≤ 64 := by
  induction n with
  | zero => exact Nat.zero_le _
  | succ n ih =>
    have := cp_ct_le (cp_b (cp_C m W n)) 64
    rw [cp_mx]; split
    · split <;> omega
    · omega
theorem cp_mx_ge (m : Bool) (W : Int64) (n e : Nat) (he : e < n) (hw : cp_b W e = true) : cp_ct (cp_b (cp_C m W e)) 64 ≤ cp_mx m W n := by
  induction n with
  | zero => omega
  | succ n ih =>
    by_cases q : e = n
    · subst q; rw [cp_mx, if_pos hw]; split <;> omega
    · exact Nat.le_trans (ih (by omega)) (cp_mx_up m W n)
theorem cp_mx_old {m : Bool} {W r : Int64} {i : Nat} (hi : i < 64) (h : cp_rest m W i r) (hb : cp_b r i = false) : cp_mx m W (i + 1) = cp_mx m W i := by
  rw [cp_mx]
  by_cases hw : cp_b W i = true
  · obtain ⟨e, he, hwe, ec⟩ := cp_rest_old hi h hb hw
    rw [if_pos hw, ec, if_pos (cp_mx_ge m W i e he hwe)]
  · rw [if_neg hw]
theorem cx_largest {post : Int32 → Prop} {m : Bool} {W : Int64} (h : post (nI (cp_mx m W 64))) : ∃ n, wX_largest_19 post (cp_md m) W n 0 W 0 := by
  refine loop_0 (fun n i (s : Int32 × Int64) => wX_largest_19 post (cp_md m) W n s.1 s.2 (nI i)) (fun i s => s.1 = nI (cp_mx m W i) ∧ cp_rest m W i s.2) 64 (0, W) ⟨rfl, cp_rest0 m W⟩ ?_ ?_
  · rintro n ⟨s, r⟩ ⟨hs, hr⟩
    dsimp only at hs hr
    subst hs
    exact br_t cp_64 h
  · rintro n i ⟨s, r⟩ hi ⟨hs, hr⟩ k
    dsimp only at hs hr
    subst hs
    have l1 := cp_mx_le m W i
    have l2 := cp_ct_le (cp_b (cp_C m W i)) 64
    refine br_f (nI_ge (b := 64) hi (by decide)) (cx_has hi (cp_Ib (fun e => ?_) (fun e => ?_)))
    · exact nm_r (nI_1 i) (k (_, r) ⟨congrArg nI (cp_mx_old hi hr e).symm, cp_restF hi hr e⟩)
    · have hw := ((hr i hi).mp e).1
      refine cx_spread (S := cp_1 i) (cx_count (pk_le (cp_ct (cp_b (cp_C m W i)) 64) (cp_mx m W i) (fun g => ?_) (fun g => ?_)))
      · exact nm_e (nm_r (nI_1 i) (k (_, _) ⟨congrArg nI (by rw [cp_mx, if_pos hw, if_pos g]), cp_restT hi hr e⟩))
      · exact nm_e (nm_r (nI_1 i) (k (_, _) ⟨congrArg nI (by rw [cp_mx, if_pos hw, if_neg (by omega)]; rfl), cp_restT hi hr e⟩))
def cp_kp (m : Bool) (W : Int64) (n i : Nat) (k : Int64) : Prop := ∀ d, d < 64 → (cp_b k d = true ↔ cp_b W d = true ∧ ∀ e, e < i → cp_b W e = true → cp_b (cp_C m W e) d = true → n ≤ cp_ct (cp_b (cp_C m W e)) 64)
theorem cp_kp0 (m : Bool) (W : Int64) (n : Nat) : cp_kp m W n 0 W := fun d _ => ⟨fun h => ⟨h, fun e he => absurd he (by omega)⟩, fun h => h.1⟩
theorem cp_kpS {m : Bool} {W : Int64} {n i : Nat} {k : Int64} (h : cp_kp m W n i k) (hs : ∀ d, d < 64 → cp_b k d = true → cp_b W i = true → cp_b (cp_C m W i) d = true → n ≤ cp_ct (cp_b (cp_C m W i)) 64) : cp_kp m W n (i + 1) k := by
  intro d hd
  constructor
  · intro hk
    obtain ⟨h1, h2⟩ := (h d hd).mp hk
    refine ⟨h1, fun e he hw hc => ?_⟩
    by_cases q : e = i
    · subst q; exact hs d hd hk hw hc
    · exact h2 e (by omega) hw hc
  · rintro ⟨h1, h2⟩
    exact (h d hd).mpr ⟨h1, fun e he => h2 e (by omega)⟩
theorem cp_kpF {m : Bool} {W r : Int64} {n i : Nat} {k : Int64} (hi : i < 64) (h : cp_kp m W n i k) (hr : cp_rest m W i r) (hb : cp_b r i = false) : cp_kp m W n (i + 1) k := by
  refine cp_kpS h fun d hd hk hw hc => ?_
  obtain ⟨e, he, hwe, ec⟩ := cp_rest_old hi hr hb hw
  rw [ec] at hc ⊢
  exact ((h d hd).mp hk).2 e he hwe hc
theorem cp_kpD {m : Bool} {W : Int64} {n i : Nat} {k : Int64} (h : cp_kp m W n i k) (hw : cp_b W i = true) (hn : cp_ct (cp_b (cp_C m W i)) 64 < n) : cp_kp m W n (i + 1) (k &&& (cp_C m W i ^^^ (-1))) := by
  intro d hd
  rw [cp_and, cp_not _ hd, Bool.and_eq_true, h d hd]
  constructor
  · rintro ⟨⟨h1, h2⟩, h3⟩
    refine ⟨h1, fun e he hwe hc => ?_⟩
    by_cases q : e = i
    · subst q; rw [hc] at h3; exact absurd h3 (by decide)
    · exact h2 e (by omega) hwe hc
  · rintro ⟨h1, h2⟩
    refine ⟨⟨h1, fun e he => h2 e (by omega)⟩, ?_⟩
    cases q : cp_b (cp_C m W i) d
    · rfl
    · have := h2 i (by omega) hw q; omega
theorem cp_kpE {m : Bool} {W : Int64} {n : Nat} {k : Int64} (h : cp_kp m W n 64 k) (d : Nat) (hd : d < 64) : cp_b k d = (cp_b W d && decide (n ≤ cp_ct (cp_b (cp_C m W d)) 64)) := by
  refine cp_bi ((h d hd).trans ?_)
  rw [Bool.and_eq_true, decide_eq_true_eq]
  refine and_congr_right fun hw => ⟨fun g => g d hd hw (cp_C_r m W hd), fun g e he hwe hc => ?_⟩
  rw [cp_C_eq hwe hc] at g; exact g
theorem cx_clear {post : Int32 → SX → Prop} {m : Bool} {W : Int64} {c : Nat} (hc : c ≤ 64) (h : ∀ w', (∀ d, d < 64 → cp_b w' d = (cp_b W d && decide (c ≤ cp_ct (cp_b (cp_C m W d)) 64))) → post (nI (cp_ct (cp_b (W ^^^ w')) 64)) w') : ∃ n, wX_clear_33 post (cp_md m) (nI c) W n W W 0 := by
  refine loop_0 (fun n i (s : Int64 × Int64) => wX_clear_33 post (cp_md m) (nI c) W n s.1 s.2 (nI i)) (fun i s => cp_kp m W c i s.1 ∧ cp_rest m W i s.2) 64 (W, W) ⟨cp_kp0 m W c, cp_rest0 m W⟩ ?_ ?_
  · rintro n ⟨s, r⟩ ⟨hs, hr⟩
    exact br_t cp_64 (cx_become (h s (cp_kpE hs)))
  · rintro n i ⟨s, r⟩ hi ⟨hs, hr⟩ k
    have l2 := cp_ct_le (cp_b (cp_C m W i)) 64
    refine br_f (nI_ge (b := 64) hi (by decide)) (cx_has hi (cp_Ib (fun e => ?_) (fun e => ?_)))
    · exact nm_r (nI_1 i) (k (_, r) ⟨cp_kpF hi hs hr e, cp_restF hi hr e⟩)
    · have hw := ((hr i hi).mp e).1
      refine cx_spread (S := cp_1 i) (cx_count (pk_le c (cp_ct (cp_b (cp_C m W i)) 64) (fun g => ?_) (fun g => ?_)))
      · exact nm_e (nm_r (nI_1 i) (k (s, r &&& (cp_C m W i ^^^ (-1))) ⟨cp_kpS hs (fun _ _ _ _ _ => g), cp_restT hi hr e⟩))
      · exact nm_e (nm_r (nI_1 i) (k (s &&& (cp_C m W i ^^^ (-1)), r &&& (cp_C m W i ^^^ (-1))) ⟨cp_kpD hs hw g, cp_restT hi hr e⟩))
/-- the answer of way: t steps -/
theorem cx_wayT {post : Int32 → Prop} {m : Bool} {W S : Int64} {b t : Nat} (hb : b < 64) (ht : t < 64) (h1 : cp_b (cp_sp m W S t) b = true) (h2 : ∀ s, s < t → cp_b (cp_sp m W S s) b = false) (h : post (nI t)) : ∃ n, wX_way_36 post (cp_md m) (nI b) W n S 0 := by
  refine loop_0 (fun n i s => wX_way_36 post (cp_md m) (nI b) W n s (nI i)) (fun i s => s = cp_sp m W S i) t S rfl ?_ ?_
  · intro n s hs; subst hs
    exact br_f (nI_ge (b := 64) ht (by decide)) (cx_has hb (cp_Ib (fun e => by rw [h1] at e; exact absurd e (by decide)) (fun _ => h)))
  · intro n i s hi hs k; subst hs
    exact br_f (nI_ge (b := 64) (by omega) (by decide)) (cx_has hb (cp_Ib (fun _ => cx_near (nm_e (nm_r (nI_1 i) (k _ rfl)))) (fun e => by rw [h2 i hi] at e; exact absurd e (by decide))))
theorem cx_wayF {post : Int32 → Prop} {m : Bool} {W S : Int64} {b : Nat} (hb : b < 64) (h2 : ∀ s, cp_b (cp_sp m W S s) b = false) (h : post (-4)) : ∃ n, wX_way_36 post (cp_md m) (nI b) W n S 0 := by
  refine loop_0 (fun n i s => wX_way_36 post (cp_md m) (nI b) W n s (nI i)) (fun i s => s = cp_sp m W S i) 64 S rfl ?_ ?_
  · intro n s hs; subst hs
    exact br_t cp_64 h
  · intro n i s hi hs k; subst hs
    exact br_f (nI_ge (b := 64) (by omega) (by decide)) (cx_has hb (cp_Ib (fun _ => cx_near (nm_e (nm_r (nI_1 i) (k _ rfl)))) (fun e => by rw [h2 i] at e; exact absurd e (by decide))))
def cp_shk (w : Int64) : Nat → Int64
  | 0 => w
  | k + 1 => cp_sh false (cp_shk w k)
theorem cx_depth {post : Int32 → Prop} {w : Int64} {c t : Nat} (hc : c < 64) (ht : t ≤ 64) (h1 : cp_b (cp_shk w t) c = false) (h2 : ∀ s, s < t → cp_b (cp_shk w s) c = true) (h : post (nI t)) : ∃ n, wX_depth_17 post (nI c) w n w 0 := by
  refine loop_0 (fun n i s => wX_depth_17 post (nI c) w n s (nI i)) (fun i s => s = cp_shk w i) t w rfl ?_ ?_
  · intro n s hs; subst hs
    exact pk_le 64 t (fun _ => h) (fun _ => cx_has hc (cp_Ib (fun _ => h) (fun e => by rw [h1] at e; exact absurd e (by decide))))
  · intro n i s hi hs k; subst hs
    exact br_f (nI_ge (b := 64) (by omega) (by decide)) (cx_has hc (cp_Ib (fun e => by rw [h2 i hi] at e; exact absurd e (by decide)) (fun _ => cx_shrunk (m := false) (nm_r (nI_1 i) (k _ rfl)))))
/-- the rectangle -/
def cp_Q (f t d : Nat) : Bool := decide (f % 8 ≤ d % 8 ∧ d % 8 ≤ t % 8 ∧ f / 8 ≤ d / 8 ∧ d / 8 ≤ t / 8)
theorem cx_rect {post : Int64 → Prop} {f t : Nat} (hf : f < 64) (ht : t < 64) (h : ∀ r, (∀ d, d < 64 → cp_b r d = cp_Q f t d) → post r) : wpX_rectangle post (nI f) (nI t) := by
  refine loop_0 (fun n i s => wX_rectangle_5 post (nI f) (nI t) n s (nI i)) (fun i s => ∀ d, d < 64 → cp_b s d = (decide (d < i) && cp_Q f t d)) 64 0 ?_ ?_ ?_
  · intro d _; rw [cp_0]; simp
  · intro n s hs
    exact br_t cp_64 (h s (fun d hd => by rw [hs d hd, decide_eq_true hd, Bool.true_and]))
  · intro n i s hi hs k
    have hF : cp_Q f t i = false → ∀ d, d < 64 → cp_b s d = (decide (d < i + 1) && cp_Q f t d) := by
      intro q d hd
      rw [hs d hd]
      by_cases e : d = i
      · subst e; rw [q]; simp
      · have e2 : d < i ↔ d < i + 1 := by omega
        simp only [e2]
    have hT : cp_Q f t i = true → ∀ d, d < 64 → cp_b (s ||| cp_1 i) d = (decide (d < i + 1) && cp_Q f t d) := by
      intro q d hd
      rw [cp_or, hs d hd, cp_one hi hd]
      by_cases e : d = i
      · subst e; rw [q]; simp
      · have e2 : d < i ↔ d < i + 1 := by omega
        simp [e, e2]
    refine br_f (nI_ge (b := 64) hi (by decide)) ⟨cp_n8, nm_r (cp_rem8 hi) ⟨cp_n8, nm_r (cp_div8 hi) ⟨cp_n8, pk_lt (i % 8) (f % 8) (fun g => ?_) (fun g => ⟨cp_n8, pk_lt (t % 8) (i % 8) (fun g2 => ?_) (fun g2 => ?_) (cp_rem8 ht) rfl⟩) rfl (cp_rem8 hf)⟩⟩⟩
    · exact br_t rfl (nm_r (nI_1 i) (k _ (hF (decide_eq_false (by omega)))))
    · exact br_t rfl (nm_r (nI_1 i) (k _ (hF (decide_eq_false (by omega)))))
    · refine br_f (by decide) ⟨cp_n8, pk_lt (i / 8) (f / 8) (fun g3 => ?_) (fun g3 => ⟨cp_n8, pk_lt (t / 8) (i / 8) (fun g4 => ?_) (fun g4 => ?_) (cp_div8 ht) rfl⟩) rfl (cp_div8 hf)⟩
      · exact nm_r (nI_1 i) (k _ (hF (decide_eq_false (by omega))))
      · exact nm_r (nI_1 i) (k _ (hF (decide_eq_false (by omega))))
      · exact nm_e (nm_r (nI_1 i) (k _ (hT (decide_eq_true ⟨g, g2, g3, g4⟩))))
