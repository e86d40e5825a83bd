/-! neighbours, spreading, connected cells -/
def cp_df (a b : Nat) : Nat := (a - b) + (b - a)
def cp_ad (m : Bool) (c d : Nat) : Bool :=
  decide (cp_df (c % 8) (d % 8) * cp_df (c % 8) (d % 8) + cp_df (c / 8) (d / 8) * cp_df (c / 8) (d / 8) = 1) || (m && decide (cp_df (c % 8) (d % 8) * cp_df (c % 8) (d % 8) + cp_df (c / 8) (d / 8) * cp_df (c / 8) (d / 8) = 2))
theorem cp_df_s (a b : Nat) : cp_df a b = cp_df b a := by unfold cp_df; omega
theorem cp_ad_s (m : Bool) (c d : Nat) : cp_ad m c d = cp_ad m d c := by
  unfold cp_ad; rw [cp_df_s (c % 8), cp_df_s (c / 8)]
def cp_L (w : Int64) : Int64 := ((w &&& (-72340172838076674)).toUInt64 >>> ((1 : Int32).toInt64.toUInt64 &&& Int64.toUInt64 63)).toInt64
def cp_R (w : Int64) : Int64 := (w &&& 9187201950435737471) <<< ((1 : Int32).toInt64 &&& 63)
def cp_U (w : Int64) : Int64 := w <<< ((8 : Int32).toInt64 &&& 63)
def cp_D (w : Int64) : Int64 := (w.toUInt64 >>> ((8 : Int32).toInt64.toUInt64 &&& Int64.toUInt64 63)).toInt64
def cp_nr (m : Bool) (w : Int64) : Int64 := ((cp_L w ||| cp_R w) ||| cp_U (if m then w ||| (cp_L w ||| cp_R w) else w)) ||| cp_D (if m then w ||| (cp_L w ||| cp_R w) else w)
theorem cp_Lb (w : Int64) {c : Nat} (hc : c < 64) : cp_b (cp_L w) c = (decide (c % 8 ≠ 7) && cp_b w (c + 1)) := by
  show cp_b (((w &&& (-72340172838076674)).toUInt64 >>> ((nI 1).toInt64.toUInt64 &&& Int64.toUInt64 63)).toInt64) c = _
  rw [cp_shr _ c (by omega), cp_and, Nat.add_comm 1 c]
  rcases Nat.lt_or_ge (c + 1) 64 with h | h
  · rw [cp_lm _ h]
    by_cases e : c % 8 = 7
    · simp [e]; omega
    · have : ¬ (c + 1) % 8 = 0 := by omega
      simp [e, this]
  · rw [cp_big h]; simp
theorem cp_Rb (w : Int64) {c : Nat} (hc : c < 64) : cp_b (cp_R w) c = (decide (c % 8 ≠ 0) && cp_b w (c - 1)) := by
  show cp_b ((w &&& 9187201950435737471) <<< ((nI 1).toInt64 &&& 63)) c = _
  rw [cp_shl _ (by omega) hc, cp_and, cp_rm _ (by omega)]
  by_cases e : c % 8 = 0
  · by_cases z : c = 0
    · subst z; simp
    · have h1 : (c - 1) % 8 = 7 := by omega
      simp [e, h1]
  · have h1 : ¬ (c - 1) % 8 = 7 := by omega
    have h2 : 1 ≤ c := by omega
    simp [e, h1, h2]
theorem cp_Ub (w : Int64) {c : Nat} (hc : c < 64) : cp_b (cp_U w) c = (decide (8 ≤ c) && cp_b w (c - 8)) := cp_shl (k := 8) w (by omega) hc
theorem cp_Db (w : Int64) (c : Nat) : cp_b (cp_D w) c = cp_b w (c + 8) := by
  rw [Nat.add_comm]; exact cp_shr (k := 8) w c (by omega)
theorem cp_t1 : ∀ m : Bool, ∀ c, c < 64 → (c % 8 ≠ 7 → cp_ad m c (c + 1) = true) ∧ (c % 8 ≠ 0 → cp_ad m c (c - 1) = true) ∧ (8 ≤ c → cp_ad m c (c - 8) = true) ∧ (cp_ad m c (c + 8) = true) := by decide +kernel
theorem cp_t2 : ∀ c, c < 64 → (8 ≤ c → c % 8 ≠ 7 → cp_ad true c (c - 8 + 1) = true) ∧ (8 ≤ c → c % 8 ≠ 0 → cp_ad true c (c - 8 - 1) = true) ∧ (c % 8 ≠ 7 → cp_ad true c (c + 8 + 1) = true) ∧ (c % 8 ≠ 0 → cp_ad true c (c + 8 - 1) = true) := by decide +kernel
def cp_t3q (c d : Nat) : Bool := !cp_ad false c d || decide ((d = c + 1 ∧ c % 8 ≠ 7) ∨ (d = c - 1 ∧ c % 8 ≠ 0) ∨ (d = c - 8 ∧ 8 ≤ c) ∨ d = c + 8)
theorem cp_t3r : ∀ c, c < 64 → ∀ d, d < 64 → cp_t3q c d = true := by decide +kernel
theorem cp_t3 (c : Nat) (hc : c < 64) (d : Nat) (hd : d < 64) (ha : cp_ad false c d = true) : (d = c + 1 ∧ c % 8 ≠ 7) ∨ (d = c - 1 ∧ c % 8 ≠ 0) ∨ (d = c - 8 ∧ 8 ≤ c) ∨ d = c + 8 := by
  have h := cp_t3r c hc d hd
  unfold cp_t3q at h
  rw [ha, Bool.not_true, Bool.false_or, decide_eq_true_eq] at h
  exact h
def cp_t4q (c d : Nat) : Bool := !cp_ad true c d || decide ((d = c + 1 ∧ c % 8 ≠ 7) ∨ (d = c - 1 ∧ c % 8 ≠ 0) ∨ (8 ≤ c ∧ (d = c - 8 ∨ (d = c - 8 + 1 ∧ c % 8 ≠ 7) ∨ (d = c - 8 - 1 ∧ c % 8 ≠ 0))) ∨ (d = c + 8 ∨ (d = c + 8 + 1 ∧ c % 8 ≠ 7) ∨ (d = c + 8 - 1 ∧ c % 8 ≠ 0)))
theorem cp_t4r : ∀ c, c < 64 → ∀ d, d < 64 → cp_t4q c d = true := by decide +kernel
theorem cp_t4 (c : Nat) (hc : c < 64) (d : Nat) (hd : d < 64) (ha : cp_ad true c d = true) : (d = c + 1 ∧ c % 8 ≠ 7) ∨ (d = c - 1 ∧ c % 8 ≠ 0) ∨ (8 ≤ c ∧ (d = c - 8 ∨ (d = c - 8 + 1 ∧ c % 8 ≠ 7) ∨ (d = c - 8 - 1 ∧ c % 8 ≠ 0))) ∨ (d = c + 8 ∨ (d = c + 8 + 1 ∧ c % 8 ≠ 7) ∨ (d = c + 8 - 1 ∧ c % 8 ≠ 0)) := by
  have h := cp_t4r c hc d hd
  unfold cp_t4q at h
  rw [ha, Bool.not_true, Bool.false_or, decide_eq_true_eq] at h
  exact h
theorem cp_nrb (m : Bool) (w : Int64) {c : Nat} (hc : c < 64) : cp_b (cp_nr m w) c = true ↔ ∃ d, cp_b w d = true ∧ cp_ad m c d = true := by
  unfold cp_nr
  rw [cp_or, cp_or, cp_or, cp_Lb w hc, cp_Rb w hc, cp_Ub _ hc, cp_Db]
  have t1 := cp_t1 m c hc
  cases m
  · simp only [Bool.or_eq_true, Bool.and_eq_true, decide_eq_true_eq, Bool.false_eq_true, if_false]
    constructor
    · rintro (((⟨a, b⟩ | ⟨a, b⟩) | ⟨a, b⟩) | b)
      · exact ⟨_, b, t1.1 a⟩
      · exact ⟨_, b, t1.2.1 a⟩
      · exact ⟨_, b, t1.2.2.1 a⟩
      · exact ⟨_, b, t1.2.2.2⟩
    · rintro ⟨d, hd, ha⟩
      rcases cp_t3 c hc d (cp_lt hd) ha with ⟨e, h⟩ | ⟨e, h⟩ | ⟨e, h⟩ | e
      · subst e; exact Or.inl (Or.inl (Or.inl ⟨h, hd⟩))
      · subst e; exact Or.inl (Or.inl (Or.inr ⟨h, hd⟩))
      · subst e; exact Or.inl (Or.inr ⟨h, hd⟩)
      · subst e; exact Or.inr hd
  · have t2 := cp_t2 c hc
    simp only [if_true]
    have hu : c - 8 < 64 := by omega
    have hD : cp_b (w ||| (cp_L w ||| cp_R w)) (c + 8) = (cp_b w (c + 8) || ((decide (c % 8 ≠ 7) && cp_b w (c + 8 + 1)) || (decide (c % 8 ≠ 0) && cp_b w (c + 8 - 1)))) := by
      rcases Nat.lt_or_ge (c + 8) 64 with h | h
      · rw [cp_or, cp_or, cp_Lb w h, cp_Rb w h, show (c + 8) % 8 = c % 8 by omega]
      · rw [cp_big h, cp_big h, cp_big (show 64 ≤ c + 8 + 1 by omega)]
        by_cases e : c % 8 = 0
        · simp [e]
        · rw [cp_big (show 64 ≤ c + 8 - 1 by omega)]; simp
    have hU : (decide (8 ≤ c) && cp_b (w ||| (cp_L w ||| cp_R w)) (c - 8)) = (decide (8 ≤ c) && (cp_b w (c - 8) || ((decide (c % 8 ≠ 7) && cp_b w (c - 8 + 1)) || (decide (c % 8 ≠ 0) && cp_b w (c - 8 - 1))))) := by
      by_cases h : 8 ≤ c
      · rw [cp_or, cp_or, cp_Lb w hu, cp_Rb w hu, show (c - 8) % 8 = c % 8 by omega]
      · simp [h]
    rw [hU, hD]
    simp only [Bool.or_eq_true, Bool.and_eq_true, decide_eq_true_eq]
    constructor
    · rintro (((⟨a, b⟩ | ⟨a, b⟩) | ⟨a, b | ⟨e, b⟩ | ⟨e, b⟩⟩) | b | ⟨e, b⟩ | ⟨e, b⟩)
      · exact ⟨_, b, t1.1 a⟩
      · exact ⟨_, b, t1.2.1 a⟩
      · exact ⟨_, b, t1.2.2.1 a⟩
      · exact ⟨_, b, t2.1 a e⟩
      · exact ⟨_, b, t2.2.1 a e⟩
      · exact ⟨_, b, t1.2.2.2⟩
      · exact ⟨_, b, t2.2.2.1 e⟩
      · exact ⟨_, b, t2.2.2.2 e⟩
    · rintro ⟨d, hd, ha⟩
      rcases cp_t4 c hc d (cp_lt hd) ha with ⟨e, h⟩ | ⟨e, h⟩ | ⟨h, e | ⟨e, g⟩ | ⟨e, g⟩⟩ | e | ⟨e, g⟩ | ⟨e, g⟩
      · subst e; exact Or.inl (Or.inl (Or.inl ⟨h, hd⟩))
      · subst e; exact Or.inl (Or.inl (Or.inr ⟨h, hd⟩))
      · subst e; exact Or.inl (Or.inr ⟨h, Or.inl hd⟩)
      · subst e; exact Or.inl (Or.inr ⟨h, Or.inr (Or.inl ⟨g, hd⟩)⟩)
      · subst e; exact Or.inl (Or.inr ⟨h, Or.inr (Or.inr ⟨g, hd⟩)⟩)
      · subst e; exact Or.inr (Or.inl hd)
      · subst e; exact Or.inr (Or.inr (Or.inl ⟨g, hd⟩))
      · subst e; exact Or.inr (Or.inr (Or.inr ⟨g, hd⟩))
/-! k steps of spreading from S within W -/
def cp_sp (m : Bool) (W S : Int64) : Nat → Int64
  | 0 => S
  | k + 1 => cp_sp m W S k ||| (cp_nr m (cp_sp m W S k) &&& W)
theorem cp_spS (m : Bool) (W S : Int64) (k : Nat) {c : Nat} : cp_b (cp_sp m W S (k + 1)) c = true ↔ cp_b (cp_sp m W S k) c = true ∨ (cp_b W c = true ∧ ∃ d, cp_b (cp_sp m W S k) d = true ∧ cp_ad m c d = true) := by
  rcases Nat.lt_or_ge c 64 with hc | hc
  · rw [cp_sp, cp_or, cp_and, Bool.or_eq_true, Bool.and_eq_true, cp_nrb m _ hc]
    exact or_congr Iff.rfl And.comm
  · rw [cp_big hc, cp_big hc, cp_big hc]; simp
theorem cp_sp_le (m : Bool) (W S : Int64) {j k : Nat} (h : j ≤ k) {c : Nat} (hb : cp_b (cp_sp m W S j) c = true) : cp_b (cp_sp m W S k) c = true := by
  induction k with
  | zero => rw [show j = 0 by omega] at hb; exact hb
  | succ k ih =>
    by_cases e : j = k + 1
    · subst e; exact hb
    · exact (cp_spS m W S k).mpr (Or.inl (ih (by omega)))
theorem cp_stab (m : Bool) (W S : Int64) {k : Nat} (h : cp_sp m W S (k + 1) = cp_sp m W S k) (j : Nat) : cp_sp m W S (k + j) = cp_sp m W S k := by
  induction j with
  | zero => rfl
  | succ j ih =>
    show cp_sp m W S (k + j) ||| (cp_nr m (cp_sp m W S (k + j)) &&& W) = _
    rw [ih]; exact h
theorem cp_grow (m : Bool) (W S : Int64) (k : Nat) : (∃ j, j < k ∧ cp_sp m W S (j + 1) = cp_sp m W S j) ∨ k ≤ cp_ct (cp_b (cp_sp m W S k)) 64 := by
  induction k with
  | zero => exact Or.inr (Nat.zero_le _)
  | succ k ih =>
    rcases ih with ⟨j, hj, e⟩ | h
    · exact Or.inl ⟨j, by omega, e⟩
    · by_cases e : cp_sp m W S (k + 1) = cp_sp m W S k
      · exact Or.inl ⟨k, by omega, e⟩
      · right
        have mono : ∀ c, c < 64 → cp_b (cp_sp m W S k) c = true → cp_b (cp_sp m W S (k + 1)) c = true := fun c _ hb => cp_sp_le m W S (Nat.le_succ k) hb
        have hd : ∃ d, d < 64 ∧ cp_b (cp_sp m W S k) d = false ∧ cp_b (cp_sp m W S (k + 1)) d = true := by
          refine Classical.byContradiction fun hn => e (cp_ext fun c hc => ?_)
          cases h1 : cp_b (cp_sp m W S k) c
          · cases h2 : cp_b (cp_sp m W S (k + 1)) c
            · rfl
            · exact absurd ⟨c, hc, h1, h2⟩ hn
          · exact mono c hc h1
        obtain ⟨d, hd, h1, h2⟩ := hd
        have := cp_ct_strict 64 mono hd h1 h2
        omega
theorem cp_fix (m : Bool) (W S : Int64) : cp_sp m W S 65 = cp_sp m W S 64 := by
  rcases cp_grow m W S 65 with ⟨j, hj, e⟩ | h
  · have h1 := cp_stab m W S e (65 - j)
    have h2 := cp_stab m W S e (64 - j)
    rw [show j + (65 - j) = 65 by omega] at h1
    rw [show j + (64 - j) = 64 by omega] at h2
    rw [h1, h2]
  · have := cp_ct_le (cp_b (cp_sp m W S 65)) 64
    omega
def cp_G (m : Bool) (W S : Int64) : Int64 := cp_sp m W S 64
theorem cp_G_of (m : Bool) (W S : Int64) {k c : Nat} (h : cp_b (cp_sp m W S k) c = true) : cp_b (cp_G m W S) c = true := by
  rcases Nat.le_total k 64 with g | g
  · exact cp_sp_le m W S g h
  · have := cp_stab m W S (cp_fix m W S) (k - 64)
    rw [show 64 + (k - 64) = k by omega] at this
    rw [this] at h; exact h
theorem cp_G_0 (m : Bool) (W S : Int64) {c : Nat} (h : cp_b S c = true) : cp_b (cp_G m W S) c = true := cp_G_of m W S (k := 0) h
theorem cp_G_cl (m : Bool) (W S : Int64) {c d : Nat} (hd : cp_b (cp_G m W S) d = true) (ha : cp_ad m c d = true) (hw : cp_b W c = true) : cp_b (cp_G m W S) c = true := by
  have h : cp_b (cp_sp m W S 65) c = true := (cp_spS m W S 64).mpr (Or.inr ⟨hw, d, hd, ha⟩)
  rw [cp_fix] at h; exact h
theorem cp_G_min {m : Bool} {W S : Int64} (P : Nat → Prop) (h0 : ∀ c, cp_b S c = true → P c) (hs : ∀ c d, P d → cp_ad m c d = true → cp_b W c = true → P c) : ∀ k c, cp_b (cp_sp m W S k) c = true → P c := by
  intro k
  induction k with
  | zero => exact h0
  | succ k ih =>
    intro c hc
    rcases (cp_spS m W S k).mp hc with h | ⟨hw, d, hd, ha⟩
    · exact ih c h
    · exact hs c d (ih d hd) ha hw
/-! the group of cell c -/
def cp_C (m : Bool) (W : Int64) (c : Nat) : Int64 := cp_G m W (cp_1 c)
theorem cp_C_r (m : Bool) (W : Int64) {c : Nat} (hc : c < 64) : cp_b (cp_C m W c) c = true := cp_G_0 m W _ (by rw [cp_one hc hc]; simp)
theorem cp_1e {c d : Nat} (hc : c < 64) (h : cp_b (cp_1 c) d = true) : d = c := by
  rw [cp_one hc (cp_lt h)] at h; simpa using h
theorem cp_C_min {m : Bool} {W : Int64} {c : Nat} (hc : c < 64) (P : Nat → Prop) (h0 : P c) (hs : ∀ c d, P d → cp_ad m c d = true → cp_b W c = true → P c) {d : Nat} (hd : cp_b (cp_C m W c) d = true) : P d :=
  cp_G_min P (fun e he => by rw [cp_1e hc he]; exact h0) hs 64 d hd
theorem cp_C_w {m : Bool} {W : Int64} {c d : Nat} (hw : cp_b W c = true) (h : cp_b (cp_C m W c) d = true) : cp_b W d = true :=
  cp_C_min (cp_lt hw) (fun e => cp_b W e = true) hw (fun _ _ _ _ h => h) h
theorem cp_C_t {m : Bool} {W : Int64} {a b c : Nat} (h1 : cp_b (cp_C m W a) b = true) (h2 : cp_b (cp_C m W b) c = true) : cp_b (cp_C m W a) c = true :=
  cp_C_min (cp_lt h1) (fun e => cp_b (cp_C m W a) e = true) h1 (fun _ _ hd ha hw => cp_G_cl m W _ hd ha hw) h2
theorem cp_C_s {m : Bool} {W : Int64} {a b : Nat} (hw : cp_b W a = true) (h : cp_b (cp_C m W a) b = true) : cp_b (cp_C m W b) a = true := by
  have := cp_C_min (cp_lt hw) (fun e => cp_b W e = true ∧ cp_b (cp_C m W e) a = true) ⟨hw, cp_C_r m W (cp_lt hw)⟩ (fun e d hd ha he => ⟨he, ?_⟩) h
  · exact this.2
  · refine cp_C_t (b := d) (cp_G_cl m W _ (cp_C_r m W (cp_lt he)) ?_ hd.1) hd.2
    rw [cp_ad_s]; exact ha
theorem cp_C_eq {m : Bool} {W : Int64} {a b : Nat} (hw : cp_b W a = true) (h : cp_b (cp_C m W a) b = true) : cp_C m W b = cp_C m W a := by
  refine cp_ext fun c _ => cp_bi ⟨fun g => cp_C_t h g, fun g => cp_C_t (cp_C_s hw h) g⟩
/-! the least cells of the groups of W -/
def cp_ld (m : Bool) (W : Int64) (c : Nat) : Bool := cp_b W c && decide (cp_ct (cp_b (cp_C m W c)) c = 0)
theorem cp_ldI (m : Bool) (W : Int64) (c : Nat) : cp_ld m W c = true ↔ cp_b W c = true ∧ ∀ d, d < c → cp_b W d = true → cp_b (cp_C m W d) c = false := by
  unfold cp_ld
  rw [Bool.and_eq_true, decide_eq_true_eq, cp_ct_0]
  refine and_congr_right fun hw => ⟨fun h d hd hwd => ?_, fun h d hd => ?_⟩
  · cases e : cp_b (cp_C m W d) c
    · rfl
    · have := cp_C_s hwd e; rw [h d hd] at this; exact absurd this (by decide)
  · cases e : cp_b (cp_C m W c) d
    · rfl
    · have := cp_C_s hw e
      rw [h d hd (cp_C_w hw e)] at this; exact absurd this (by decide)
/-- what is left after the groups of the cells below i -/
def cp_rest (m : Bool) (W : Int64) (i : Nat) (r : Int64) : Prop := ∀ d, d < 64 → (cp_b r d = true ↔ cp_b W d = true ∧ ∀ e, e < i → cp_b W e = true → cp_b (cp_C m W e) d = false)
theorem cp_rest0 (m : Bool) (W : Int64) : cp_rest m W 0 W := fun d _ => ⟨fun h => ⟨h, fun e he => absurd he (by omega)⟩, fun h => h.1⟩
theorem cp_rest_ld {m : Bool} {W r : Int64} {i : Nat} (hi : i < 64) (h : cp_rest m W i r) : cp_b r i = cp_ld m W i := cp_bi ((h i hi).trans (cp_ldI m W i).symm)
theorem cp_restT {m : Bool} {W r : Int64} {i : Nat} (hi : i < 64) (h : cp_rest m W i r) (hb : cp_b r i = true) : cp_rest m W (i + 1) (r &&& (cp_C m W i ^^^ (-1))) := by
  intro d hd
  rw [cp_and, cp_not _ hd, Bool.and_eq_true, h d hd]
  constructor
  · rintro ⟨⟨h1, h2⟩, h3⟩
    refine ⟨h1, fun e he hw => ?_⟩
    by_cases q : e = i
    · subst q; cases g : cp_b (cp_C m W e) d
      · rfl
      · rw [g] at h3; exact absurd h3 (by decide)
    · exact h2 e (by omega) hw
  · rintro ⟨h1, h2⟩
    refine ⟨⟨h1, fun e he => h2 e (by omega)⟩, ?_⟩
    rw [h2 i (by omega) ((h i hi).mp hb).1]; rfl
theorem cp_restF {m : Bool} {W r : Int64} {i : Nat} (hi : i < 64) (h : cp_rest m W i r) (hb : cp_b r i = false) : cp_rest m W (i + 1) r := by
  intro d hd
  rw [h d hd]
  refine and_congr_right fun h1 => ⟨fun h2 e he hw => ?_, fun h2 e he => h2 e (by omega)⟩
  by_cases q : e = i
  · subst q
    cases g : cp_b (cp_C m W e) d
    · rfl
    · exfalso
      have hn : ¬ cp_b r e = true := by rw [hb]; decide
      apply hn
      refine (h e hi).mpr ⟨hw, fun f hf hwf => ?_⟩
      cases g2 : cp_b (cp_C m W f) e
      · rfl
      · have := cp_C_t g2 g
        rw [h2 f hf hwf] at this; exact absurd this (by decide)
  · exact h2 e (by omega) hw
/-- a cell that is on and not left has a group with a lesser on cell in it -/
theorem cp_rest_old {m : Bool} {W r : Int64} {i : Nat} (hi : i < 64) (h : cp_rest m W i r) (hb : cp_b r i = false) (hw : cp_b W i = true) : ∃ e, e < i ∧ cp_b W e = true ∧ cp_C m W i = cp_C m W e := by
  refine Classical.byContradiction fun hn => ?_
  have : cp_b r i = true := (h i hi).mpr ⟨hw, fun e he hwe => by
    cases g : cp_b (cp_C m W e) i
    · rfl
    · exact absurd ⟨e, he, hwe, cp_C_eq hwe g⟩ hn⟩
  rw [hb] at this; exact absurd this (by decide)
