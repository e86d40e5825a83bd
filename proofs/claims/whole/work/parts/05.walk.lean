/-! the reference's walk -/
theorem cy_cellT {post : Int32 → Prop} {f : Int32} {on st me nx : Nat → Int32} {c : Nat} (hc : c < 64) (h : post 1) : wpY_isCell post (f, on, st, me, nx) (nI c) :=
  br_f (nI_pos (by omega)) (br_f (nI_nlt (a := 63) (by omega) (by decide)) h)
theorem cy_cellF {post : Int32 → Prop} {f : Int32} {on st me nx : Nat → Int32} {x : Int32} (hx : x < 0 ∨ nI 64 ≤ x) (h : post 0) : wpY_isCell post (f, on, st, me, nx) x := by
  by_cases h0 : x < 0
  · exact br_t h0 h
  · have h1 := hx.resolve_left h0
    obtain ⟨j, hj, rfl⟩ := nI_of h0
    rw [nI_leI (by decide) hj] at h1
    exact br_f h0 (br_t (nI_lt (a := 63) (by omega) hj) h)
theorem cy_modeT {post : Int32 → Prop} {f : Int32} {on st me nx : Nat → Int32} (m : Bool) (h : post 1) : wpY_isMode post (f, on, st, me, nx) (cp_md m) := by
  cases m
  · exact br_t rfl h
  · exact br_f (by decide) (br_t rfl h)
theorem cy_modeF {post : Int32 → Prop} {f : Int32} {on st me nx : Nat → Int32} {x : Int32} (hx : ¬ x = 4 ∧ ¬ x = 8) (h : post 0) : wpY_isMode post (f, on, st, me, nx) x := br_f hx.1 (br_f hx.2 h)
theorem cp_sq : ∀ a, a < 8 → ∀ b, b < 8 → (nI a - nI b) * (nI a - nI b) = nI (cp_df a b * cp_df a b) := by decide +kernel
theorem cp_sqb : ∀ a, a < 8 → ∀ b, b < 8 → cp_df a b * cp_df a b < 64 := by decide +kernel
theorem cy_near {post : Int32 → Prop} {f : Int32} {on st me nx : Nat → Int32} {c d : Nat} {m : Bool} (hc : c < 64) (hd : d < 64) (h : post (cp_I (cp_ad m c d))) : wpY_isNear post (f, on, st, me, nx) (nI c) (nI d) (cp_md m) := by
  have b1 := cp_sqb (c % 8) (by omega) (d % 8) (by omega)
  have b2 := cp_sqb (c / 8) (by omega) (d / 8) (by omega)
  have e3 : (nI (c % 8) - nI (d % 8)) * (nI (c % 8) - nI (d % 8)) + (nI (c / 8) - nI (d / 8)) * (nI (c / 8) - nI (d / 8)) = nI (cp_df (c % 8) (d % 8) * cp_df (c % 8) (d % 8) + cp_df (c / 8) (d / 8) * cp_df (c / 8) (d / 8)) := by
    rw [cp_sq _ (by omega) _ (by omega), cp_sq _ (by omega) _ (by omega), nI_add]
  have b3 : cp_df (c % 8) (d % 8) * cp_df (c % 8) (d % 8) + cp_df (c / 8) (d / 8) * cp_df (c / 8) (d / 8) < 128 := by omega
  unfold cp_ad at h
  generalize cp_df (c % 8) (d % 8) * cp_df (c % 8) (d % 8) + cp_df (c / 8) (d / 8) * cp_df (c / 8) (d / 8) = q at *
  refine ⟨cp_n8, cp_n8, nm_r (by rw [cp_rem8 hc, cp_rem8 hd]) ⟨cp_n8, cp_n8, nm_r (by rw [cp_div8 hc, cp_div8 hd]) (nm_r e3 ?_)⟩⟩
  by_cases q1 : q = 1
  · subst q1
    exact br_t rfl (by simp at h; exact h)
  · have n1 : ¬ nI q = 1 := fun z => q1 ((nI_eq (b := 1) (by omega) (by decide)).mp z)
    refine br_f n1 (cp_md8 (fun e => ?_) (fun e => ?_))
    · subst e
      by_cases q2 : q = 2
      · subst q2; exact br_t rfl (by simp at h; exact h)
      · have n2 : ¬ nI q = 2 := fun z => q2 ((nI_eq (b := 2) (by omega) (by decide)).mp z)
        exact br_f n2 (by simp [q1, q2] at h; exact h)
    · subst e
      simp [q1] at h; exact h
def cp_V (m : Bool) (W : Int64) (a : Nat) (k D n : Nat) (st me : Nat → Int32) (T M : Nat → Nat) : Prop :=
  n = cp_ct (fun d => decide (T d ≠ 0)) 64 ∧
  (∀ d, d < 64 → st d = nI (T d) - 1) ∧
  (∀ d, T d ≤ n) ∧
  (∀ j, j < n → me j = nI (M j) ∧ M j < 64 ∧ T (M j) ≠ 0) ∧
  (∀ d, d < 64 → T d ≠ 0 → ∃ j, j < n ∧ M j = d) ∧
  (∀ d, d < 64 → T d ≠ 0 → cp_b (cp_sp m W (cp_1 a) (T d - 1)) d = true) ∧
  T a = 1 ∧
  (∀ i j, i ≤ j → j < n → T (M i) ≤ T (M j)) ∧
  (k < n → ∀ j, j < n → T (M j) ≤ T (M k) + 1) ∧
  (∀ i d, d < 64 → i < n → (i < k ∨ (i = k ∧ d < D)) → cp_b W d = true → cp_ad m (M i) d = true → T d ≠ 0 ∧ T d ≤ T (M i) + 1)
theorem cp_V0 (m : Bool) (W : Int64) {a : Nat} (ha : a < 64) {st me : Nat → Int32} (h1 : ∀ d, d < 64 → st d = if d = a then 0 else -1) (h2 : me 0 = nI a) : ∃ T M, cp_V m W a 0 0 1 st me T M := by
  refine ⟨fun d => if d = a then 1 else 0, fun _ => a, ?_, ?_, ?_, ?_, ?_, ?_, ?_, ?_, ?_, ?_⟩
  · have z : cp_ct (fun _ => false) 64 = 0 := (cp_ct_0 64).mpr (fun _ _ => rfl)
    rw [cp_ct_upd (P := fun _ => false) 64 ha rfl (by simp) (fun c _ hc => by simp [hc]), z]
  · intro d hd
    rw [h1 d hd]
    dsimp only
    by_cases e : d = a
    · rw [if_pos e, if_pos e]; decide
    · rw [if_neg e, if_neg e]; decide
  · intro d; dsimp only; split <;> omega
  · intro j hj
    rw [show j = 0 by omega]
    exact ⟨h2, ha, by simp⟩
  · intro d hd h
    refine ⟨0, by omega, ?_⟩
    by_cases e : d = a
    · exact e.symm
    · simp [e] at h
  · intro d hd h
    by_cases e : d = a
    · subst e; simp only [if_true]; rw [show cp_sp m W (cp_1 d) (1 - 1) = cp_1 d from rfl, cp_one hd hd]; simp
    · simp [e] at h
  · simp
  · intro i j _ _; exact Nat.le_refl _
  · intro _ j _; exact Nat.le_succ _
  · intro i d _ _ h; omega
theorem cp_Vskip {m : Bool} {W : Int64} {a k D n : Nat} {st me : Nat → Int32} {T M : Nat → Nat} (h : cp_V m W a k D n st me T M) (hs : cp_b W D = true → cp_ad m (M k) D = true → T D ≠ 0 ∧ T D ≤ T (M k) + 1) : cp_V m W a k (D + 1) n st me T M := by
  obtain ⟨v1, v2, v3, v4, v5, v6, v7, v8, v9, v10⟩ := h
  refine ⟨v1, v2, v3, v4, v5, v6, v7, v8, v9, fun i d hd hi hk hw ha => ?_⟩
  by_cases e : i = k ∧ d = D
  · obtain ⟨rfl, rfl⟩ := e; exact hs hw ha
  · exact v10 i d hd hi (by omega) hw ha
theorem cp_Vadd {m : Bool} {W : Int64} {a k D n : Nat} {st me : Nat → Int32} {T M : Nat → Nat} (h : cp_V m W a k D n st me T M) (hk : k < n) (hD : D < 64) (hT : T D = 0) (hw : cp_b W D = true) (ha : cp_ad m (M k) D = true) : cp_V m W a k (D + 1) (n + 1) (upd st D (st (M k) + 1)) (upd me n (nI D)) (fun d => if d = D then T (M k) + 1 else T d) (fun j => if j = n then D else M j) := by
  obtain ⟨v1, v2, v3, v4, v5, v6, v7, v8, v9, v10⟩ := h
  have hM : ∀ j, j < n → (if j = n then D else M j) = M j := fun j hj => if_neg (by omega)
  have hMD : ∀ j, j < n → M j ≠ D := fun j hj e => (v4 j hj).2.2 (by rw [e]; exact hT)
  have hTM : ∀ j, j < n → (if M j = D then T (M k) + 1 else T (M j)) = T (M j) := fun j hj => if_neg (hMD j hj)
  have hkb := v3 (M k)
  have vk := v4 k hk
  refine ⟨?_, ?_, ?_, ?_, ?_, ?_, ?_, ?_, ?_, ?_⟩
  · rw [v1]
    refine (cp_ct_upd 64 hD (by simp [hT]) (by simp) (fun c _ hc => by simp [hc])).symm
  · intro d hd
    dsimp only
    by_cases e : d = D
    · subst e
      rw [pk_us, if_pos rfl, nI_pred, v2 _ vk.2.1, Int32.sub_add_cancel]
    · rw [pk_un e, if_neg e, v2 d hd]
  · intro d; dsimp only
    have := v3 d
    split <;> omega
  · intro j hj
    dsimp only
    by_cases e : j = n
    · subst e
      rw [pk_us, if_pos rfl, if_pos rfl]
      exact ⟨rfl, hD, by omega⟩
    · rw [pk_un e, hM j (by omega), hTM j (by omega)]
      exact v4 j (by omega)
  · intro d hd h
    dsimp only at h ⊢
    by_cases e : d = D
    · exact ⟨n, by omega, by rw [if_pos rfl, e]⟩
    · rw [if_neg e] at h
      obtain ⟨j, hj, q⟩ := v5 d hd h
      exact ⟨j, by omega, by rw [hM j hj]; exact q⟩
  · intro d hd h
    dsimp only at h ⊢
    by_cases e : d = D
    · subst e
      rw [if_pos rfl]
      have h6 := v6 (M k) vk.2.1 vk.2.2
      have : T (M k) + 1 - 1 = (T (M k) - 1) + 1 := by have := vk.2.2; omega
      rw [this]
      exact (cp_spS m W _ _).mpr (Or.inr ⟨hw, M k, h6, by rw [cp_ad_s]; exact ha⟩)
    · rw [if_neg e] at h ⊢
      exact v6 d hd h
  · dsimp only
    rw [if_neg (fun e => by rw [e, hT] at v7; exact absurd v7 (by decide))]
    exact v7
  · intro i j hij hj
    dsimp only
    by_cases e : j = n
    · subst e
      rw [if_pos (rfl : j = j), if_pos (rfl : D = D)]
      by_cases e2 : i = j
      · rw [if_pos e2, if_pos rfl]; exact Nat.le_refl _
      · rw [hM i (by omega), hTM i (by omega)]
        exact v9 hk i (by omega)
    · rw [hM i (by omega), hTM i (by omega), hM j (by omega), hTM j (by omega)]
      exact v8 i j hij (by omega)
  · intro _ j hj
    dsimp only
    rw [hM k hk, hTM k hk]
    by_cases e : j = n
    · subst e
      rw [if_pos (rfl : j = j), if_pos (rfl : D = D)]; exact Nat.le_refl _
    · rw [hM j (by omega), hTM j (by omega)]
      exact v9 hk j (by omega)
  · intro i d hd hi hik hwd had
    dsimp only at had ⊢
    have hin : i < n := by omega
    rw [hM i hin] at had ⊢
    rw [hTM i hin]
    by_cases e : d = D
    · subst e
      rw [if_pos rfl]
      refine ⟨by omega, ?_⟩
      rcases hik with q | ⟨q, _⟩
      · exact absurd (v10 i d hd hin (Or.inl q) hwd had).1 (by simp [hT])
      · subst q; exact Nat.le_refl _
    · rw [if_neg e]
      exact v10 i d hd hin (by omega) hwd had
theorem cp_Vnext {m : Bool} {W : Int64} {a k n : Nat} {st me : Nat → Int32} {T M : Nat → Nat} (h : cp_V m W a k 64 n st me T M) (hk : k < n) : cp_V m W a (k + 1) 0 n st me T M := by
  obtain ⟨v1, v2, v3, v4, v5, v6, v7, v8, v9, v10⟩ := h
  refine ⟨v1, v2, v3, v4, v5, v6, v7, v8, fun hk2 j hj => ?_, fun i d hd hi hik => v10 i d hd hi (by omega)⟩
  have := v9 hk j hj
  have := v8 k (k + 1) (by omega) hk2
  omega
def cp_F (m : Bool) (W : Int64) (a n : Nat) (st me : Nat → Int32) : Prop :=
  ∃ T M : Nat → Nat, n = cp_ct (cp_b (cp_C m W a)) 64 ∧ (∀ j, j < n → me j = nI (M j) ∧ cp_b (cp_C m W a) (M j) = true) ∧ (∀ d, cp_b (cp_C m W a) d = true → ∃ j, j < n ∧ M j = d) ∧ (∀ d, d < 64 → st d = nI (T d) - 1 ∧ T d ≤ 64 ∧ (T d ≠ 0 ↔ cp_b (cp_C m W a) d = true) ∧ (T d ≠ 0 → cp_b (cp_sp m W (cp_1 a) (T d - 1)) d = true) ∧ (∀ s, cp_b (cp_sp m W (cp_1 a) s) d = true → T d ≠ 0 ∧ T d ≤ s + 1))
theorem cp_Vend {m : Bool} {W : Int64} {a n D : Nat} {st me : Nat → Int32} {T M : Nat → Nat} (ha : a < 64) (h : cp_V m W a n D n st me T M) : cp_F m W a n st me := by
  obtain ⟨v1, v2, v3, v4, v5, v6, v7, v8, v9, v10⟩ := h
  have n64 : n ≤ 64 := by rw [v1]; exact cp_ct_le _ _
  have key : ∀ s d, cp_b (cp_sp m W (cp_1 a) s) d = true → T d ≠ 0 ∧ T d ≤ s + 1 := by
    intro s
    induction s with
    | zero =>
      intro d hd
      have e := cp_1e ha hd
      subst e; omega
    | succ s ih =>
      intro d hd
      rcases (cp_spS m W _ s).mp hd with g | ⟨hw, e, he, had⟩
      · have := ih d g; omega
      · obtain ⟨t1, t2⟩ := ih e he
        obtain ⟨j, hj, q⟩ := v5 e (cp_lt he) t1
        have := v10 j d (cp_lt hd) hj (Or.inl hj) hw (by rw [q, cp_ad_s]; exact had)
        rw [q] at this; omega
  have iff : ∀ d, d < 64 → (T d ≠ 0 ↔ cp_b (cp_C m W a) d = true) := fun d hd => ⟨fun g => cp_G_of m W _ (v6 d hd g), fun g => (key 64 d g).1⟩
  refine ⟨T, M, ?_, fun j hj => ⟨(v4 j hj).1, (iff _ (v4 j hj).2.1).mp (v4 j hj).2.2⟩, fun d hd => v5 d (cp_lt hd) ((iff d (cp_lt hd)).mpr hd), fun d hd => ⟨v2 d hd, Nat.le_trans (v3 d) n64, iff d hd, v6 d hd, fun s => key s d⟩⟩
  rw [v1]
  refine cp_ct_congr 64 fun c hc => cp_bi ?_
  rw [decide_eq_true_eq]; exact iff c hc
theorem cp_st0 {t : Nat} (ht : t ≤ 64) : (0 : Int32) ≤ nI t - 1 ↔ t ≠ 0 := by
  cases t with
  | zero => exact ⟨fun h => absurd h (by decide), fun h => absurd rfl h⟩
  | succ t => rw [nI_pred]; exact ⟨fun _ => by omega, fun _ => nI_pos' (by omega)⟩
/-- one cell's neighbours -/
theorem cy_walk1 {post : SY → Prop} {J : Int32 → Int32 → (Nat → Int32) → (Nat → Int32) → (Nat → Int32) → (Nat → Int32) → Prop} {m : Bool} {W : Int64} {a k n : Nat} {on st me nx : Nat → Int32} (ha : a < 64) (hW : ∀ d, d < 64 → (on d = on a ↔ cp_b W d = true)) (hk : k < n) (hV : ∃ T M, cp_V m W a k 0 n st me T M) (hJ : ∀ n' st' me', n ≤ n' → (∃ T M, cp_V m W a k 64 n' st' me' T M) → J (nI (k + 1)) (nI n') on st' me' nx) : ∃ nn, wY_walk_53 post J (nI a) (cp_md m) (nI k) nn 0 (nI n) on st me nx := by
  refine loop_0 (fun nn i (s : Nat × (Nat → Int32) × (Nat → Int32)) => wY_walk_53 post J (nI a) (cp_md m) (nI k) nn (nI i) (nI s.1) on s.2.1 s.2.2 nx) (fun i s => n ≤ s.1 ∧ ∃ T M, cp_V m W a k i s.1 s.2.1 s.2.2 T M) 64 (n, st, me) ⟨Nat.le_refl _, hV⟩ ?_ ?_
  · rintro nn ⟨n', st', me'⟩ ⟨hn, hV⟩
    exact br_t cp_64 (nm_r (nI_1 k) (hJ n' st' me' hn hV))
  · rintro nn i ⟨n', st', me'⟩ hi ⟨hn, T, M, hV⟩ K
    dsimp only at hn hV K ⊢
    have hV' := hV
    obtain ⟨v1, v2, v3, v4, v5, v6, v7, v8, v9, v10⟩ := hV'
    have n64 : n' ≤ 64 := by rw [v1]; exact cp_ct_le _ _
    have hk' : k < n' := by omega
    have vin := vp_in_nI (N := 64) hi (by decide)
    have cl : (nI i).toNatClampNeg = i := nI_clamp (by omega)
    have clk : (nI k).toNatClampNeg = k := nI_clamp (by omega)
    have cla : (nI a).toNatClampNeg = a := nI_clamp (by omega)
    have vink := vp_in_nI (N := 64) (show k < 64 by omega) (by decide)
    have vk := v4 k hk'
    refine br_f (nI_ge (b := 64) hi (by decide)) ⟨vin, ?_⟩
    rw [cl]
    by_cases t : T i = 0
    · refine br_f (by rw [v2 i hi, cp_st0 (Nat.le_trans (v3 i) n64)]; exact fun z => z t) ⟨vin, vp_in_nI ha (by decide), ?_⟩
      rw [cla]
      by_cases w : on i = on a
      · refine br_t w ⟨vink, ?_⟩
        rw [clk, vk.1]
        refine cy_near vk.2.1 hi (cp_Ib (fun e => ?_) (fun e => ?_))
        · refine nm_r (nI_1 i) (K (n', st', me') ⟨hn, T, M, cp_Vskip hV (fun _ z => ?_)⟩)
          rw [e] at z; exact absurd z (by decide)
        · have n63 : n' < 64 := by
            have s1 := cp_ct_strict (P := fun d => decide (T d ≠ 0)) (Q := fun _ => true) 64 (fun _ _ _ => rfl) hi (by simp [t]) rfl
            have s2 := cp_ct_le (fun _ => true) 64
            omega
          have A := cp_Vadd hV hk' hi t ((hW i hi).mp w) e
          have clM : (nI (M k)).toNatClampNeg = M k := nI_clamp (by omega)
          have cln : (nI n').toNatClampNeg = n' := nI_clamp (by omega)
          refine ⟨vink, vp_in_nI vk.2.1 (by decide), vin, ?_⟩
          rw [clM]
          refine nm_e ⟨vp_in_nI n63 (by decide), ?_⟩
          rw [cln]
          exact nm_e (nm_r (nI_1 n') (nm_r (nI_1 i) (K (n' + 1, _, _) ⟨by omega, _, _, A⟩)))
      · refine br_f w (nm_r (nI_1 i) (K (n', st', me') ⟨hn, T, M, cp_Vskip hV (fun z _ => absurd ((hW i hi).mpr z) w)⟩))
    · refine br_t (by rw [v2 i hi, cp_st0 (Nat.le_trans (v3 i) n64)]; exact t) (nm_r (nI_1 i) (K (n', st', me') ⟨hn, T, M, cp_Vskip hV (fun _ _ => ⟨t, ?_⟩)⟩))
      obtain ⟨j, hj, q⟩ := v5 i hi t
      rw [← q]; exact v9 hk' j hj
theorem cy_walk2 {post : SY → Prop} {m : Bool} {W : Int64} {a : Nat} {on st me nx : Nat → Int32} (ha : a < 64) (hW : ∀ d, d < 64 → (on d = on a ↔ cp_b W d = true)) (hV : ∃ T M, cp_V m W a 0 0 1 st me T M) (hp : ∀ n st' me', cp_F m W a n st' me' → post (nI n, on, st', me', nx)) : ∃ nn, wY_walk_42 post (nI a) (cp_md m) nn 0 1 on st me nx := by
  refine loop_m (fun nn (s : Nat × Nat × (Nat → Int32) × (Nat → Int32)) => wY_walk_42 post (nI a) (cp_md m) nn (nI s.1) (nI s.2.1) on s.2.2.1 s.2.2.2 nx) (fun s => s.1 ≤ s.2.1 ∧ ∃ T M, cp_V m W a s.1 0 s.2.1 s.2.2.1 s.2.2.2 T M) (fun s => 64 - s.1) ?_ (0, 1, st, me) ⟨by omega, hV⟩
  rintro nn ⟨k, n, st, me⟩ ⟨hk, T, M, hV⟩ K
  dsimp only at hk hV K ⊢
  have n64 : n ≤ 64 := by rw [hV.1]; exact cp_ct_le _ _
  refine pk_le n k (fun g => ?_) (fun g => ?_)
  · have e : k = n := by omega
    subst e
    exact hp k st me (cp_Vend ha hV)
  · refine cy_walk1 ha hW g ⟨T, M, hV⟩ (fun n' st' me' hn hV' => ?_)
    obtain ⟨T', M', hV'⟩ := hV'
    exact K (k + 1, n', st', me') ⟨show k + 1 ≤ n' by omega, T', M', cp_Vnext hV' (show k < n' by omega)⟩ (show 64 - (k + 1) < 64 - k by omega)
theorem cy_walk {post : SY → Prop} {m : Bool} {W : Int64} {a : Nat} {f : Int32} {on st me nx : Nat → Int32} (ha : a < 64) (hW : ∀ d, d < 64 → (on d = on a ↔ cp_b W d = true)) (hp : ∀ n st' me', cp_F m W a n st' me' → post (nI n, on, st', me', nx)) : wpY_walk post (f, on, st, me, nx) (nI a) (cp_md m) := by
  refine loop_0 (fun n i s => wY_walk_2 post (nI a) (cp_md m) f n (nI i) on s me nx) (fun i s => ∀ d, d < i → s d = -1) 64 st (fun d hd => absurd hd (by omega)) ?_ ?_
  · intro n s hs
    refine br_t cp_64 ⟨vp_in_nI ha (by decide), nm_e (nm_e (cy_walk2 ha hW (cp_V0 m W ha ?_ ?_) hp))⟩
    · intro d hd
      rw [nI_clamp (by omega)]
      by_cases e : d = a
      · subst e; rw [pk_us, if_pos rfl]
      · rw [pk_un e, if_neg e, hs d hd]
    · exact pk_us
  · intro n i s hi hs K
    refine br_f (nI_ge (b := 64) hi (by decide)) ⟨vp_in_nI hi (by decide), nm_e (nm_r (nI_1 i) (K _ ?_))⟩
    intro d hd
    rw [nI_clamp (by omega)]
    by_cases e : d = i
    · subst e; exact pk_us
    · rw [pk_un e]; exact hs d (by omega)
