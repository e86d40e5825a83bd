/-! edge -/
theorem cp_Lg (w : Int64) {c : Nat} (hc : c < 64) : cp_b (cp_L w) c = cp_g w (c % 8 + 2) (c / 8 + 1) := by
  rw [cp_Lb w hc]; unfold cp_g
  by_cases e : c % 8 = 7
  · rw [show cp_ir (c % 8 + 2) (c / 8 + 1) = false from decide_eq_false (by omega)]; simp [e]
  · rw [show cp_ir (c % 8 + 2) (c / 8 + 1) = true from decide_eq_true (by omega), show 8 * (c / 8 + 1 - 1) + (c % 8 + 2 - 1) = c + 1 by omega]; simp [e]
theorem cp_Rg (w : Int64) {c : Nat} (hc : c < 64) : cp_b (cp_R w) c = cp_g w (c % 8) (c / 8 + 1) := by
  rw [cp_Rb w hc]; unfold cp_g
  by_cases e : c % 8 = 0
  · rw [show cp_ir (c % 8) (c / 8 + 1) = false from decide_eq_false (by omega)]; simp [e]
  · rw [show cp_ir (c % 8) (c / 8 + 1) = true from decide_eq_true (by omega), show 8 * (c / 8 + 1 - 1) + (c % 8 - 1) = c - 1 by omega]; simp [e]
theorem cp_Ug (w : Int64) {c : Nat} (hc : c < 64) : cp_b (cp_U w) c = cp_g w (c % 8 + 1) (c / 8) := by
  rw [cp_Ub w hc]; unfold cp_g
  by_cases e : 8 ≤ c
  · rw [show cp_ir (c % 8 + 1) (c / 8) = true from decide_eq_true (by omega), show 8 * (c / 8 - 1) + (c % 8 + 1 - 1) = c - 8 by omega]; simp [e]
  · rw [show cp_ir (c % 8 + 1) (c / 8) = false from decide_eq_false (by omega)]; simp [e]
theorem cp_Dg (w : Int64) {c : Nat} (hc : c < 64) : cp_b (cp_D w) c = cp_g w (c % 8 + 1) (c / 8 + 2) := by
  rw [cp_Db]; unfold cp_g
  by_cases e : c + 8 < 64
  · rw [show cp_ir (c % 8 + 1) (c / 8 + 2) = true from decide_eq_true (by omega), show 8 * (c / 8 + 2 - 1) + (c % 8 + 1 - 1) = c + 8 by omega]; simp
  · rw [show cp_ir (c % 8 + 1) (c / 8 + 2) = false from decide_eq_false (by omega), cp_big (by omega)]; simp
def cp_e4 (w : Int64) (c : Nat) : Nat := (!cp_g w (c % 8) (c / 8 + 1)).toNat + (!cp_g w (c % 8 + 2) (c / 8 + 1)).toNat + (!cp_g w (c % 8 + 1) (c / 8)).toNat + (!cp_g w (c % 8 + 1) (c / 8 + 2)).toNat
def cp_eg (w : Int64) : Nat → Nat
  | 0 => 0
  | c + 1 => cp_eg w c + (if cp_b w c then cp_e4 w c else 0)
theorem cp_egs (w : Int64) (n : Nat) (hn : n ≤ 64) : cp_ct (cp_b (w &&& (cp_L w ^^^ (-1)))) n + cp_ct (cp_b (w &&& (cp_R w ^^^ (-1)))) n + cp_ct (cp_b (w &&& (cp_D w ^^^ (-1)))) n + cp_ct (cp_b (w &&& (cp_U w ^^^ (-1)))) n = cp_eg w n := by
  induction n with
  | zero => rfl
  | succ n ih =>
    have h := ih (by omega)
    have hc : n < 64 := by omega
    rw [cp_ct, cp_ct, cp_ct, cp_ct, cp_eg, cp_and, cp_and, cp_and, cp_and, cp_not _ hc, cp_not _ hc, cp_not _ hc, cp_not _ hc, cp_Lg w hc, cp_Rg w hc, cp_Ug w hc, cp_Dg w hc]
    cases cp_b w n
    · simp only [Bool.false_and, Bool.toNat_false, Bool.false_eq_true, if_false]; omega
    · simp only [Bool.true_and, if_true, cp_e4]; omega
theorem cx_edge {post : Int32 → Prop} {w : Int64} (h : post (nI (cp_eg w 64))) : wpX_edge post w := by
  refine nm_e (nm_e (cx_count (cx_count (cx_count (cx_count ?_)))))
  have e := cp_egs w 64 (by omega)
  have e2 : nI (cp_ct (cp_b (w &&& (cp_L w ^^^ (-1)))) 64) + nI (cp_ct (cp_b (w &&& (cp_R w ^^^ (-1)))) 64) + nI (cp_ct (cp_b (w &&& (cp_D w ^^^ (-1)))) 64) + nI (cp_ct (cp_b (w &&& (cp_U w ^^^ (-1)))) 64) = nI (cp_eg w 64) := by
    rw [nI_add, nI_add, nI_add, e]
  rw [← e2] at h
  exact h
theorem cp_In {g : Bool} {P : Int32 → Prop} (h : P (nI (!g).toNat)) : (cp_I g = 0 → P 1) ∧ (¬ cp_I g = 0 → P 0) := by
  cases g
  · exact br_t rfl h
  · exact br_f (by decide) h
theorem cy_edge {post : Int32 → Prop} {w : Int64} {f : Int32} {on st me nx : Nat → Int32} (hR : cp_On w on) (h : post (nI (cp_eg w 64))) : wpY_edge post (f, on, st, me, nx) := by
  refine loop_0 (fun n i s => wY_edge_4 post f on st me nx n s (nI i)) (fun i s => s = nI (cp_eg w i)) 64 0 rfl ?_ ?_
  · intro n s hs; subst hs; exact br_t cp_64 h
  · intro n i s hi hs k
    subst hs
    refine br_f (nI_ge (b := 64) hi (by decide)) ⟨vp_in_nI hi (by decide), ?_⟩
    rw [nI_clamp (show i < 2 ^ 31 by omega), hR i hi]
    refine cp_Ib (fun e => nm_r (nI_1 i) (k _ (by rw [cp_eg, e]; rfl))) (fun e => ⟨cp_n8, nm_r (cp_rem8 hi) ⟨cp_n8, nm_r (cp_div8 hi) ?_⟩⟩)
    refine cy_on hR (a := i % 8) (b := i / 8 + 1) (by omega) (by omega) rfl (nI_pred _).symm ?_
    refine cp_In (P := fun z => wY_edge_48 post (wY_edge_4 post f on st me nx n) (nI i) (nI (i % 8)) (nI (i / 8)) z (nI (cp_eg w i)) f on st me nx) ?_
    refine cy_on hR (a := i % 8 + 2) (b := i / 8 + 1) (by omega) (by omega) (by rw [nI_1, nI_pred]) (nI_pred _).symm ?_
    refine cp_In (P := fun z => wY_edge_66 post (wY_edge_4 post f on st me nx n) (nI i) (nI (i % 8)) (nI (i / 8)) z _ f on st me nx) ?_
    refine cy_on hR (a := i % 8 + 1) (b := i / 8) (by omega) (by omega) (nI_pred _).symm rfl ?_
    refine cp_In (P := fun z => wY_edge_84 post (wY_edge_4 post f on st me nx n) (nI i) (nI (i % 8)) (nI (i / 8)) z _ f on st me nx) ?_
    refine cy_on hR (a := i % 8 + 1) (b := i / 8 + 2) (by omega) (by omega) (nI_pred _).symm (by rw [nI_1, nI_pred]) ?_
    refine cp_In (P := fun z => ∀ x : Int32, x = ((_ + _) + z) → ∀ y : Int32, y = nI i + 1 → wY_edge_4 post f on st me nx n x y) ?_
    refine nm_r ?_ (nm_r (nI_1 i) (k _ rfl))
    rw [nI_add, nI_add, nI_add, nI_add, cp_eg, if_pos e, cp_e4]
    exact congrArg nI (by omega)
/-! depth -/
def cp_ds (c i : Nat) : Nat := cp_df (i % 10) (c % 8 + 1) + cp_df (i / 10) (c / 8 + 1)
def cp_og (w : Int64) (i : Nat) : Bool := cp_g w (i % 10) (i / 10)
def cp_dl (w : Int64) (c : Nat) : Nat → Nat
  | 0 => 100
  | i + 1 => if cp_og w i = false ∧ cp_ds c i < cp_dl w c i then cp_ds c i else cp_dl w c i
theorem cp_dl_le (w : Int64) (c n : Nat) : cp_dl w c n ≤ 100 := by
  induction n with
  | zero => exact Nat.le_refl _
  | succ n ih => rw [cp_dl]; split <;> omega
theorem cp_dl_lb (w : Int64) (c n i : Nat) (hi : i < n) (h : cp_og w i = false) : cp_dl w c n ≤ cp_ds c i := by
  induction n with
  | zero => omega
  | succ n ih =>
    rw [cp_dl]
    by_cases e : i = n
    · subst e; split
      · exact Nat.le_refl _
      · rename_i g
        have : ¬ cp_ds c i < cp_dl w c i := fun z => g ⟨h, z⟩
        omega
    · have := ih (by omega)
      split <;> omega
theorem cp_dl_at (w : Int64) (c n : Nat) : cp_dl w c n = 100 ∨ ∃ i, i < n ∧ cp_og w i = false ∧ cp_dl w c n = cp_ds c i := by
  induction n with
  | zero => exact Or.inl rfl
  | succ n ih =>
    rw [cp_dl]
    split
    · rename_i g; exact Or.inr ⟨n, by omega, g.1, rfl⟩
    · rcases ih with g | ⟨i, hi, g⟩
      · exact Or.inl g
      · exact Or.inr ⟨i, by omega, g⟩
def cp_d1 (c i : Nat) : Bool := cp_rim c || decide (cp_ds c i = 0) || [c - 1, c + 1, c - 8, c + 8].any (fun d => cp_ad false c d && decide (d < 64) && decide (cp_ds d i + 1 = cp_ds c i))
theorem cp_d1r : ∀ c, c < 64 → ∀ i, i < 100 → cp_d1 c i = true := by decide +kernel
def cp_d2 (c : Nat) : Bool := !cp_rim c || [10 * (c / 8 + 1) + (c % 8 + 1) - 1, 10 * (c / 8 + 1) + (c % 8 + 1) + 1, 10 * (c / 8 + 1) + (c % 8 + 1) - 10, 10 * (c / 8 + 1) + (c % 8 + 1) + 10].any (fun i => decide (i < 100) && !cp_ir (i % 10) (i / 10) && decide (cp_ds c i = 1))
theorem cp_d2r : ∀ c, c < 64 → cp_d2 c = true := by decide +kernel
theorem cp_d3 {c d : Nat} (hc : c < 64) (hd : d < 64) (ha : cp_ad false c d = true) (i : Nat) : cp_ds c i ≤ cp_ds d i + 1 := by
  unfold cp_ds cp_df
  rcases cp_t3 c hc d hd ha with ⟨e, h⟩ | ⟨e, h⟩ | ⟨e, h⟩ | e <;> subst e <;> omega
theorem cp_d4 {c : Nat} (hc : c < 64) : cp_ds c (10 * (c / 8 + 1) + (c % 8 + 1)) = 0 := by unfold cp_ds cp_df; omega
theorem cp_d5 (w : Int64) {c : Nat} (hc : c < 64) : cp_og w (10 * (c / 8 + 1) + (c % 8 + 1)) = cp_b w c := by
  unfold cp_og cp_g
  rw [show (10 * (c / 8 + 1) + (c % 8 + 1)) % 10 = c % 8 + 1 by omega, show (10 * (c / 8 + 1) + (c % 8 + 1)) / 10 = c / 8 + 1 by omega, show cp_ir (c % 8 + 1) (c / 8 + 1) = true from decide_eq_true (by omega), show 8 * (c / 8 + 1 - 1) + (c % 8 + 1 - 1) = c by omega]
  rfl
theorem cp_d6 {c i : Nat} (hc : c < 64) (hi : i < 100) (h : cp_ds c i = 0) : i = 10 * (c / 8 + 1) + (c % 8 + 1) := by unfold cp_ds cp_df at h; omega
theorem cp_shb (m : Bool) (w : Int64) {c : Nat} (hc : c < 64) : cp_b (cp_sh m w) c = true ↔ cp_b w c = true ∧ ¬ (cp_b (cp_nr m (w ^^^ (-1))) c = true ∨ cp_rim c = true) := by
  unfold cp_sh
  rw [cp_and, cp_not _ hc, cp_or, cp_Rim c hc]
  cases cp_b w c <;> cases cp_b (cp_nr m (w ^^^ -1)) c <;> cases cp_rim c <;> simp
theorem cp_dep (w : Int64) (k : Nat) : ∀ c, c < 64 → (cp_b (cp_shk w k) c = true ↔ ∀ i, i < 100 → cp_og w i = false → k < cp_ds c i) := by
  induction k with
  | zero =>
    intro c hc
    constructor
    · intro h i hi ho
      rcases Nat.eq_zero_or_pos (cp_ds c i) with z | z
      · rw [cp_d6 hc hi z, cp_d5 w hc] at ho
        rw [show cp_b (cp_shk w 0) c = cp_b w c from rfl, ho] at h; exact absurd h (by decide)
      · exact z
    · intro h
      rw [show cp_shk w 0 = w from rfl]
      cases e : cp_b w c
      · have := h _ (by omega) ((cp_d5 w hc).trans e)
        rw [cp_d4 hc] at this; omega
      · rfl
  | succ k ih =>
    intro c hc
    rw [cp_shk, cp_shb _ _ hc, cp_nrb false _ hc]
    constructor
    · rintro ⟨h1, h2⟩ i hi ho
      have b1 := (ih c hc).mp h1 i hi ho
      have t := cp_d1r c hc i hi
      unfold cp_d1 at t
      rw [cp_nb.mp (fun z => h2 (Or.inr z)), decide_eq_false (show ¬ cp_ds c i = 0 by omega), Bool.false_or, Bool.false_or, List.any_eq_true] at t
      obtain ⟨d, _, q⟩ := t
      rw [Bool.and_eq_true, Bool.and_eq_true, decide_eq_true_eq, decide_eq_true_eq] at q
      have hd : cp_b (cp_shk w k) d = true := by
        cases e : cp_b (cp_shk w k) d
        · exfalso
          exact h2 (Or.inl ⟨d, by rw [cp_not _ q.1.2, e]; rfl, q.1.1⟩)
        · rfl
      have b2 := (ih d q.1.2).mp hd i hi ho
      omega
    · intro h
      refine ⟨(ih c hc).mpr (fun i hi ho => by have := h i hi ho; omega), ?_⟩
      rintro (⟨d, hd, ha⟩ | r)
      · have d64 := cp_lt hd
        rw [cp_not _ d64] at hd
        have nd : ¬ cp_b (cp_shk w k) d = true := fun z => by rw [z] at hd; exact absurd hd (by decide)
        apply nd
        refine (ih d d64).mpr (fun i hi ho => ?_)
        have b1 := h i hi ho
        have b2 := cp_d3 hc d64 ha i
        omega
      · have t := cp_d2r c hc
        unfold cp_d2 at t
        rw [r, Bool.not_true, Bool.false_or, List.any_eq_true] at t
        obtain ⟨i, _, q⟩ := t
        rw [Bool.and_eq_true, Bool.and_eq_true, decide_eq_true_eq, decide_eq_true_eq] at q
        have ho : cp_og w i = false := by
          unfold cp_og cp_g
          cases z : cp_ir (i % 10) (i / 10)
          · rfl
          · rw [z] at q; exact absurd q.1.2 (by decide)
        have := h i q.1.1 ho
        omega
theorem cp_dl64 (w : Int64) {c : Nat} (hc : c < 64) : cp_dl w c 100 ≤ 64 := by
  have h : cp_og w (10 * (c / 8 + 1)) = false := by
    unfold cp_og cp_g
    rw [show cp_ir (10 * (c / 8 + 1) % 10) (10 * (c / 8 + 1) / 10) = false from decide_eq_false (by omega)]
    rfl
  have := cp_dl_lb w c 100 (10 * (c / 8 + 1)) (by omega) h
  have e : cp_ds c (10 * (c / 8 + 1)) ≤ 8 := by unfold cp_ds cp_df; omega
  omega
theorem cx_depth2 {post : Int32 → Prop} {w : Int64} {c : Nat} (hc : c < 64) (h : post (nI (cp_dl w c 100))) : ∃ n, wX_depth_17 post (nI c) w n w 0 := by
  have l := cp_dl64 w hc
  refine cx_depth hc l ?_ (fun s hs => ?_) h
  · refine cp_nb.mp (fun z => ?_)
    rcases cp_dl_at w c 100 with g | ⟨i, hi, ho, e⟩
    · omega
    · have := (cp_dep w _ c hc).mp z i hi ho
      omega
  · refine (cp_dep w _ c hc).mpr (fun i hi ho => ?_)
    have := cp_dl_lb w c 100 i hi ho
    omega
theorem cp_dx1 : ∀ a, a < 10 → ∀ x, x < 8 → (nI a - 1 ≤ nI x ↔ a ≤ x + 1) := by decide +kernel
theorem cp_dx {a x : Nat} {X : Int32} {P : Int32 → Prop} (ha : a < 10) (hx : x < 8) (hX : X = nI x) (h : P (nI (cp_df a (x + 1)))) : (nI a - 1 ≤ X → ((¬ (8 : Int32) = 0) ∧ P (X - (nI a - 1)))) ∧ (¬ nI a - 1 ≤ X → ((¬ (8 : Int32) = 0) ∧ P ((nI a - 1) - X))) := by
  subst hX
  refine br_c (fun g => ⟨cp_n8, ?_⟩) (fun g => ⟨cp_n8, ?_⟩)
  · rw [cp_dx1 a ha x hx] at g
    have e : nI x - (nI a - 1) = nI (cp_df a (x + 1)) := by
      rw [show cp_df a (x + 1) = x + 1 - a by unfold cp_df; omega, ← pk_sub (by omega), ← nI_1]; grind
    rw [e]; exact h
  · rw [cp_dx1 a ha x hx] at g
    have e : nI a - 1 - nI x = nI (cp_df a (x + 1)) := by
      rw [show cp_df a (x + 1) = a - (x + 1) by unfold cp_df; omega, ← pk_sub (by omega), ← nI_1]; grind
    rw [e]; exact h
theorem cy_depth {post : Int32 → Prop} {w : Int64} {f : Int32} {on st me nx : Nat → Int32} {c : Nat} (hR : cp_On w on) (hc : c < 64) (h : post (nI (cp_dl w c 100))) : ∃ n, wY_depth_15 post (nI c) f on st me nx n 100 0 := by
  refine loop_0 (fun n i s => wY_depth_15 post (nI c) f on st me nx n s (nI i)) (fun i s => s = nI (cp_dl w c i)) 100 100 rfl ?_ ?_
  · intro n s hs; subst hs; exact br_t (by decide) h
  · intro n i s hi hs k
    subst hs
    have n10 : ¬ (10 : Int32) = 0 := by decide
    have e3 : nI i - nI i / 10 * 10 - 1 = nI (i % 10) - 1 := by rw [show nI i - nI i / 10 * 10 = nI (i % 10) from pk_rem (d := 10) (by omega) (by decide) (by decide)]
    have e4 : nI i / 10 - 1 = nI (i / 10) - 1 := by rw [show nI i / 10 = nI (i / 10) from pk_div (d := 10) (by omega) (by decide) (by decide)]
    have l := cp_dl_le w c i
    refine br_f (nI_ge (b := 100) hi (by decide)) ⟨n10, nm_r e3 ⟨n10, nm_r e4 ⟨cp_n8, ?_⟩⟩⟩
    refine cp_dx (P := fun z => wY_depth_63 post (wY_depth_15 post (nI c) f on st me nx n) (nI c) (nI (cp_dl w c i)) (nI i) (nI (i % 10) - 1) (nI (i / 10) - 1) z f on st me nx) (by omega) (by omega) (cp_rem8 hc) ⟨cp_n8, ?_⟩
    refine cp_dx (P := fun z => wY_depth_91 post (wY_depth_15 post (nI c) f on st me nx n) (nI c) (nI (cp_dl w c i)) (nI i) (nI (i % 10) - 1) (nI (i / 10) - 1) (nI (cp_df (i % 10) (c % 8 + 1))) z f on st me nx) (by omega) (by omega) (cp_div8 hc) ?_
    have dsb : cp_ds c i < 100 := by unfold cp_ds cp_df; omega
    have dsI : nI (cp_df (i % 10) (c % 8 + 1)) + nI (cp_df (i / 10) (c / 8 + 1)) = nI (cp_ds c i) := nI_add _ _
    refine cy_on hR (a := i % 10) (b := i / 10) (by omega) (by omega) rfl rfl (cp_Ib (fun e => ?_) (fun e => ?_))
    · rw [dsI]
      refine pk_le (cp_dl w c i) (cp_ds c i) (fun g => ?_) (fun g => ?_)
      · exact nm_r (nI_1 i) (k _ (by rw [cp_dl, if_neg (by omega)]))
      · exact nm_e (nm_r (nI_1 i) (k _ (by rw [cp_dl, if_pos ⟨e, g⟩])))
    · exact nm_r (nI_1 i) (k _ (by rw [cp_dl, if_neg (fun z => by rw [show cp_og w i = true from e] at z; exact absurd z.1 (by decide))]))
