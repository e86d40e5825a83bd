/-! the reference's other private methods -/
def cp_On (w : Int64) (on : Nat → Int32) : Prop := ∀ c, c < 64 → on c = cp_I (cp_b w c)
theorem cy_least {post : Int32 → Prop} {m : Bool} {W : Int64} {a n l : Nat} {on st me nx : Nat → Int32} (hF : cp_F m W a n st me) (hl : cp_b (cp_C m W a) l = true) (hm : ∀ d, d < l → cp_b (cp_C m W a) d = false) (h : post (nI l)) : wpY_leastMet post (nI n, on, st, me, nx) := by
  obtain ⟨T, M, f1, f2, f3, _⟩ := hF
  have n64 : n ≤ 64 := by rw [f1]; exact cp_ct_le _ _
  have l64 := cp_lt hl
  have hge : ∀ j, j < n → l ≤ M j := fun j hj => by
    rcases Nat.lt_or_ge (M j) l with g | g
    · have := (f2 j hj).2; rw [hm _ g] at this; exact absurd this (by decide)
    · exact g
  refine loop_0 (fun nn i s => wY_leastMet_5 post (nI n) on st me nx nn s (nI i)) (fun i s => ∃ x, s = nI x ∧ x ≤ 64 ∧ l ≤ x ∧ ∀ j, j < i → x ≤ M j) n 64 ⟨64, rfl, by omega, by omega, fun j hj => absurd hj (by omega)⟩ ?_ ?_
  · rintro nn s ⟨x, rfl, hx, hlx, hj⟩
    obtain ⟨j, hjn, e⟩ := f3 l hl
    have := hj j hjn
    rw [show x = l by omega]
    exact br_t (nI_le (by omega) (by omega)) h
  · rintro nn i s hi ⟨x, rfl, hx, hlx, hj⟩ k
    have hM := f2 i hi
    have hM64 := cp_lt hM.2
    have vi := vp_in_nI (N := 64) (show i < 64 by omega) (by decide)
    refine br_f (nI_ge hi (by omega)) ⟨vi, ?_⟩
    rw [nI_clamp (show i < 2 ^ 31 by omega), hM.1]
    refine pk_le x (M i) (fun g => ?_) (fun g => ?_)
    · exact nm_r (nI_1 i) (k _ ⟨x, rfl, hx, hlx, lt_s hj g⟩)
    · exact ⟨vi, nm_e (nm_r (nI_1 i) (k _ ⟨M i, rfl, by omega, hge i hi, fun j hj2 => by
        by_cases e : j = i
        · rw [e]; exact Nat.le_refl _
        · have := hj j (by omega); omega⟩))⟩
theorem cy_edgeC {post : Int32 → Prop} {f : Int32} {on st me nx : Nat → Int32} {c : Nat} (hc : c < 64) (h : post (cp_I (cp_rim c))) : wpY_isEdge post (f, on, st, me, nx) (nI c) := by
  have hr := cp_rem8 hc
  have hd := cp_div8 hc
  unfold cp_rim at h
  refine ⟨cp_n8, pk_eq (c % 8) 0 (fun e => ?_) (fun e1 => ⟨cp_n8, pk_eq (c % 8) 7 (fun e => ?_) (fun e2 => ⟨cp_n8, pk_eq (c / 8) 0 (fun e => ?_) (fun e3 => ⟨cp_n8, pk_eq (c / 8) 7 (fun e => ?_) (fun e4 => ?_) hd rfl⟩) hd rfl⟩) hr rfl⟩) hr rfl⟩
  · rw [decide_eq_true (Or.inl e)] at h; exact h
  · rw [decide_eq_true (Or.inr (Or.inl e))] at h; exact h
  · rw [decide_eq_true (Or.inr (Or.inr (Or.inl e)))] at h; exact h
  · rw [decide_eq_true (Or.inr (Or.inr (Or.inr e)))] at h; exact h
  · rw [decide_eq_false (by omega)] at h; exact h
theorem cy_inside {post : Int32 → Prop} {m : Bool} {W : Int64} {a n : Nat} {on st me nx : Nat → Int32} (hF : cp_F m W a n st me) (b : Bool) (hb : b = true ↔ ∀ d, cp_b (cp_C m W a) d = true → cp_rim d = false) (h : post (cp_I b)) : wpY_isInside post (nI n, on, st, me, nx) := by
  obtain ⟨T, M, f1, f2, f3, _⟩ := hF
  have n64 : n ≤ 64 := by rw [f1]; exact cp_ct_le _ _
  refine loop_0 (fun nn i (_ : Unit) => wY_isInside_2 post (nI n) on st me nx nn (nI i)) (fun i _ => ∀ j, j < i → cp_rim (M j) = false) n () (fun j hj => absurd hj (by omega)) ?_ ?_
  · intro nn _ hj
    have : b = true := hb.mpr (fun d hd => by
      obtain ⟨j, hjn, e⟩ := f3 d hd
      rw [← e]; exact hj j hjn)
    subst this
    exact br_t (nI_le (by omega) (by omega)) h
  · intro nn i _ hi hj k
    have hM := f2 i hi
    refine br_f (nI_ge hi (by omega)) ⟨vp_in_nI (by omega) (by decide), ?_⟩
    rw [nI_clamp (show i < 2 ^ 31 by omega), hM.1]
    refine cy_edgeC (cp_lt hM.2) (cp_Ib (fun e => nm_r (nI_1 i) (k () (lt_s hj e))) (fun e => ?_))
    cases hbb : b
    · rw [hbb] at h; exact h
    · have := hb.mp hbb _ hM.2
      rw [e] at this; exact absurd this (by decide)
/-! the grid of ten by ten: a, b from 0 to 9, the picture from 1 to 8 -/
def cp_ir (a b : Nat) : Bool := decide (1 ≤ a ∧ a ≤ 8 ∧ 1 ≤ b ∧ b ≤ 8)
def cp_g (w : Int64) (a b : Nat) : Bool := cp_ir a b && cp_b w (8 * (b - 1) + (a - 1))
theorem cp_lt0 : ∀ a, a < 10 → (nI a - 1 < 0 ↔ a = 0) := by decide +kernel
theorem cp_gt7 : ∀ a, a < 10 → (7 < nI a - 1 ↔ a = 9) := by decide +kernel
theorem cp_ixg {a b : Nat} (ha : 1 ≤ a) (hb : 1 ≤ b) : (8 * (nI b - 1)) + (nI a - 1) = nI (8 * (b - 1) + (a - 1)) := by
  obtain ⟨a, rfl⟩ : ∃ k, a = k + 1 := ⟨a - 1, by omega⟩
  obtain ⟨b, rfl⟩ : ∃ k, b = k + 1 := ⟨b - 1, by omega⟩
  rw [nI_pred, nI_pred, Nat.add_sub_cancel, Nat.add_sub_cancel, ← nI_add, ← pk_mul]
  rfl
theorem cy_on {post : Int32 → Prop} {w : Int64} {f x y : Int32} {on st me nx : Nat → Int32} (hR : cp_On w on) {a b : Nat} (ha : a < 10) (hb : b < 10) (hx : x = nI a - 1) (hy : y = nI b - 1) (h : post (cp_I (cp_g w a b))) : wpY_isOn post (f, on, st, me, nx) x y := by
  subst hx hy
  unfold cp_g at h
  by_cases a0 : a = 0
  · rw [show cp_ir a b = false from decide_eq_false (by omega), Bool.false_and] at h
    exact br_t ((cp_lt0 a ha).mpr a0) h
  · refine br_f (fun z => a0 ((cp_lt0 a ha).mp z)) ?_
    by_cases a9 : a = 9
    · rw [show cp_ir a b = false from decide_eq_false (by omega), Bool.false_and] at h
      exact br_t ((cp_gt7 a ha).mpr a9) h
    · refine br_f (fun z => a9 ((cp_gt7 a ha).mp z)) ?_
      by_cases b0 : b = 0
      · rw [show cp_ir a b = false from decide_eq_false (by omega), Bool.false_and] at h
        exact br_t ((cp_lt0 b hb).mpr b0) h
      · refine br_f (fun z => b0 ((cp_lt0 b hb).mp z)) ?_
        by_cases b9 : b = 9
        · rw [show cp_ir a b = false from decide_eq_false (by omega), Bool.false_and] at h
          exact br_t ((cp_gt7 b hb).mpr b9) h
        · refine br_f (fun z => b9 ((cp_gt7 b hb).mp z)) ?_
          rw [show cp_ir a b = true from decide_eq_true (by omega), Bool.true_and] at h
          rw [cp_ixg (by omega) (by omega), nI_clamp (by omega), hR _ (by omega)]
          exact ⟨vp_in_nI (by omega) (by decide), cp_Ib (fun e => by rw [e] at h; exact h) (fun e => by rw [e] at h; exact h)⟩
/-! hasNear -/
def cp_fr (i : Nat) : Nat := cp_df (i % 3) 1 * cp_df (i % 3) 1 + cp_df (i / 3) 1 * cp_df (i / 3) 1
def cp_nq (m : Bool) (i : Nat) : Bool := decide (cp_fr i = 1) || (m && decide (cp_fr i = 2))
theorem cp_frI : ∀ i, i < 9 → (nI (i % 3) - 1) * (nI (i % 3) - 1) + (nI (i / 3) - 1) * (nI (i / 3) - 1) = nI (cp_fr i) ∧ cp_fr i < 3 := by decide +kernel
theorem cp_gx {a i : Nat} : nI a + (nI i - 1) = nI (a + i) - 1 := by rw [← nI_add]; grind
theorem cy_hasNear {post : Int32 → Prop} {w : Int64} {f : Int32} {on st me nx : Nat → Int32} (hR : cp_On w on) {m wd b : Bool} {c : Nat} (hc : c < 64) (hb : b = true ↔ ∃ i, i < 9 ∧ cp_nq m i = true ∧ cp_g w (c % 8 + i % 3) (c / 8 + i / 3) = wd) (h : post (cp_I b)) : wpY_hasNear post (f, on, st, me, nx) (nI c) (cp_md m) (cp_I wd) := by
  refine loop_0 (fun nn i (_ : Unit) => wY_hasNear_3 post (nI c) (cp_md m) (cp_I wd) f on st me nx nn (nI i)) (fun i _ => ∀ j, j < i → ¬ (cp_nq m j = true ∧ cp_g w (c % 8 + j % 3) (c / 8 + j / 3) = wd)) 9 () (fun j hj => absurd hj (by omega)) ?_ ?_
  · intro nn _ hj
    have : b = false := cp_nb.mp (fun z => by
      obtain ⟨i, hi, h1⟩ := hb.mp z
      exact hj i hi h1)
    subst this
    exact br_t (by decide) h
  · intro nn i _ hi hj k
    have e3 : nI i - nI i / 3 * 3 - 1 = nI (i % 3) - 1 := by rw [show nI i - nI i / 3 * 3 = nI (i % 3) from pk_rem (d := 3) (by omega) (by decide) (by decide)]
    have e4 : nI i / 3 - 1 = nI (i / 3) - 1 := by rw [show nI i / 3 = nI (i / 3) from pk_div (d := 3) (by omega) (by decide) (by decide)]
    have n3 : ¬ (3 : Int32) = 0 := by decide
    have hT : cp_nq m i = true → wY_hasNear_62 post (wY_hasNear_3 post (nI c) (cp_md m) (cp_I wd) f on st me nx nn) (nI c) (cp_md m) (cp_I wd) (nI i) (nI (i % 3) - 1) (nI (i / 3) - 1) f on st me nx := by
      intro q
      refine br_f (by decide) ⟨cp_n8, cp_n8, cy_on hR (a := c % 8 + i % 3) (b := c / 8 + i / 3) (by omega) (by omega) (by rw [cp_rem8 hc, cp_gx]) (by rw [cp_div8 hc, cp_gx]) ?_⟩
      refine br_c (fun e => ?_) (fun e => nm_r (nI_1 i) (k () (lt_s hj (fun z => e (cp_Ieq.mpr z.2)))))
      have : b = true := hb.mpr ⟨i, hi, q, cp_Ieq.mp e⟩
      subst this
      exact h
    have hF : cp_nq m i = false → wY_hasNear_66 post (wY_hasNear_3 post (nI c) (cp_md m) (cp_I wd) f on st me nx nn) (nI c) (cp_md m) (cp_I wd) (nI i) (nI (i % 3) - 1) (nI (i / 3) - 1) f on st me nx := by
      intro q
      exact br_t rfl (nm_r (nI_1 i) (k () (lt_s hj (fun z => by rw [q] at z; exact absurd z.1 (by decide)))))
    obtain ⟨fe, fb⟩ := cp_frI i hi
    refine br_f (nI_ge (b := 9) hi (by decide)) ⟨n3, nm_r e3 ⟨n3, nm_r e4 ?_⟩⟩
    rw [fe]
    refine pk_eq (cp_fr i) 1 (fun q => hT (by simp [cp_nq, q])) (fun q => cp_md8 (fun em => pk_eq (cp_fr i) 2 (fun q2 => hT (by simp [cp_nq, q2, em])) (fun q2 => hF (by simp [cp_nq, q, q2]))) (fun em => hF (by simp [cp_nq, q, em])))
def cp_k1 (m : Bool) (c i : Nat) : Bool := !(cp_nq m i && cp_ir (c % 8 + i % 3) (c / 8 + i / 3)) || (decide (8 * (c / 8 + i / 3 - 1) + (c % 8 + i % 3 - 1) < 64) && cp_ad m c (8 * (c / 8 + i / 3 - 1) + (c % 8 + i % 3 - 1)))
theorem cp_k1r : ∀ m : Bool, ∀ c, c < 64 → ∀ i, i < 9 → cp_k1 m c i = true := by decide +kernel
def cp_k2i (c d : Nat) : Nat := (d % 8 + 1 - c % 8) + 3 * (d / 8 + 1 - c / 8)
def cp_k2 (m : Bool) (c d : Nat) : Bool := !cp_ad m c d || (decide (cp_k2i c d < 9) && cp_nq m (cp_k2i c d) && cp_ir (c % 8 + cp_k2i c d % 3) (c / 8 + cp_k2i c d / 3) && decide (8 * (c / 8 + cp_k2i c d / 3 - 1) + (c % 8 + cp_k2i c d % 3 - 1) = d))
theorem cp_k2r : ∀ m : Bool, ∀ c, c < 64 → ∀ d, d < 64 → cp_k2 m c d = true := by decide +kernel
def cp_k3 (c i : Nat) : Bool := cp_ir (c % 8 + i % 3) (c / 8 + i / 3) || cp_rim c
theorem cp_k3r : ∀ c, c < 64 → ∀ i, i < 9 → cp_k3 c i = true := by decide +kernel
def cp_k4 (c : Nat) : Bool := !cp_rim c || [1, 3, 5, 7].any (fun i => !cp_ir (c % 8 + i % 3) (c / 8 + i / 3))
theorem cp_k4r : ∀ c, c < 64 → cp_k4 c = true := by decide +kernel
theorem cp_k5 : ∀ m : Bool, ∀ i, i ∈ [1, 3, 5, 7] → i < 9 ∧ cp_nq m i = true := by decide +kernel
theorem cp_hn (m : Bool) (w : Int64) {c : Nat} (hc : c < 64) : (∃ i, i < 9 ∧ cp_nq m i = true ∧ cp_g w (c % 8 + i % 3) (c / 8 + i / 3) = true) ↔ cp_b (cp_nr m w) c = true := by
  rw [cp_nrb m w hc]
  constructor
  · rintro ⟨i, hi, q, g⟩
    unfold cp_g at g
    rw [Bool.and_eq_true] at g
    have t := cp_k1r m c hc i hi
    unfold cp_k1 at t
    rw [q, g.1, Bool.and_self, Bool.not_true, Bool.false_or, Bool.and_eq_true] at t
    exact ⟨_, g.2, t.2⟩
  · rintro ⟨d, hd, ha⟩
    have t := cp_k2r m c hc d (cp_lt hd)
    unfold cp_k2 at t
    rw [ha, Bool.not_true, Bool.false_or, Bool.and_eq_true, Bool.and_eq_true, Bool.and_eq_true, decide_eq_true_eq, decide_eq_true_eq] at t
    refine ⟨cp_k2i c d, t.1.1.1, t.1.1.2, ?_⟩
    unfold cp_g
    rw [t.1.2, t.2, hd]; rfl
theorem cp_hnF (m : Bool) (w : Int64) {c : Nat} (hc : c < 64) : (∃ i, i < 9 ∧ cp_nq m i = true ∧ cp_g w (c % 8 + i % 3) (c / 8 + i / 3) = false) ↔ (cp_b (cp_nr m (w ^^^ (-1))) c = true ∨ cp_rim c = true) := by
  rw [← cp_hn m _ hc]
  constructor
  · rintro ⟨i, hi, q, g⟩
    cases r : cp_ir (c % 8 + i % 3) (c / 8 + i / 3)
    · right
      have t := cp_k3r c hc i hi
      unfold cp_k3 at t
      rw [r, Bool.false_or] at t; exact t
    · left
      refine ⟨i, hi, q, ?_⟩
      unfold cp_g at g ⊢
      have t := cp_k1r m c hc i hi
      unfold cp_k1 at t
      rw [q, r, Bool.and_self, Bool.not_true, Bool.false_or, Bool.and_eq_true, decide_eq_true_eq] at t
      rw [r, Bool.true_and] at g ⊢
      rw [cp_not _ t.1, g]; rfl
  · rintro (⟨i, hi, q, g⟩ | r)
    · refine ⟨i, hi, q, ?_⟩
      unfold cp_g at g ⊢
      rw [Bool.and_eq_true] at g
      rw [g.1, Bool.true_and]
      have g2 := g.2
      rw [cp_not _ (cp_lt g2)] at g2
      cases z : cp_b w (8 * (c / 8 + i / 3 - 1) + (c % 8 + i % 3 - 1))
      · rfl
      · rw [z] at g2; exact absurd g2 (by decide)
    · have t := cp_k4r c hc
      unfold cp_k4 at t
      rw [r, Bool.not_true, Bool.false_or, List.any_eq_true] at t
      obtain ⟨i, hi, z⟩ := t
      obtain ⟨h1, h2⟩ := cp_k5 m i hi
      refine ⟨i, h1, h2, ?_⟩
      unfold cp_g
      cases z2 : cp_ir (c % 8 + i % 3) (c / 8 + i / 3)
      · rfl
      · rw [z2] at z; exact absurd z (by decide)
/-! writing a new picture cell by cell -/
def cp_T (w w' : Int64) (p : Nat) (r : Int32) (on : Nat → Int32) : Prop := r = nI (cp_ct (cp_b (w ^^^ w')) p) ∧ ∀ c, c < 64 → on c = cp_I (if c < p then cp_b w' c else cp_b w c)
theorem cp_T0 {w : Int64} (w' : Int64) {on : Nat → Int32} (h : cp_On w on) : cp_T w w' 0 0 on := ⟨rfl, fun c hc => by rw [if_neg (by omega)]; exact h c hc⟩
theorem cp_Tp {w w' : Int64} {p : Nat} {r : Int32} {on : Nat → Int32} (h : cp_T w w' p r on) (hp : p < 64) : on p = cp_I (cp_b w p) := by rw [h.2 p hp, if_neg (by omega)]
theorem cp_Ton {w w' : Int64} {p : Nat} {r r' : Int32} {on : Nat → Int32} (h : cp_T w w' p r on) (hp : p < 64) (hr : r' = nI (cp_ct (cp_b (w ^^^ w')) (p + 1))) : cp_T w w' (p + 1) r' (upd on p (cp_I (cp_b w' p))) := by
  refine ⟨hr, fun c hc => ?_⟩
  by_cases e : c = p
  · subst e; rw [pk_us, if_pos (by omega)]
  · rw [pk_un e, h.2 c hc]
    have e2 : c < p ↔ c < p + 1 := by omega
    simp only [e2]
theorem cp_Teq {w w' : Int64} {p : Nat} {r : Int32} {on : Nat → Int32} (h : cp_T w w' p r on) (e : cp_b w p = cp_b w' p) : r = nI (cp_ct (cp_b (w ^^^ w')) (p + 1)) := by
  rw [h.1, cp_ctF (by rw [cp_xor, e, Bool.xor_self])]
theorem cp_Tne {w w' : Int64} {p : Nat} {r : Int32} {on : Nat → Int32} (h : cp_T w w' p r on) (e : ¬ cp_b w p = cp_b w' p) : r + 1 = nI (cp_ct (cp_b (w ^^^ w')) (p + 1)) := by
  rw [h.1, cp_ctT (by rw [cp_xor]; revert e; cases cp_b w p <;> cases cp_b w' p <;> simp), nI_1]
theorem cp_Tskip {w w' : Int64} {p q : Nat} {r : Int32} {on : Nat → Int32} (h : cp_T w w' p r on) (hpq : p ≤ q) (hs : ∀ c, p ≤ c → c < q → cp_b w c = cp_b w' c) : cp_T w w' q r on := by
  refine ⟨by rw [h.1, cp_ct_skip hpq (fun c h1 h2 => by rw [cp_xor, hs c h1 h2, Bool.xor_self])], fun c hc => ?_⟩
  rw [h.2 c hc]
  by_cases e : c < p
  · rw [if_pos e, if_pos (by omega)]
  · rw [if_neg e]
    by_cases e2 : c < q
    · rw [if_pos e2, hs c (by omega) e2]
    · rw [if_neg e2]
theorem cp_Tend {w w' : Int64} {r : Int32} {on : Nat → Int32} (h : cp_T w w' 64 r on) : r = nI (cp_ct (cp_b (w ^^^ w')) 64) ∧ cp_On w' on := ⟨h.1, fun c hc => by rw [h.2 c hc, if_pos hc]⟩
theorem cy_take {post : Int32 → SY → Prop} {w w' : Int64} {f : Int32} {on st me nx : Nat → Int32} (hR : cp_On w on) (hN : cp_On w' nx) (h : ∀ on', cp_On w' on' → post (nI (cp_ct (cp_b (w ^^^ w')) 64)) (f, on', st, me, nx)) : wpY_takeNext post (f, on, st, me, nx) := by
  refine loop_0 (fun nn i (s : Int32 × (Nat → Int32)) => wY_takeNext_4 post f nn s.1 (nI i) s.2 st me nx) (fun i s => cp_T w w' i s.1 s.2) 64 (0, on) (cp_T0 w' hR) ?_ ?_
  · rintro nn ⟨r, on'⟩ hT
    obtain ⟨h1, h2⟩ := cp_Tend hT
    dsimp only at h1 h2 ⊢
    subst h1
    exact br_t cp_64 (h on' h2)
  · rintro nn i ⟨r, on'⟩ hi hT k
    dsimp only at hT ⊢
    have vi := vp_in_nI (N := 64) hi (by decide)
    refine br_f (nI_ge (b := 64) hi (by decide)) ⟨vi, vi, ?_⟩
    have cl : (nI i).toNatClampNeg = i := nI_clamp (by omega)
    have e1 := cp_Tp hT hi
    have e2 := hN i hi
    rw [cl, e1, e2]
    refine br_c (fun e => ⟨vi, vi, ?_⟩) (fun e => ⟨vi, vi, ?_⟩)
    · rw [cl, e2, cp_Inar]
      exact nm_e (nm_r (nI_1 i) (k (r, _) (cp_Ton hT hi (cp_Teq hT (cp_Ieq.mp e)))))
    · rw [cl, e2, cp_Inar]
      exact nm_e (nm_r (nI_1 i) (k (r + 1, _) (cp_Ton hT hi (cp_Tne hT (fun z => e (cp_Ieq.mpr z))))))
theorem cy_cells {post : Int32 → Prop} {w : Int64} {f : Int32} {on st me nx : Nat → Int32} (hR : cp_On w on) (h : post (nI (cp_ct (cp_b w) 64))) : wpY_cells post (f, on, st, me, nx) := by
  refine loop_0 (fun n i s => wY_cells_4 post f on st me nx n s (nI i)) (fun i s => s = nI (cp_ct (cp_b w) i)) 64 0 rfl ?_ ?_
  · intro n s hs; subst hs; exact br_t cp_64 h
  · intro n i s hi hs k
    subst hs
    refine br_f (nI_ge (b := 64) hi (by decide)) ⟨vp_in_nI hi (by decide), ?_⟩
    rw [nI_clamp (show i < 2 ^ 31 by omega), hR i hi]
    exact cp_Ib (fun e => nm_r (nI_1 i) (k _ (by rw [cp_ctF e]))) (fun e => nm_r (nI_1 _) (nm_r (nI_1 i) (k _ (by rw [cp_ctT e]))))
