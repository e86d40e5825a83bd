/-! turn, line, box -/
theorem cp_ix {i j : Nat} : 8 * nI i + nI j = nI (8 * i + j) := by
  rw [← nI_add, ← pk_mul]; rfl
theorem cp_turn {w : Int64} {on : Nat → Int32} {c : Nat} (hR : cp_On w on) (hc : c < 64) : cp_On (w ^^^ cp_1 c) (upd on c (cp_I (!cp_b w c))) := by
  intro d hd
  rw [cp_xor, cp_one hc hd]
  by_cases e : d = c
  · subst e; rw [pk_us]; cases cp_b w d <;> simp
  · rw [pk_un e, hR d hd]; simp [e]
theorem cp_turnb (w : Int64) {c : Nat} (hc : c < 64) : cp_b (w ^^^ cp_1 c) c = !cp_b w c := by
  rw [cp_xor, cp_one hc hc]; cases cp_b w c <;> simp
/-! box -/
theorem cy_box {post : Int32 → SY → Prop} {w w' : Int64} {F : Int32} {on st me nx : Nat → Int32} {f t : Nat} {v : Bool} (hR : cp_On w on) (hf : f < 64) (ht : t < 64) (h1 : f % 8 ≤ t % 8) (h2 : f / 8 ≤ t / 8) (hw : ∀ d, d < 64 → cp_b w' d = if cp_Q f t d then v else cp_b w d) (h : ∀ on', cp_On w' on' → post (nI (cp_ct (cp_b (w ^^^ w')) 64)) (F, on', st, me, nx)) : ∃ n, wY_box_58 post (nI f) (nI t) (cp_I v) F n 0 (nI (f / 8)) on st me nx := by
  have out : ∀ c, c < 64 → (c % 8 < f % 8 ∨ t % 8 < c % 8 ∨ c / 8 < f / 8 ∨ t / 8 < c / 8) → cp_b w c = cp_b w' c := by
    intro c hc hq
    rw [hw c hc, show cp_Q f t c = false from decide_eq_false (by omega)]; rfl
  refine pk_loop (fun n i (s : Int32 × (Nat → Int32)) => wY_box_58 post (nI f) (nI t) (cp_I v) F n s.1 (nI i) s.2 st me nx) (fun i s => f / 8 ≤ i ∧ cp_T w w' (8 * i) s.1 s.2) (t / 8 + 1) (f / 8) (0, on) (by omega) ⟨Nat.le_refl _, cp_Tskip (cp_T0 w' hR) (by omega) (fun c _ hc => out c (by omega) (by omega))⟩ ?_ ?_
  · rintro n ⟨r, on'⟩ ⟨_, hT⟩
    obtain ⟨e1, e2⟩ := cp_Tend (cp_Tskip hT (show 8 * (t / 8 + 1) ≤ 64 by omega) (fun c h1 h2 => out c (by omega) (by omega)))
    dsimp only at e1 e2 ⊢
    subst e1
    refine ⟨cp_n8, br_t ?_ (h on' e2)⟩
    rw [cp_div8 ht]; exact nI_lt (by omega) (by omega)
  · rintro n i ⟨r, on'⟩ hi ⟨hfi, hT⟩ k
    dsimp only at hT ⊢
    refine ⟨cp_n8, br_f (by rw [cp_div8 ht]; exact nI_nlt (by omega) (by omega)) ⟨cp_n8, nm_r (cp_rem8 hf) ?_⟩⟩
    refine pk_loop (fun nn j (s : Int32 × (Nat → Int32)) => wY_box_73 post (wY_box_58 post (nI f) (nI t) (cp_I v) F n) (nI f) (nI t) (cp_I v) (nI i) F nn s.1 (nI j) s.2 st me nx) (fun j s => f % 8 ≤ j ∧ cp_T w w' (8 * i + j) s.1 s.2) (t % 8 + 1) (f % 8) (r, on') (by omega) ⟨Nat.le_refl _, cp_Tskip hT (by omega) (fun c h1 h2 => out c (by omega) (by omega))⟩ ?_ ?_
    · rintro nn ⟨r, on'⟩ ⟨_, hT⟩
      refine ⟨cp_n8, br_t (by rw [cp_rem8 ht]; exact nI_lt (by omega) (by omega)) (nm_r (nI_1 i) (k (r, on') ⟨by omega, cp_Tskip hT (by omega) (fun c h1 h2 => out c (by omega) (by omega))⟩))⟩
    · rintro nn j ⟨r, on'⟩ hj ⟨hfj, hT⟩ K
      dsimp only at hT ⊢
      have p64 : 8 * i + j < 64 := by omega
      have vi : vp_in (8 * nI i + nI j) 64 := by rw [cp_ix]; exact vp_in_nI p64 (by decide)
      have cl : (8 * nI i + nI j).toNatClampNeg = 8 * i + j := by rw [cp_ix]; exact nI_clamp (by omega)
      have hp := cp_Tp hT p64
      have hq : cp_b w' (8 * i + j) = v := by rw [hw _ p64, show cp_Q f t (8 * i + j) = true from decide_eq_true (by omega)]; rfl
      have fin : ∀ r', r' = nI (cp_ct (cp_b (w ^^^ w')) (8 * i + j + 1)) → wY_box_117 post (wY_box_58 post (nI f) (nI t) (cp_I v) F n) (wY_box_73 post (wY_box_58 post (nI f) (nI t) (cp_I v) F n) (nI f) (nI t) (cp_I v) (nI i) F nn) (nI f) (nI t) (cp_I v) (nI i) (nI j) r' F on' st me nx := by
        intro r' hr
        have hT' := cp_Ton hT p64 hr
        rw [hq] at hT'
        cases v
        · refine br_f (by decide) ⟨vi, ?_⟩
          rw [cl, cp_nar0]
          exact nm_e (nm_r (nI_1 j) (K (r', _) ⟨by omega, hT'⟩))
        · refine br_t rfl ⟨vi, ?_⟩
          rw [cl, cp_nar1]
          exact nm_e (nm_r (nI_1 j) (K (r', _) ⟨by omega, hT'⟩))
      have mid : wY_box_105 post (wY_box_58 post (nI f) (nI t) (cp_I v) F n) (wY_box_73 post (wY_box_58 post (nI f) (nI t) (cp_I v) F n) (nI f) (nI t) (cp_I v) (nI i) F nn) (nI f) (nI t) (cp_I v) r (nI i) (nI j) (cp_I v) (cp_I (cp_b w (8 * i + j))) F on' st me nx := by
        refine br_c (fun e => fin _ (cp_Teq hT ((cp_Ieq.mp e).trans hq.symm))) (fun e => fin _ (cp_Tne hT (fun z => e (cp_Ieq.mpr (z.trans hq)))))
      refine ⟨cp_n8, br_f (by rw [cp_rem8 ht]; exact nI_nlt (by omega) (by omega)) ⟨vi, ?_⟩⟩
      rw [cl, hp]
      cases v
      · exact br_f (by decide) mid
      · exact br_t rfl mid
/-! line -/
theorem cp_255 : ∀ j, j < 64 → cp_b 255 j = decide (j < 8) := by decide +kernel
theorem cp_nIb {s j : Nat} (hs : s < 256) (hj : j < 64) : cp_b (nI s).toInt64 j = s.testBit j := by
  rw [nI_l (by omega)]
  unfold cp_b
  rw [wb_tb, BitVec.getLsbD_ofNat, decide_eq_true hj, Bool.true_and]
def cp_ln (w : Int64) (y s : Nat) : Int64 := (w &&& (((255 : Int64) <<< ((nI (8 * y)).toInt64 &&& 63)) ^^^ (-1))) ||| ((nI s).toInt64 <<< ((nI (8 * y)).toInt64 &&& 63))
theorem cp_lnb (w : Int64) {y s c : Nat} (hy : y < 8) (hs : s < 256) (hc : c < 64) : cp_b (cp_ln w y s) c = if c / 8 = y then s.testBit (c % 8) else cp_b w c := by
  unfold cp_ln
  rw [cp_or, cp_and, cp_not _ hc, cp_shl _ (by omega) hc, cp_shl _ (by omega) hc, cp_255 _ (by omega), cp_nIb hs (by omega)]
  by_cases e : c / 8 = y
  · rw [if_pos e, show c - 8 * y = c % 8 by omega]
    have h1 : 8 * y ≤ c := by omega
    have h2 : c % 8 < 8 := by omega
    simp [h1, h2]
  · rw [if_neg e]
    by_cases h1 : 8 * y ≤ c
    · have h2 : ¬ c - 8 * y < 8 := by omega
      have h3 : s.testBit (c - 8 * y) = false := Nat.testBit_lt_two_pow (Nat.lt_of_lt_of_le hs (by
        have := Nat.pow_le_pow_right (show 0 < 2 by decide) (show 8 ≤ c - 8 * y by omega)
        omega))
      simp [h1, h2, h3]
    · simp [h1]
theorem cp_bit1 {s j : Nat} (hs : s < 256) (hj : j < 32) : ((nI s >>> (nI j &&& 31)) &&& 1) = 1 ↔ s.testBit j = true := by
  have h2 : s / 2 ^ j ≤ s := Nat.div_le_self _ _
  rw [pk_shrN (by omega) _ j (s_l j hj), pk_andN (by omega) 1 (by decide), Nat.testBit_eq_decide_div_mod_eq, decide_eq_true_eq]
  exact nI_eq (b := 1) (by omega) (by decide)
theorem cp_toI (z : Int64) {i : Nat} (hi : i < 32) : bt z.toInt32 i = cp_b z i := by
  unfold bt cp_b
  rw [Int64.toBitVec_toInt32, BitVec.getLsbD_signExtend, decide_eq_true hi, if_pos (by omega), Bool.true_and]
theorem cp_lnA (w : Int64) {y i : Nat} (hy : y < 8) (hi : i < 32) : bt ((((w.toUInt64 >>> ((nI (8 * y)).toInt64.toUInt64 &&& Int64.toUInt64 63)).toInt64) &&& 255).toInt32) i = (decide (i < 8) && cp_b w (8 * y + i)) := by
  rw [cp_toI _ hi, cp_and, cp_shr _ _ (by omega), cp_255 i (by omega), Bool.and_comm]
theorem cp_b1 {j i : Nat} (hj : j < 32) (hi : i < 32) : bt ((1 : Int32) <<< (nI j &&& 31)) i = decide (i = j) := by
  rw [b_shl j hj 1 hi, (by decide +kernel : ∀ i, i < 32 → bt 1 i = decide (i = 0)) _ (by omega)]
  by_cases h : i = j
  · subst h; simp
  · by_cases h2 : j ≤ i
    · simp [h, h2]; omega
    · simp [h, h2]
theorem cy_line {post : Int32 → SY → Prop} {w : Int64} {F : Int32} {on st me nx : Nat → Int32} {y s : Nat} (hR : cp_On w on) (hy : y < 8) (hs : s < 256) (h : ∀ r on', (∀ i, i < 32 → bt r i = (decide (i < 8) && cp_b w (8 * y + i))) → cp_On (cp_ln w y s) on' → post r (F, on', st, me, nx)) : ∃ n, wY_line_28 post (nI y) (nI s) F n 0 0 on st me nx := by
  have out : ∀ c, c < 64 → ¬ c / 8 = y → cp_b w c = cp_b (cp_ln w y s) c := fun c hc e => by rw [cp_lnb w hy hs hc, if_neg e]
  refine loop_0 (fun n j (z : Int32 × (Nat → Int32)) => wY_line_28 post (nI y) (nI s) F n z.1 (nI j) z.2 st me nx) (fun j z => (∀ i, i < 32 → bt z.1 i = (decide (i < j) && cp_b w (8 * y + i))) ∧ ∃ r, cp_T w (cp_ln w y s) (8 * y + j) r z.2) 8 (0, on) ⟨fun i _ => by rw [b_0]; simp, 0, cp_Tskip (cp_T0 _ hR) (by omega) (fun c _ hc => out c (by omega) (by omega))⟩ ?_ ?_
  · rintro n ⟨z, on'⟩ ⟨hz, r, hT⟩
    exact br_t (by decide) (h z on' hz (cp_Tend (cp_Tskip hT (show 8 * y + 8 ≤ 64 by omega) (fun c h1 h2 => out c (by omega) (by omega)))).2)
  · rintro n j ⟨z, on'⟩ hj ⟨hz, r, hT⟩ K
    dsimp only at hz hT ⊢
    have p64 : 8 * y + j < 64 := by omega
    have vi : vp_in (8 * nI y + nI j) 64 := by rw [cp_ix]; exact vp_in_nI p64 (by decide)
    have cl : (8 * nI y + nI j).toNatClampNeg = 8 * y + j := by rw [cp_ix]; exact nI_clamp (by omega)
    have hp := cp_Tp hT p64
    have hq : cp_b (cp_ln w y s) (8 * y + j) = s.testBit j := by
      rw [cp_lnb w hy hs p64, if_pos (by omega), show (8 * y + j) % 8 = j by omega]
    have fin : ∀ z', (∀ i, i < 32 → bt z' i = (decide (i < j + 1) && cp_b w (8 * y + i))) → wY_line_60 post (wY_line_28 post (nI y) (nI s) F n) (nI y) (nI s) (nI j) z' F on' st me nx := by
      intro z' hz'
      have hT' := cp_Ton hT p64 rfl
      rw [hq] at hT'
      refine br_c (fun e => ⟨vi, ?_⟩) (fun e => ⟨vi, ?_⟩)
      · rw [cp_bit1 hs (by omega)] at e
        rw [e] at hT'
        rw [cl, cp_nar1]
        exact nm_e (nm_r (nI_1 j) (K (z', _) ⟨hz', _, hT'⟩))
      · rw [cp_bit1 hs (by omega), cp_nb] at e
        rw [e] at hT'
        rw [cl, cp_nar0]
        exact nm_e (nm_r (nI_1 j) (K (z', _) ⟨hz', _, hT'⟩))
    refine br_f (nI_ge (b := 8) hj (by decide)) ⟨vi, ?_⟩
    rw [cl, hp]
    refine cp_Ib (fun e => fin _ (fun i hi => ?_)) (fun e => fin _ (fun i hi => ?_))
    · rw [hz i hi]
      by_cases q : i = j
      · subst q; rw [e]; simp
      · have e2 : i < j ↔ i < j + 1 := by omega
        simp only [e2]
    · rw [b_or, hz i hi, cp_b1 (by omega) hi]
      by_cases q : i = j
      · subst q; rw [e]; simp
      · have e2 : i < j ↔ i < j + 1 := by omega
        simp [e2, q]
