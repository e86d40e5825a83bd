section
/-! pasted rows of the kit (stores, nI arithmetic, branches, bits) -/
theorem pk_us {f : Nat → Int32} {k : Nat} {x : Int32} : upd f k x k = x := if_pos rfl
theorem pk_un {f : Nat → Int32} {k j : Nat} {x : Int32} (h : j ≠ k) : upd f k x j = f j := if_neg h
theorem pk_sub {a b : Nat} (h : b ≤ a) : nI a - nI b = nI (a - b) := by
  obtain ⟨c, rfl⟩ : ∃ c, a = c + b := ⟨a - b, by omega⟩
  rw [← nI_add, Int32.add_sub_cancel, Nat.add_sub_cancel]
theorem pk_m1 (n : Nat) : nI (n + 1) + (-1) = nI n := by
  rw [← nI_1, Int32.add_assoc, show (1 : Int32) + (-1) = 0 from rfl, Int32.add_zero]
theorem pk_mul (a b : Nat) : nI a * nI b = nI (a * b) := (Int32.ofNat_mul a b).symm
theorem pk_div {a d : Nat} (ha : a < 2 ^ 31) (h0 : 0 < d) (hd : d < 2 ^ 31) : nI a / nI d = nI (a / d) := by
  apply Int32.toInt_inj.mp
  rw [lg_idiv_nonneg (by rw [nI_toInt ha]; omega) (by rw [nI_toInt hd]; omega), nI_toInt ha, nI_toInt hd, nI_toInt (Nat.lt_of_le_of_lt (Nat.div_le_self a d) ha)]
  first | rfl | exact (Int.natCast_ediv _ _).symm
theorem pk_rem {a d : Nat} (ha : a < 2 ^ 31) (h0 : 0 < d) (hd : d < 2 ^ 31) : nI a - nI a / nI d * nI d = nI (a % d) := by
  rw [pk_div ha h0 hd, pk_mul, pk_sub (Nat.div_mul_le_self a d)]
  exact congrArg nI (by have := Nat.div_add_mod' a d; omega)
theorem pk_sub_toInt {a b : Nat} (ha : a < 2 ^ 30) (hb : b < 2 ^ 30) : (nI a - nI b).toInt = (a : Int) - b := by
  rw [Int32.toInt_sub, nI_toInt (by omega), nI_toInt (by omega)]
  exact Int.bmod_eq_of_le (by omega) (by omega)
theorem pk_sneg {a b : Nat} (hb : b < 2 ^ 30) (h : a < b) : nI a - nI b < 0 := by
  rw [Int32.lt_iff_toInt_lt, pk_sub_toInt (by omega) hb, show (0 : Int32).toInt = 0 from by decide]
  omega
theorem pk_ix (x : Int32) {n : Nat} (hn : n < 2 ^ 31) : x < 0 ∨ nI n ≤ x ∨ ∃ j : Nat, j < n ∧ x = nI j := by
  by_cases h : x < 0
  · exact Or.inl h
  · obtain ⟨j, hj, rfl⟩ := nI_of h
    by_cases h2 : j < n
    · exact Or.inr (Or.inr ⟨j, h2, rfl⟩)
    · exact Or.inr (Or.inl (nI_le (by omega) hj))
theorem pk_le {x y : Int32} {A B : Prop} (a b : Nat) (f : a ≤ b → A) (g : b < a → B) (hx : x = nI a := by rfl) (hy : y = nI b := by rfl) (ha : a < 2 ^ 31 := by omega) (hb : b < 2 ^ 31 := by omega) : (x ≤ y → A) ∧ (¬ x ≤ y → B) := by
  subst hx hy
  rw [nI_leI ha hb]
  exact ⟨f, fun z => g (by omega)⟩
theorem pk_lt {x y : Int32} {A B : Prop} (a b : Nat) (f : a < b → A) (g : b ≤ a → B) (hx : x = nI a := by rfl) (hy : y = nI b := by rfl) (ha : a < 2 ^ 31 := by omega) (hb : b < 2 ^ 31 := by omega) : (x < y → A) ∧ (¬ x < y → B) := by
  subst hx hy
  rw [nI_ltI ha hb]
  exact ⟨f, fun z => g (by omega)⟩
theorem pk_eq {x y : Int32} {A B : Prop} (a b : Nat) (f : a = b → A) (g : a ≠ b → B) (hx : x = nI a := by rfl) (hy : y = nI b := by rfl) (ha : a < 2 ^ 31 := by omega) (hb : b < 2 ^ 31 := by omega) : (x = y → A) ∧ (¬ x = y → B) := by
  subst hx hy
  rw [nI_eq ha hb]
  exact ⟨f, g⟩
theorem pk_in {x : Int32} (n N : Nat) (h : n < N) (hx : x = nI n := by rfl) (hN : N < 2 ^ 31 := by omega) : vp_in x N := by
  subst hx
  exact vp_in_nI h hN
theorem pk_cl {x : Int32} (n : Nat) (hx : x = nI n := by rfl) (h : n < 2 ^ 31 := by omega) : x.toNatClampNeg = n := by
  subst hx
  exact nI_clamp h
theorem pk_tn {n : Nat} (h : n < 2 ^ 32) : (nI n).toBitVec.toNat = n := Nat.mod_eq_of_lt h
theorem pk_and (x : Int32) {m : Int32} (k : Nat) (hm : m.toBitVec.toNat = 2 ^ k - 1) : x &&& m = nI (x.toBitVec.toNat % 2 ^ k) := by
  apply Int32.toBitVec_inj.mp
  apply BitVec.eq_of_toNat_eq
  rw [Int32.toBitVec_and, BitVec.toNat_and, hm, Nat.and_two_pow_sub_one_eq_mod]
  show _ = (BitVec.ofNat 32 _).toNat
  rw [BitVec.toNat_ofNat]
  exact (Nat.mod_eq_of_lt (Nat.lt_of_le_of_lt (Nat.mod_le _ _) x.toBitVec.isLt)).symm
theorem pk_andN {n : Nat} (h : n < 2 ^ 32) {m : Int32} (k : Nat) (hm : m.toBitVec.toNat = 2 ^ k - 1) : nI n &&& m = nI (n % 2 ^ k) := by
  rw [pk_and _ k hm, pk_tn h]
theorem pk_shr (a s : Int32) (k : Nat) (hs : (s.toBitVec.smod 32).toNat = k) : (a >>> s).toInt = a.toInt >>> k := by
  show (a.toBitVec.sshiftRight (s.toBitVec.smod 32).toNat).toInt = _
  rw [hs, BitVec.toInt_sshiftRight]
  rfl
theorem pk_shrN {n : Nat} (h : n < 2 ^ 31) (s : Int32) (k : Nat) (hs : (s.toBitVec.smod 32).toNat = k) : nI n >>> s = nI (n / 2 ^ k) := by
  apply Int32.toInt_inj.mp
  have h2 : n / 2 ^ k ≤ n := Nat.div_le_self _ _
  rw [pk_shr _ _ k hs, nI_toInt h, nI_toInt (by omega), Int.shiftRight_eq_div_pow]
  rfl
theorem pk_least (P : Nat → Prop) (h : ∃ k, P k) : ∃ k, P k ∧ ∀ j, j < k → ¬ P j := by
  obtain ⟨k, hk⟩ := h
  induction k using Nat.strongRecOn with
  | ind k ih =>
    by_cases e : ∃ j, j < k ∧ P j
    · obtain ⟨j, hj, pj⟩ := e
      exact ih j hj pj
    · exact ⟨k, hk, fun j hj pj => e ⟨j, hj, pj⟩⟩
theorem pk_loop {σ : Type} (W : Nat → Nat → σ → Prop) (I : Nat → σ → Prop) (e i0 : Nat) (s : σ) (hi : i0 ≤ e) (h0 : I i0 s) (hx : ∀ n s, I e s → W (n + 1) e s)
    (hs : ∀ n i s, i < e → I i s → (∀ s', I (i + 1) s' → W n (i + 1) s') → W (n + 1) i s) : ∃ n, W n i0 s :=
  ⟨e + 1, loop_i W I e hx hs (e + 1) i0 s hi (by omega) h0⟩
def bt (x : Int32) (i : Nat) : Bool := x.toBitVec.getLsbD i
theorem b_ext {x y : Int32} (h : ∀ i, i < 32 → bt x i = bt y i) : x = y := Int32.toBitVec_inj.mp (BitVec.eq_of_getLsbD_eq (fun i hi => h i hi))
theorem b_or (x y : Int32) (i : Nat) : bt (x ||| y) i = (bt x i || bt y i) := by unfold bt; rw [Int32.toBitVec_or, BitVec.getLsbD_or]
theorem b_and (x y : Int32) (i : Nat) : bt (x &&& y) i = (bt x i && bt y i) := by unfold bt; rw [Int32.toBitVec_and, BitVec.getLsbD_and]
theorem b_big {x : Int32} {i : Nat} (h : 32 ≤ i) : bt x i = false := BitVec.getLsbD_of_ge _ _ h
theorem b_0 (i : Nat) : bt 0 i = false := BitVec.getLsbD_zero
theorem s_l : ∀ n, n < 32 → ((nI n &&& 31).toBitVec.smod 32).toNat = n := by decide +kernel
theorem b_shl (n : Nat) (hn : n < 32) (x : Int32) {i : Nat} (hi : i < 32) : bt (x <<< (nI n &&& 31)) i = (decide (n ≤ i) && bt x (i - n)) := by
  unfold bt
  rw [Int32.toBitVec_shiftLeft]
  show (x.toBitVec <<< ((nI n &&& 31).toBitVec.smod 32).toNat).getLsbD i = _
  rw [s_l n hn, BitVec.getLsbD_shiftLeft]
  rcases Nat.lt_or_ge i n with h | h
  · simp [h, Nat.not_le.mpr h]
  · simp [hi, h, Nat.not_lt.mpr h]
theorem ts_nf {x : Bool} (h : ¬ x = false) : x = true := by cases x <;> first | rfl | exact absurd rfl h
theorem ts_nt {x : Bool} (h : ¬ x = true) : x = false := by cases x <;> first | rfl | exact absurd rfl h
theorem ts_bit {w : Int64} {s : UInt64} {j : Nat} (hj : j < 64) (hs : s.toNat = j) : ((w.toUInt64 >>> s).toInt64 &&& 1) = 0 ↔ w.toBitVec.getLsbD j = false := by
  have e : (w.toUInt64 >>> s).toInt64.toBitVec = w.toBitVec >>> j := by
    apply BitVec.eq_of_toNat_eq
    show (w.toUInt64 >>> s).toNat = _
    rw [UInt64.toNat_shiftRight, hs, Nat.mod_eq_of_lt hj, BitVec.toNat_ushiftRight]
    rfl
  rw [← Int64.toBitVec_inj, Int64.toBitVec_and, e]
  show w.toBitVec >>> j &&& 1#64 = 0#64 ↔ _
  constructor
  · intro h
    have t := congrArg (fun x => x.getLsbD 0) h
    simpa using t
  · intro h
    apply BitVec.eq_of_getLsbD_eq
    intro i hi
    cases i with
    | zero => simp [h]
    | succ i => simp
theorem wb_tb (n : Nat) : (lN n).toBitVec = BitVec.ofNat 64 n := rfl
theorem wb_inj {a b : Int64} (h : a.toBitVec = b.toBitVec) : a = b := Int64.toBitVec_inj.mp h
theorem wb_c : ∀ k, k < 64 → ((nI k).toInt64 &&& 63) = lN k := by decide +kernel
theorem wb_cu : ∀ k, k < 64 → ((nI k).toInt64.toUInt64 &&& Int64.toUInt64 63) = UInt64.ofNat k := by decide +kernel
theorem wb_sm : ∀ k, k < 64 → (BitVec.ofNat 64 k).smod 64 = BitVec.ofNat 64 k := by decide +kernel
end
section
/-! bits of a long, the answers 0 and 1, the modes -/
def cp_b (w : Int64) (c : Nat) : Bool := w.toBitVec.getLsbD c
def cp_I (b : Bool) : Int32 := if b then 1 else 0
def cp_md (m : Bool) : Int32 := if m then 8 else 4
theorem cp_big {w : Int64} {c : Nat} (h : 64 ≤ c) : cp_b w c = false := BitVec.getLsbD_of_ge _ _ h
theorem cp_lt {w : Int64} {c : Nat} (h : cp_b w c = true) : c < 64 := by
  rcases Nat.lt_or_ge c 64 with g | g
  · exact g
  · rw [cp_big g] at h; exact absurd h (by decide)
theorem cp_ext {x y : Int64} (h : ∀ c, c < 64 → cp_b x c = cp_b y c) : x = y := Int64.toBitVec_inj.mp (BitVec.eq_of_getLsbD_eq (fun i hi => h i hi))
theorem cp_or (x y : Int64) (c : Nat) : cp_b (x ||| y) c = (cp_b x c || cp_b y c) := by unfold cp_b; rw [Int64.toBitVec_or, BitVec.getLsbD_or]
theorem cp_and (x y : Int64) (c : Nat) : cp_b (x &&& y) c = (cp_b x c && cp_b y c) := by unfold cp_b; rw [Int64.toBitVec_and, BitVec.getLsbD_and]
theorem cp_xor (x y : Int64) (c : Nat) : cp_b (x ^^^ y) c = (cp_b x c ^^ cp_b y c) := by unfold cp_b; rw [Int64.toBitVec_xor, BitVec.getLsbD_xor]
theorem cp_m1 : ∀ c, c < 64 → cp_b (-1) c = true := by decide +kernel
theorem cp_not (x : Int64) {c : Nat} (h : c < 64) : cp_b (x ^^^ (-1)) c = !cp_b x c := by rw [cp_xor, cp_m1 c h]; cases cp_b x c <;> rfl
theorem cp_0 (c : Nat) : cp_b 0 c = false := BitVec.getLsbD_zero
theorem cp_shl (x : Int64) {k c : Nat} (hk : k < 64) (hc : c < 64) : cp_b (x <<< ((nI k).toInt64 &&& 63)) c = (decide (k ≤ c) && cp_b x (c - k)) := by
  unfold cp_b
  rw [wb_c k hk, Int64.toBitVec_shiftLeft, wb_tb, wb_sm k hk, BitVec.shiftLeft_eq', BitVec.getLsbD_shiftLeft, BitVec.toNat_ofNat, Nat.mod_eq_of_lt (show k < 2 ^ 64 by omega)]
  rcases Nat.lt_or_ge c k with h | h
  · simp [h, Nat.not_le.mpr h]
  · simp [hc, h, Nat.not_lt.mpr h]
theorem cp_shr (x : Int64) {k : Nat} (c : Nat) (hk : k < 64) : cp_b ((x.toUInt64 >>> ((nI k).toInt64.toUInt64 &&& Int64.toUInt64 63)).toInt64) c = cp_b x (k + c) := by
  rw [wb_cu k hk]
  have h1 : (UInt64.ofNat k).toNat = k := by
    show (BitVec.ofNat 64 k).toNat = k
    rw [BitVec.toNat_ofNat, Nat.mod_eq_of_lt (by omega)]
  have e : (x.toUInt64 >>> UInt64.ofNat k).toInt64.toBitVec = x.toBitVec >>> k := by
    apply BitVec.eq_of_toNat_eq
    show (x.toUInt64 >>> UInt64.ofNat k).toNat = _
    rw [UInt64.toNat_shiftRight, h1, Nat.mod_eq_of_lt hk, BitVec.toNat_ushiftRight]
    rfl
  unfold cp_b
  rw [e, BitVec.getLsbD_ushiftRight]
def cp_1 (k : Nat) : Int64 := (1 : Int64) <<< ((nI k).toInt64 &&& 63)
theorem cp_one0 : ∀ c, c < 64 → cp_b 1 c = decide (c = 0) := by decide +kernel
theorem cp_one {k c : Nat} (hk : k < 64) (hc : c < 64) : cp_b (cp_1 k) c = decide (c = k) := by
  rw [cp_1, cp_shl 1 hk hc, cp_one0 _ (by omega)]
  by_cases h : c = k
  · subst h; simp
  · by_cases h2 : k ≤ c
    · simp [h, h2]; omega
    · simp [h, h2]
theorem cp_has {w : Int64} {k : Nat} (hk : k < 64) : (((w.toUInt64 >>> ((nI k).toInt64.toUInt64 &&& Int64.toUInt64 63)).toInt64) &&& 1) = 0 ↔ cp_b w k = false := by
  refine ts_bit hk ?_
  rw [wb_cu k hk]
  show (BitVec.ofNat 64 k).toNat = k
  rw [BitVec.toNat_ofNat, Nat.mod_eq_of_lt (by omega)]
theorem cp_Ib {b : Bool} {A B : Prop} (h0 : b = false → A) (h1 : b = true → B) : (cp_I b = 0 → A) ∧ (¬ cp_I b = 0 → B) := by
  cases b
  · exact br_t rfl (h0 rfl)
  · exact br_f (by decide) (h1 rfl)
theorem cp_I0 {b : Bool} : cp_I b = 0 ↔ b = false := by cases b <;> decide
theorem cp_Ieq {a b : Bool} : cp_I a = cp_I b ↔ a = b := by cases a <;> cases b <;> decide
theorem cp_Inar (b : Bool) : vp_nar .boolean (cp_I b) = cp_I b := by cases b <;> decide
theorem cp_nar0 : vp_nar .boolean 0 = cp_I false := by decide
theorem cp_nar1 : vp_nar .boolean 1 = cp_I true := by decide
theorem cp_md8 {m : Bool} {A B : Prop} (h1 : m = true → A) (h0 : m = false → B) : (cp_md m = 8 → A) ∧ (¬ cp_md m = 8 → B) := by
  cases m
  · exact br_f (by decide) (h0 rfl)
  · exact br_t rfl (h1 rfl)
theorem cp_md12 (m : Bool) : 12 - cp_md m = cp_md (!m) := by cases m <;> decide
def cp_rim (c : Nat) : Bool := decide (c % 8 = 0 ∨ c % 8 = 7 ∨ c / 8 = 0 ∨ c / 8 = 7)
def cp_RIM : Int64 := -35604928818740737
theorem cp_Rim : ∀ c, c < 64 → cp_b cp_RIM c = cp_rim c := by decide +kernel
theorem cp_lm : ∀ c, c < 64 → cp_b (-72340172838076674) c = decide (c % 8 ≠ 0) := by decide +kernel
theorem cp_rm : ∀ c, c < 64 → cp_b 9187201950435737471 c = decide (c % 8 ≠ 7) := by decide +kernel
theorem cp_bi {a b : Bool} (h : a = true ↔ b = true) : a = b := by cases a <;> cases b <;> simp_all
theorem cp_nb {b : Bool} : ¬ b = true ↔ b = false := by cases b <;> simp

/-! counting -/
def cp_ct (P : Nat → Bool) : Nat → Nat
  | 0 => 0
  | n + 1 => cp_ct P n + (P n).toNat
theorem cp_ctT {P : Nat → Bool} {n : Nat} (h : P n = true) : cp_ct P (n + 1) = cp_ct P n + 1 := by rw [cp_ct, h]; rfl
theorem cp_ctF {P : Nat → Bool} {n : Nat} (h : P n = false) : cp_ct P (n + 1) = cp_ct P n := by rw [cp_ct, h]; rfl
theorem cp_tn (b : Bool) : b.toNat ≤ 1 := by cases b <;> decide
theorem cp_ct_le (P : Nat → Bool) (n : Nat) : cp_ct P n ≤ n := by
  induction n with
  | zero => exact Nat.le_refl _
  | succ n ih => have := cp_tn (P n); rw [cp_ct]; omega
theorem cp_ct_congr {P Q : Nat → Bool} (n : Nat) (h : ∀ c, c < n → P c = Q c) : cp_ct P n = cp_ct Q n := by
  induction n with
  | zero => rfl
  | succ n ih => rw [cp_ct, cp_ct, ih (fun c hc => h c (by omega)), h n (by omega)]
theorem cp_ct_mono {P Q : Nat → Bool} (n : Nat) (h : ∀ c, c < n → P c = true → Q c = true) : cp_ct P n ≤ cp_ct Q n := by
  induction n with
  | zero => exact Nat.le_refl _
  | succ n ih =>
    have i := ih (fun c hc => h c (by omega))
    have j := h n (by omega)
    rw [cp_ct, cp_ct]
    cases hP : P n
    · simp; omega
    · rw [j hP]; omega
theorem cp_ct_strict {P Q : Nat → Bool} (n : Nat) (h : ∀ c, c < n → P c = true → Q c = true) {d : Nat} (hd : d < n) (h1 : P d = false) (h2 : Q d = true) : cp_ct P n < cp_ct Q n := by
  induction n with
  | zero => omega
  | succ n ih =>
    by_cases e : d = n
    · subst e
      have i := cp_ct_mono d (fun c hc => h c (by omega))
      rw [cp_ct, cp_ct, h1, h2]; simp; omega
    · have i := ih (fun c hc => h c (by omega)) (by omega)
      have j := h n (by omega)
      rw [cp_ct, cp_ct]
      cases hP : P n
      · simp; omega
      · rw [j hP]; omega
theorem cp_ct_0 {P : Nat → Bool} (n : Nat) : cp_ct P n = 0 ↔ ∀ c, c < n → P c = false := by
  induction n with
  | zero => exact ⟨fun _ c hc => absurd hc (by omega), fun _ => rfl⟩
  | succ n ih =>
    rw [cp_ct]
    constructor
    · intro h c hc
      have h1 : cp_ct P n = 0 := by omega
      by_cases e : c = n
      · subst e; cases hP : P c
        · rfl
        · rw [hP] at h; simp at h
      · exact ih.mp h1 c (by omega)
    · intro h
      rw [ih.mpr (fun c hc => h c (by omega)), h n (by omega)]; rfl
theorem cp_ct_upd {P Q : Nat → Bool} (n : Nat) {d : Nat} (hd : d < n) (h1 : P d = false) (h2 : Q d = true) (h : ∀ c, c < n → c ≠ d → Q c = P c) : cp_ct Q n = cp_ct P n + 1 := by
  induction n with
  | zero => omega
  | succ n ih =>
    rw [cp_ct, cp_ct]
    by_cases e : d = n
    · subst e
      rw [h1, h2, cp_ct_congr d (fun c hc => h c (by omega) (by omega))]; rfl
    · rw [ih (by omega) (fun c hc hn => h c (by omega) hn), h n (by omega) (by omega)]; omega
theorem cp_ct_skip {P : Nat → Bool} {a b : Nat} (hab : a ≤ b) (h : ∀ c, a ≤ c → c < b → P c = false) : cp_ct P b = cp_ct P a := by
  induction b with
  | zero => rw [show a = 0 by omega]
  | succ b ih =>
    by_cases e : a = b + 1
    · rw [e]
    · rw [cp_ctF (h b (by omega) (by omega)), ih (by omega) (fun c h1 h2 => h c h1 (by omega))]
end
section
/-! neighbours, spreading, connected cells -/
def cp_df (a b : Nat) : Nat := (a - b) + (b - a)
def cp_ad (m : Bool) (c d : Nat) : Bool :=
  decide (cp_df (c % 8) (d % 8) * cp_df (c % 8) (d % 8) + cp_df (c / 8) (d / 8) * cp_df (c / 8) (d / 8) = 1) || (m && decide (cp_df (c % 8) (d % 8) * cp_df (c % 8) (d % 8) + cp_df (c / 8) (d / 8) * cp_df (c / 8) (d / 8) = 2))
theorem cp_df_s (a b : Nat) : cp_df a b = cp_df b a := by unfold cp_df; omega
theorem cp_ad_s (m : Bool) (c d : Nat) : cp_ad m c d = cp_ad m d c := by
  unfold cp_ad; rw [cp_df_s (c % 8), cp_df_s (c / 8)]
def cp_L (w : Int64) : Int64 := ((w &&& (-72340172838076674)).toUInt64 >>> ((1 : Int32).toInt64.toUInt64 &&& Int64.toUInt64 63)).toInt64
def cp_R (w : Int64) : Int64 := (w &&& 9187201950435737471) <<< ((1 : Int32).toInt64 &&& 63)
def cp_U (w : Int64) : Int64 := w <<< ((8 : Int32).toInt64 &&& 63)
def cp_D (w : Int64) : Int64 := (w.toUInt64 >>> ((8 : Int32).toInt64.toUInt64 &&& Int64.toUInt64 63)).toInt64
def cp_nr (m : Bool) (w : Int64) : Int64 := ((cp_L w ||| cp_R w) ||| cp_U (if m then w ||| (cp_L w ||| cp_R w) else w)) ||| cp_D (if m then w ||| (cp_L w ||| cp_R w) else w)
theorem cp_Lb (w : Int64) {c : Nat} (hc : c < 64) : cp_b (cp_L w) c = (decide (c % 8 ≠ 7) && cp_b w (c + 1)) := by
  show cp_b (((w &&& (-72340172838076674)).toUInt64 >>> ((nI 1).toInt64.toUInt64 &&& Int64.toUInt64 63)).toInt64) c = _
  rw [cp_shr _ c (by omega), cp_and, Nat.add_comm 1 c]
  rcases Nat.lt_or_ge (c + 1) 64 with h | h
  · rw [cp_lm _ h]
    by_cases e : c % 8 = 7
    · simp [e]; omega
    · have : ¬ (c + 1) % 8 = 0 := by omega
      simp [e, this]
  · rw [cp_big h]; simp
theorem cp_Rb (w : Int64) {c : Nat} (hc : c < 64) : cp_b (cp_R w) c = (decide (c % 8 ≠ 0) && cp_b w (c - 1)) := by
  show cp_b ((w &&& 9187201950435737471) <<< ((nI 1).toInt64 &&& 63)) c = _
  rw [cp_shl _ (by omega) hc, cp_and, cp_rm _ (by omega)]
  by_cases e : c % 8 = 0
  · by_cases z : c = 0
    · subst z; simp
    · have h1 : (c - 1) % 8 = 7 := by omega
      simp [e, h1]
  · have h1 : ¬ (c - 1) % 8 = 7 := by omega
    have h2 : 1 ≤ c := by omega
    simp [e, h1, h2]
theorem cp_Ub (w : Int64) {c : Nat} (hc : c < 64) : cp_b (cp_U w) c = (decide (8 ≤ c) && cp_b w (c - 8)) := cp_shl (k := 8) w (by omega) hc
theorem cp_Db (w : Int64) (c : Nat) : cp_b (cp_D w) c = cp_b w (c + 8) := by
  rw [Nat.add_comm]; exact cp_shr (k := 8) w c (by omega)
theorem cp_t1 : ∀ m : Bool, ∀ c, c < 64 → (c % 8 ≠ 7 → cp_ad m c (c + 1) = true) ∧ (c % 8 ≠ 0 → cp_ad m c (c - 1) = true) ∧ (8 ≤ c → cp_ad m c (c - 8) = true) ∧ (cp_ad m c (c + 8) = true) := by decide +kernel
theorem cp_t2 : ∀ c, c < 64 → (8 ≤ c → c % 8 ≠ 7 → cp_ad true c (c - 8 + 1) = true) ∧ (8 ≤ c → c % 8 ≠ 0 → cp_ad true c (c - 8 - 1) = true) ∧ (c % 8 ≠ 7 → cp_ad true c (c + 8 + 1) = true) ∧ (c % 8 ≠ 0 → cp_ad true c (c + 8 - 1) = true) := by decide +kernel
def cp_t3q (c d : Nat) : Bool := !cp_ad false c d || decide ((d = c + 1 ∧ c % 8 ≠ 7) ∨ (d = c - 1 ∧ c % 8 ≠ 0) ∨ (d = c - 8 ∧ 8 ≤ c) ∨ d = c + 8)
theorem cp_t3r : ∀ c, c < 64 → ∀ d, d < 64 → cp_t3q c d = true := by decide +kernel
theorem cp_t3 (c : Nat) (hc : c < 64) (d : Nat) (hd : d < 64) (ha : cp_ad false c d = true) : (d = c + 1 ∧ c % 8 ≠ 7) ∨ (d = c - 1 ∧ c % 8 ≠ 0) ∨ (d = c - 8 ∧ 8 ≤ c) ∨ d = c + 8 := by
  have h := cp_t3r c hc d hd
  unfold cp_t3q at h
  rw [ha, Bool.not_true, Bool.false_or, decide_eq_true_eq] at h
  exact h
def cp_t4q (c d : Nat) : Bool := !cp_ad true c d || decide ((d = c + 1 ∧ c % 8 ≠ 7) ∨ (d = c - 1 ∧ c % 8 ≠ 0) ∨ (8 ≤ c ∧ (d = c - 8 ∨ (d = c - 8 + 1 ∧ c % 8 ≠ 7) ∨ (d = c - 8 - 1 ∧ c % 8 ≠ 0))) ∨ (d = c + 8 ∨ (d = c + 8 + 1 ∧ c % 8 ≠ 7) ∨ (d = c + 8 - 1 ∧ c % 8 ≠ 0)))
theorem cp_t4r : ∀ c, c < 64 → ∀ d, d < 64 → cp_t4q c d = true := by decide +kernel
theorem cp_t4 (c : Nat) (hc : c < 64) (d : Nat) (hd : d < 64) (ha : cp_ad true c d = true) : (d = c + 1 ∧ c % 8 ≠ 7) ∨ (d = c - 1 ∧ c % 8 ≠ 0) ∨ (8 ≤ c ∧ (d = c - 8 ∨ (d = c - 8 + 1 ∧ c % 8 ≠ 7) ∨ (d = c - 8 - 1 ∧ c % 8 ≠ 0))) ∨ (d = c + 8 ∨ (d = c + 8 + 1 ∧ c % 8 ≠ 7) ∨ (d = c + 8 - 1 ∧ c % 8 ≠ 0)) := by
  have h := cp_t4r c hc d hd
  unfold cp_t4q at h
  rw [ha, Bool.not_true, Bool.false_or, decide_eq_true_eq] at h
  exact h
theorem cp_nrb (m : Bool) (w : Int64) {c : Nat} (hc : c < 64) : cp_b (cp_nr m w) c = true ↔ ∃ d, cp_b w d = true ∧ cp_ad m c d = true := by
  unfold cp_nr
  rw [cp_or, cp_or, cp_or, cp_Lb w hc, cp_Rb w hc, cp_Ub _ hc, cp_Db]
  have t1 := cp_t1 m c hc
  cases m
  · simp only [Bool.or_eq_true, Bool.and_eq_true, decide_eq_true_eq, Bool.false_eq_true, if_false]
    constructor
    · rintro (((⟨a, b⟩ | ⟨a, b⟩) | ⟨a, b⟩) | b)
      · exact ⟨_, b, t1.1 a⟩
      · exact ⟨_, b, t1.2.1 a⟩
      · exact ⟨_, b, t1.2.2.1 a⟩
      · exact ⟨_, b, t1.2.2.2⟩
    · rintro ⟨d, hd, ha⟩
      rcases cp_t3 c hc d (cp_lt hd) ha with ⟨e, h⟩ | ⟨e, h⟩ | ⟨e, h⟩ | e
      · subst e; exact Or.inl (Or.inl (Or.inl ⟨h, hd⟩))
      · subst e; exact Or.inl (Or.inl (Or.inr ⟨h, hd⟩))
      · subst e; exact Or.inl (Or.inr ⟨h, hd⟩)
      · subst e; exact Or.inr hd
  · have t2 := cp_t2 c hc
    simp only [if_true]
    have hu : c - 8 < 64 := by omega
    have hD : cp_b (w ||| (cp_L w ||| cp_R w)) (c + 8) = (cp_b w (c + 8) || ((decide (c % 8 ≠ 7) && cp_b w (c + 8 + 1)) || (decide (c % 8 ≠ 0) && cp_b w (c + 8 - 1)))) := by
      rcases Nat.lt_or_ge (c + 8) 64 with h | h
      · rw [cp_or, cp_or, cp_Lb w h, cp_Rb w h, show (c + 8) % 8 = c % 8 by omega]
      · rw [cp_big h, cp_big h, cp_big (show 64 ≤ c + 8 + 1 by omega)]
        by_cases e : c % 8 = 0
        · simp [e]
        · rw [cp_big (show 64 ≤ c + 8 - 1 by omega)]; simp
    have hU : (decide (8 ≤ c) && cp_b (w ||| (cp_L w ||| cp_R w)) (c - 8)) = (decide (8 ≤ c) && (cp_b w (c - 8) || ((decide (c % 8 ≠ 7) && cp_b w (c - 8 + 1)) || (decide (c % 8 ≠ 0) && cp_b w (c - 8 - 1))))) := by
      by_cases h : 8 ≤ c
      · rw [cp_or, cp_or, cp_Lb w hu, cp_Rb w hu, show (c - 8) % 8 = c % 8 by omega]
      · simp [h]
    rw [hU, hD]
    simp only [Bool.or_eq_true, Bool.and_eq_true, decide_eq_true_eq]
    constructor
    · rintro (((⟨a, b⟩ | ⟨a, b⟩) | ⟨a, b | ⟨e, b⟩ | ⟨e, b⟩⟩) | b | ⟨e, b⟩ | ⟨e, b⟩)
      · exact ⟨_, b, t1.1 a⟩
      · exact ⟨_, b, t1.2.1 a⟩
      · exact ⟨_, b, t1.2.2.1 a⟩
      · exact ⟨_, b, t2.1 a e⟩
      · exact ⟨_, b, t2.2.1 a e⟩
      · exact ⟨_, b, t1.2.2.2⟩
      · exact ⟨_, b, t2.2.2.1 e⟩
      · exact ⟨_, b, t2.2.2.2 e⟩
    · rintro ⟨d, hd, ha⟩
      rcases cp_t4 c hc d (cp_lt hd) ha with ⟨e, h⟩ | ⟨e, h⟩ | ⟨h, e | ⟨e, g⟩ | ⟨e, g⟩⟩ | e | ⟨e, g⟩ | ⟨e, g⟩
      · subst e; exact Or.inl (Or.inl (Or.inl ⟨h, hd⟩))
      · subst e; exact Or.inl (Or.inl (Or.inr ⟨h, hd⟩))
      · subst e; exact Or.inl (Or.inr ⟨h, Or.inl hd⟩)
      · subst e; exact Or.inl (Or.inr ⟨h, Or.inr (Or.inl ⟨g, hd⟩)⟩)
      · subst e; exact Or.inl (Or.inr ⟨h, Or.inr (Or.inr ⟨g, hd⟩)⟩)
      · subst e; exact Or.inr (Or.inl hd)
      · subst e; exact Or.inr (Or.inr (Or.inl ⟨g, hd⟩))
      · subst e; exact Or.inr (Or.inr (Or.inr ⟨g, hd⟩))
/-! k steps of spreading from S within W -/
def cp_sp (m : Bool) (W S : Int64) : Nat → Int64
  | 0 => S
  | k + 1 => cp_sp m W S k ||| (cp_nr m (cp_sp m W S k) &&& W)
theorem cp_spS (m : Bool) (W S : Int64) (k : Nat) {c : Nat} : cp_b (cp_sp m W S (k + 1)) c = true ↔ cp_b (cp_sp m W S k) c = true ∨ (cp_b W c = true ∧ ∃ d, cp_b (cp_sp m W S k) d = true ∧ cp_ad m c d = true) := by
  rcases Nat.lt_or_ge c 64 with hc | hc
  · rw [cp_sp, cp_or, cp_and, Bool.or_eq_true, Bool.and_eq_true, cp_nrb m _ hc]
    exact or_congr Iff.rfl And.comm
  · rw [cp_big hc, cp_big hc, cp_big hc]; simp
theorem cp_sp_le (m : Bool) (W S : Int64) {j k : Nat} (h : j ≤ k) {c : Nat} (hb : cp_b (cp_sp m W S j) c = true) : cp_b (cp_sp m W S k) c = true := by
  induction k with
  | zero => rw [show j = 0 by omega] at hb; exact hb
  | succ k ih =>
    by_cases e : j = k + 1
    · subst e; exact hb
    · exact (cp_spS m W S k).mpr (Or.inl (ih (by omega)))
theorem cp_stab (m : Bool) (W S : Int64) {k : Nat} (h : cp_sp m W S (k + 1) = cp_sp m W S k) (j : Nat) : cp_sp m W S (k + j) = cp_sp m W S k := by
  induction j with
  | zero => rfl
  | succ j ih =>
    show cp_sp m W S (k + j) ||| (cp_nr m (cp_sp m W S (k + j)) &&& W) = _
    rw [ih]; exact h
theorem cp_grow (m : Bool) (W S : Int64) (k : Nat) : (∃ j, j < k ∧ cp_sp m W S (j + 1) = cp_sp m W S j) ∨ k ≤ cp_ct (cp_b (cp_sp m W S k)) 64 := by
  induction k with
  | zero => exact Or.inr (Nat.zero_le _)
  | succ k ih =>
    rcases ih with ⟨j, hj, e⟩ | h
    · exact Or.inl ⟨j, by omega, e⟩
    · by_cases e : cp_sp m W S (k + 1) = cp_sp m W S k
      · exact Or.inl ⟨k, by omega, e⟩
      · right
        have mono : ∀ c, c < 64 → cp_b (cp_sp m W S k) c = true → cp_b (cp_sp m W S (k + 1)) c = true := fun c _ hb => cp_sp_le m W S (Nat.le_succ k) hb
        have hd : ∃ d, d < 64 ∧ cp_b (cp_sp m W S k) d = false ∧ cp_b (cp_sp m W S (k + 1)) d = true := by
          refine Classical.byContradiction fun hn => e (cp_ext fun c hc => ?_)
          cases h1 : cp_b (cp_sp m W S k) c
          · cases h2 : cp_b (cp_sp m W S (k + 1)) c
            · rfl
            · exact absurd ⟨c, hc, h1, h2⟩ hn
          · exact mono c hc h1
        obtain ⟨d, hd, h1, h2⟩ := hd
        have := cp_ct_strict 64 mono hd h1 h2
        omega
theorem cp_fix (m : Bool) (W S : Int64) : cp_sp m W S 65 = cp_sp m W S 64 := by
  rcases cp_grow m W S 65 with ⟨j, hj, e⟩ | h
  · have h1 := cp_stab m W S e (65 - j)
    have h2 := cp_stab m W S e (64 - j)
    rw [show j + (65 - j) = 65 by omega] at h1
    rw [show j + (64 - j) = 64 by omega] at h2
    rw [h1, h2]
  · have := cp_ct_le (cp_b (cp_sp m W S 65)) 64
    omega
def cp_G (m : Bool) (W S : Int64) : Int64 := cp_sp m W S 64
theorem cp_G_of (m : Bool) (W S : Int64) {k c : Nat} (h : cp_b (cp_sp m W S k) c = true) : cp_b (cp_G m W S) c = true := by
  rcases Nat.le_total k 64 with g | g
  · exact cp_sp_le m W S g h
  · have := cp_stab m W S (cp_fix m W S) (k - 64)
    rw [show 64 + (k - 64) = k by omega] at this
    rw [this] at h; exact h
theorem cp_G_0 (m : Bool) (W S : Int64) {c : Nat} (h : cp_b S c = true) : cp_b (cp_G m W S) c = true := cp_G_of m W S (k := 0) h
theorem cp_G_cl (m : Bool) (W S : Int64) {c d : Nat} (hd : cp_b (cp_G m W S) d = true) (ha : cp_ad m c d = true) (hw : cp_b W c = true) : cp_b (cp_G m W S) c = true := by
  have h : cp_b (cp_sp m W S 65) c = true := (cp_spS m W S 64).mpr (Or.inr ⟨hw, d, hd, ha⟩)
  rw [cp_fix] at h; exact h
theorem cp_G_min {m : Bool} {W S : Int64} (P : Nat → Prop) (h0 : ∀ c, cp_b S c = true → P c) (hs : ∀ c d, P d → cp_ad m c d = true → cp_b W c = true → P c) : ∀ k c, cp_b (cp_sp m W S k) c = true → P c := by
  intro k
  induction k with
  | zero => exact h0
  | succ k ih =>
    intro c hc
    rcases (cp_spS m W S k).mp hc with h | ⟨hw, d, hd, ha⟩
    · exact ih c h
    · exact hs c d (ih d hd) ha hw
/-! the group of cell c -/
def cp_C (m : Bool) (W : Int64) (c : Nat) : Int64 := cp_G m W (cp_1 c)
theorem cp_C_r (m : Bool) (W : Int64) {c : Nat} (hc : c < 64) : cp_b (cp_C m W c) c = true := cp_G_0 m W _ (by rw [cp_one hc hc]; simp)
theorem cp_1e {c d : Nat} (hc : c < 64) (h : cp_b (cp_1 c) d = true) : d = c := by
  rw [cp_one hc (cp_lt h)] at h; simpa using h
theorem cp_C_min {m : Bool} {W : Int64} {c : Nat} (hc : c < 64) (P : Nat → Prop) (h0 : P c) (hs : ∀ c d, P d → cp_ad m c d = true → cp_b W c = true → P c) {d : Nat} (hd : cp_b (cp_C m W c) d = true) : P d :=
  cp_G_min P (fun e he => by rw [cp_1e hc he]; exact h0) hs 64 d hd
theorem cp_C_w {m : Bool} {W : Int64} {c d : Nat} (hw : cp_b W c = true) (h : cp_b (cp_C m W c) d = true) : cp_b W d = true :=
  cp_C_min (cp_lt hw) (fun e => cp_b W e = true) hw (fun _ _ _ _ h => h) h
theorem cp_C_t {m : Bool} {W : Int64} {a b c : Nat} (h1 : cp_b (cp_C m W a) b = true) (h2 : cp_b (cp_C m W b) c = true) : cp_b (cp_C m W a) c = true :=
  cp_C_min (cp_lt h1) (fun e => cp_b (cp_C m W a) e = true) h1 (fun _ _ hd ha hw => cp_G_cl m W _ hd ha hw) h2
theorem cp_C_s {m : Bool} {W : Int64} {a b : Nat} (hw : cp_b W a = true) (h : cp_b (cp_C m W a) b = true) : cp_b (cp_C m W b) a = true := by
  have := cp_C_min (cp_lt hw) (fun e => cp_b W e = true ∧ cp_b (cp_C m W e) a = true) ⟨hw, cp_C_r m W (cp_lt hw)⟩ (fun e d hd ha he => ⟨he, ?_⟩) h
  · exact this.2
  · refine cp_C_t (b := d) (cp_G_cl m W _ (cp_C_r m W (cp_lt he)) ?_ hd.1) hd.2
    rw [cp_ad_s]; exact ha
theorem cp_C_eq {m : Bool} {W : Int64} {a b : Nat} (hw : cp_b W a = true) (h : cp_b (cp_C m W a) b = true) : cp_C m W b = cp_C m W a := by
  refine cp_ext fun c _ => cp_bi ⟨fun g => cp_C_t h g, fun g => cp_C_t (cp_C_s hw h) g⟩
/-! the least cells of the groups of W -/
def cp_ld (m : Bool) (W : Int64) (c : Nat) : Bool := cp_b W c && decide (cp_ct (cp_b (cp_C m W c)) c = 0)
theorem cp_ldI (m : Bool) (W : Int64) (c : Nat) : cp_ld m W c = true ↔ cp_b W c = true ∧ ∀ d, d < c → cp_b W d = true → cp_b (cp_C m W d) c = false := by
  unfold cp_ld
  rw [Bool.and_eq_true, decide_eq_true_eq, cp_ct_0]
  refine and_congr_right fun hw => ⟨fun h d hd hwd => ?_, fun h d hd => ?_⟩
  · cases e : cp_b (cp_C m W d) c
    · rfl
    · have := cp_C_s hwd e; rw [h d hd] at this; exact absurd this (by decide)
  · cases e : cp_b (cp_C m W c) d
    · rfl
    · have := cp_C_s hw e
      rw [h d hd (cp_C_w hw e)] at this; exact absurd this (by decide)
/-- what is left after the groups of the cells below i -/
def cp_rest (m : Bool) (W : Int64) (i : Nat) (r : Int64) : Prop := ∀ d, d < 64 → (cp_b r d = true ↔ cp_b W d = true ∧ ∀ e, e < i → cp_b W e = true → cp_b (cp_C m W e) d = false)
theorem cp_rest0 (m : Bool) (W : Int64) : cp_rest m W 0 W := fun d _ => ⟨fun h => ⟨h, fun e he => absurd he (by omega)⟩, fun h => h.1⟩
theorem cp_rest_ld {m : Bool} {W r : Int64} {i : Nat} (hi : i < 64) (h : cp_rest m W i r) : cp_b r i = cp_ld m W i := cp_bi ((h i hi).trans (cp_ldI m W i).symm)
theorem cp_restT {m : Bool} {W r : Int64} {i : Nat} (hi : i < 64) (h : cp_rest m W i r) (hb : cp_b r i = true) : cp_rest m W (i + 1) (r &&& (cp_C m W i ^^^ (-1))) := by
  intro d hd
  rw [cp_and, cp_not _ hd, Bool.and_eq_true, h d hd]
  constructor
  · rintro ⟨⟨h1, h2⟩, h3⟩
    refine ⟨h1, fun e he hw => ?_⟩
    by_cases q : e = i
    · subst q; cases g : cp_b (cp_C m W e) d
      · rfl
      · rw [g] at h3; exact absurd h3 (by decide)
    · exact h2 e (by omega) hw
  · rintro ⟨h1, h2⟩
    refine ⟨⟨h1, fun e he => h2 e (by omega)⟩, ?_⟩
    rw [h2 i (by omega) ((h i hi).mp hb).1]; rfl
theorem cp_restF {m : Bool} {W r : Int64} {i : Nat} (hi : i < 64) (h : cp_rest m W i r) (hb : cp_b r i = false) : cp_rest m W (i + 1) r := by
  intro d hd
  rw [h d hd]
  refine and_congr_right fun h1 => ⟨fun h2 e he hw => ?_, fun h2 e he => h2 e (by omega)⟩
  by_cases q : e = i
  · subst q
    cases g : cp_b (cp_C m W e) d
    · rfl
    · exfalso
      have hn : ¬ cp_b r e = true := by rw [hb]; decide
      apply hn
      refine (h e hi).mpr ⟨hw, fun f hf hwf => ?_⟩
      cases g2 : cp_b (cp_C m W f) e
      · rfl
      · have := cp_C_t g2 g
        rw [h2 f hf hwf] at this; exact absurd this (by decide)
  · exact h2 e (by omega) hw
/-- a cell that is on and not left has a group with a lesser on cell in it -/
theorem cp_rest_old {m : Bool} {W r : Int64} {i : Nat} (hi : i < 64) (h : cp_rest m W i r) (hb : cp_b r i = false) (hw : cp_b W i = true) : ∃ e, e < i ∧ cp_b W e = true ∧ cp_C m W i = cp_C m W e := by
  refine Classical.byContradiction fun hn => ?_
  have : cp_b r i = true := (h i hi).mpr ⟨hw, fun e he hwe => by
    cases g : cp_b (cp_C m W e) i
    · rfl
    · exact absurd ⟨e, he, hwe, cp_C_eq hwe g⟩ hn⟩
  rw [hb] at this; exact absurd this (by decide)
end
section
/-! the component's own methods -/
theorem cp_rem8 {a : Nat} (h : a < 64) : nI a - nI a / 8 * 8 = nI (a % 8) := pk_rem (d := 8) (by omega) (by decide) (by decide)
theorem cp_div8 {a : Nat} (h : a < 64) : nI a / 8 = nI (a / 8) := pk_div (d := 8) (by omega) (by decide) (by decide)
theorem cp_64 : (64 : Int32) ≤ nI 64 := by decide
theorem cp_n8 : ¬ (8 : Int32) = 0 := by decide
theorem cp_mode (x : Int32) : (¬ x = 4 ∧ ¬ x = 8) ∨ ∃ m, x = cp_md m := by
  by_cases h4 : x = 4
  · exact Or.inr ⟨false, h4⟩
  · by_cases h8 : x = 8
    · exact Or.inr ⟨true, h8⟩
    · exact Or.inl ⟨h4, h8⟩
theorem cp_cell (x : Int32) : (x < 0 ∨ nI 64 ≤ x) ∨ ∃ c, c < 64 ∧ x = nI c := by
  rcases pk_ix x (n := 64) (by decide) with h | h | h
  · exact Or.inl (Or.inl h)
  · exact Or.inl (Or.inr h)
  · exact Or.inr h
theorem cx_cellT {post : Int32 → Prop} {c : Nat} (hc : c < 64) (h : post 1) : wpX_isCell post (nI c) :=
  br_f (nI_pos (by omega)) (br_f (nI_ge (b := 64) hc (by decide)) h)
theorem cx_cellF {post : Int32 → Prop} {x : Int32} (hx : x < 0 ∨ nI 64 ≤ x) (h : post 0) : wpX_isCell post x := by
  by_cases h0 : x < 0
  · exact br_t h0 h
  · exact br_f h0 (br_t (hx.resolve_left h0) h)
theorem cx_modeT {post : Int32 → Prop} (m : Bool) (h : post 1) : wpX_isMode post (cp_md m) := by
  cases m
  · exact br_t rfl h
  · exact br_f (by decide) (br_t rfl h)
theorem cx_modeF {post : Int32 → Prop} {x : Int32} (hx : ¬ x = 4 ∧ ¬ x = 8) (h : post 0) : wpX_isMode post x := br_f hx.1 (br_f hx.2 h)
theorem cx_other {post : Int32 → Prop} (m : Bool) (h : post (cp_md (!m))) : wpX_otherMode post (cp_md m) := by
  cases m
  · exact br_t rfl h
  · exact br_f (by decide) h
theorem cx_has {post : Int32 → Prop} {w : Int64} {c : Nat} (hc : c < 64) (h : post (cp_I (cp_b w c))) : wpX_has post w (nI c) := by
  cases e : cp_b w c
  · rw [e] at h; exact br_t ((cp_has hc).mpr e) h
  · rw [e] at h; exact br_f (fun z => by rw [(cp_has hc).mp z] at e; exact absurd e (by decide)) h
theorem cx_isOn {post : Int32 → Prop} {w : Int64} {c : Nat} (hc : c < 64) (h : post (cp_I (cp_b w c))) : wpX_isOn post w (nI c) :=
  cx_cellT hc (br_f (by decide) (cx_has hc (cp_Ib (fun e => by rw [e] at h; exact h) (fun e => by rw [e] at h; exact h))))
theorem cx_isOnF {post : Int32 → Prop} {w : Int64} {x : Int32} (hx : x < 0 ∨ nI 64 ≤ x) (h : post 0) : wpX_isOn post w x := cx_cellF hx (br_t rfl h)
theorem cx_count {post : Int32 → Prop} {w : Int64} (h : post (nI (cp_ct (cp_b w) 64))) : wpX_count post w := by
  refine loop_0 (fun n i s => wX_count_4 post w n s (nI i)) (fun i s => s = nI (cp_ct (cp_b w) i)) 64 0 rfl ?_ ?_
  · intro n s hs; subst hs; exact br_t cp_64 h
  · intro n i s hi hs k
    subst hs
    exact br_f (nI_ge (b := 64) hi (by decide)) (cx_has hi (cp_Ib (fun e => nm_r (nI_1 i) (k _ (by rw [cp_ctF e]))) (fun e => nm_r (nI_1 _) (nm_r (nI_1 i) (k _ (by rw [cp_ctT e]))))))
theorem cx_become {post : Int32 → SX → Prop} {w w' : Int64} (h : post (nI (cp_ct (cp_b (w ^^^ w')) 64)) w') : wpX_become post w w' := nm_e (cx_count h)
theorem cx_least {post : Int32 → Prop} {w : Int64} {l : Nat} (hl : cp_b w l = true) (hm : ∀ d, d < l → cp_b w d = false) (h : post (nI l)) : wpX_least post w := by
  have l64 := cp_lt hl
  refine loop_0 (fun n i (_ : Unit) => wX_least_2 post w n (nI i)) (fun _ _ => True) l () trivial ?_ ?_
  · intro n s _
    exact br_f (nI_ge (b := 64) l64 (by decide)) (cx_has l64 (cp_Ib (fun e => by rw [hl] at e; exact absurd e (by decide)) (fun _ => h)))
  · intro n i s hi _ k
    exact br_f (nI_ge (b := 64) (by omega) (by decide)) (cx_has (by omega) (cp_Ib (fun _ => nm_r (nI_1 i) (k () trivial)) (fun e => by rw [hm i hi] at e; exact absurd e (by decide))))
theorem cx_near {post : Int64 → Prop} {m : Bool} {w : Int64} (h : post (cp_nr m w)) : wpX_near post (cp_md m) w := by
  refine nm_e (cp_md8 (fun e => ?_) (fun e => ?_))
  · subst e; exact h
  · subst e; exact h
theorem cx_spread {post : Int64 → Prop} {m : Bool} {W S : Int64} (h : post (cp_G m W S)) : wpX_spread post (cp_md m) S W := by
  refine loop_0 (fun n i s => wX_spread_6 post (cp_md m) W n s (nI i)) (fun i s => s = cp_sp m W S i) 64 S rfl ?_ ?_
  · intro n s hs; subst hs; exact br_t cp_64 h
  · intro n i s hi hs k
    subst hs
    exact br_f (nI_ge (b := 64) hi (by decide)) (cx_near (nm_e (nm_r (nI_1 i) (k _ rfl))))
theorem cx_groups {post : Int32 → Prop} {m : Bool} {W : Int64} (h : post (nI (cp_ct (cp_ld m W) 64))) : wpX_countGroups post (cp_md m) W := by
  refine loop_0 (fun n i (s : Int32 × Int64) => wX_countGroups_8 post (cp_md m) W n s.1 s.2 (nI i)) (fun i s => s.1 = nI (cp_ct (cp_ld m W) i) ∧ cp_rest m W i s.2) 64 (0, W) ⟨rfl, cp_rest0 m W⟩ ?_ ?_
  · rintro n ⟨s, r⟩ ⟨hs, hr⟩
    dsimp only at hs hr
    subst hs
    exact br_t cp_64 h
  · rintro n i ⟨s, r⟩ hi ⟨hs, hr⟩ k
    dsimp only at hs hr
    subst hs
    have hl := cp_rest_ld hi hr
    refine br_f (nI_ge (b := 64) hi (by decide)) (cx_has hi (cp_Ib (fun e => ?_) (fun e => ?_)))
    · exact nm_r (nI_1 i) (k (_, r) ⟨congrArg nI (cp_ctF (hl ▸ e)).symm, cp_restF hi hr e⟩)
    · refine nm_r (nI_1 _) (cx_spread (S := cp_1 i) (nm_e (nm_r (nI_1 i) (k (_, _) ⟨congrArg nI (cp_ctT (hl ▸ e)).symm, cp_restT hi hr e⟩))))
def cp_O (w : Int64) : Int64 := w ^^^ (-1)
def cp_H (m : Bool) (w : Int64) : Int64 := cp_O w &&& (cp_G (!m) (cp_O w) (cp_O w &&& cp_RIM) ^^^ (-1))
theorem cx_holes {post : Int64 → Prop} {m : Bool} {w : Int64} (h : post (cp_H m w)) : wpX_cellsOfHoles post w (cp_md m) :=
  nm_e (cx_other m (cx_spread h))
def cp_sh (m : Bool) (w : Int64) : Int64 := w &&& ((cp_nr m (w ^^^ (-1)) ||| cp_RIM) ^^^ (-1))
theorem cx_shrunk {post : Int64 → Prop} {m : Bool} {w : Int64} (h : post (cp_sh m w)) : wpX_shrunk post (cp_md m) w := cx_near h
def cp_mx (m : Bool) (W : Int64) : Nat → Nat
  | 0 => 0
  | n + 1 => if cp_b W n then (if cp_ct (cp_b (cp_C m W n)) 64 ≤ cp_mx m W n then cp_mx m W n else cp_ct (cp_b (cp_C m W n)) 64) else cp_mx m W n
theorem cp_mx_up (m : Bool) (W : Int64) (n : Nat) : cp_mx m W n ≤ cp_mx m W (n + 1) := by
  rw [cp_mx]; split
  · split <;> omega
  · omega
theorem cp_mx_le (m : Bool) (W : Int64) (n : Nat) : cp_mx m W n ≤ 64 := by
  induction n with
  | zero => exact Nat.zero_le _
  | succ n ih =>
    have := cp_ct_le (cp_b (cp_C m W n)) 64
    rw [cp_mx]; split
    · split <;> omega
    · omega
theorem cp_mx_ge (m : Bool) (W : Int64) (n e : Nat) (he : e < n) (hw : cp_b W e = true) : cp_ct (cp_b (cp_C m W e)) 64 ≤ cp_mx m W n := by
  induction n with
  | zero => omega
  | succ n ih =>
    by_cases q : e = n
    · subst q; rw [cp_mx, if_pos hw]; split <;> omega
    · exact Nat.le_trans (ih (by omega)) (cp_mx_up m W n)
theorem cp_mx_old {m : Bool} {W r : Int64} {i : Nat} (hi : i < 64) (h : cp_rest m W i r) (hb : cp_b r i = false) : cp_mx m W (i + 1) = cp_mx m W i := by
  rw [cp_mx]
  by_cases hw : cp_b W i = true
  · obtain ⟨e, he, hwe, ec⟩ := cp_rest_old hi h hb hw
    rw [if_pos hw, ec, if_pos (cp_mx_ge m W i e he hwe)]
  · rw [if_neg hw]
theorem cx_largest {post : Int32 → Prop} {m : Bool} {W : Int64} (h : post (nI (cp_mx m W 64))) : ∃ n, wX_largest_19 post (cp_md m) W n 0 W 0 := by
  refine loop_0 (fun n i (s : Int32 × Int64) => wX_largest_19 post (cp_md m) W n s.1 s.2 (nI i)) (fun i s => s.1 = nI (cp_mx m W i) ∧ cp_rest m W i s.2) 64 (0, W) ⟨rfl, cp_rest0 m W⟩ ?_ ?_
  · rintro n ⟨s, r⟩ ⟨hs, hr⟩
    dsimp only at hs hr
    subst hs
    exact br_t cp_64 h
  · rintro n i ⟨s, r⟩ hi ⟨hs, hr⟩ k
    dsimp only at hs hr
    subst hs
    have l1 := cp_mx_le m W i
    have l2 := cp_ct_le (cp_b (cp_C m W i)) 64
    refine br_f (nI_ge (b := 64) hi (by decide)) (cx_has hi (cp_Ib (fun e => ?_) (fun e => ?_)))
    · exact nm_r (nI_1 i) (k (_, r) ⟨congrArg nI (cp_mx_old hi hr e).symm, cp_restF hi hr e⟩)
    · have hw := ((hr i hi).mp e).1
      refine cx_spread (S := cp_1 i) (cx_count (pk_le (cp_ct (cp_b (cp_C m W i)) 64) (cp_mx m W i) (fun g => ?_) (fun g => ?_)))
      · exact nm_e (nm_r (nI_1 i) (k (_, _) ⟨congrArg nI (by rw [cp_mx, if_pos hw, if_pos g]), cp_restT hi hr e⟩))
      · exact nm_e (nm_r (nI_1 i) (k (_, _) ⟨congrArg nI (by rw [cp_mx, if_pos hw, if_neg (by omega)]; rfl), cp_restT hi hr e⟩))
def cp_kp (m : Bool) (W : Int64) (n i : Nat) (k : Int64) : Prop := ∀ d, d < 64 → (cp_b k d = true ↔ cp_b W d = true ∧ ∀ e, e < i → cp_b W e = true → cp_b (cp_C m W e) d = true → n ≤ cp_ct (cp_b (cp_C m W e)) 64)
theorem cp_kp0 (m : Bool) (W : Int64) (n : Nat) : cp_kp m W n 0 W := fun d _ => ⟨fun h => ⟨h, fun e he => absurd he (by omega)⟩, fun h => h.1⟩
theorem cp_kpS {m : Bool} {W : Int64} {n i : Nat} {k : Int64} (h : cp_kp m W n i k) (hs : ∀ d, d < 64 → cp_b k d = true → cp_b W i = true → cp_b (cp_C m W i) d = true → n ≤ cp_ct (cp_b (cp_C m W i)) 64) : cp_kp m W n (i + 1) k := by
  intro d hd
  constructor
  · intro hk
    obtain ⟨h1, h2⟩ := (h d hd).mp hk
    refine ⟨h1, fun e he hw hc => ?_⟩
    by_cases q : e = i
    · subst q; exact hs d hd hk hw hc
    · exact h2 e (by omega) hw hc
  · rintro ⟨h1, h2⟩
    exact (h d hd).mpr ⟨h1, fun e he => h2 e (by omega)⟩
theorem cp_kpF {m : Bool} {W r : Int64} {n i : Nat} {k : Int64} (hi : i < 64) (h : cp_kp m W n i k) (hr : cp_rest m W i r) (hb : cp_b r i = false) : cp_kp m W n (i + 1) k := by
  refine cp_kpS h fun d hd hk hw hc => ?_
  obtain ⟨e, he, hwe, ec⟩ := cp_rest_old hi hr hb hw
  rw [ec] at hc ⊢
  exact ((h d hd).mp hk).2 e he hwe hc
theorem cp_kpD {m : Bool} {W : Int64} {n i : Nat} {k : Int64} (h : cp_kp m W n i k) (hw : cp_b W i = true) (hn : cp_ct (cp_b (cp_C m W i)) 64 < n) : cp_kp m W n (i + 1) (k &&& (cp_C m W i ^^^ (-1))) := by
  intro d hd
  rw [cp_and, cp_not _ hd, Bool.and_eq_true, h d hd]
  constructor
  · rintro ⟨⟨h1, h2⟩, h3⟩
    refine ⟨h1, fun e he hwe hc => ?_⟩
    by_cases q : e = i
    · subst q; rw [hc] at h3; exact absurd h3 (by decide)
    · exact h2 e (by omega) hwe hc
  · rintro ⟨h1, h2⟩
    refine ⟨⟨h1, fun e he => h2 e (by omega)⟩, ?_⟩
    cases q : cp_b (cp_C m W i) d
    · rfl
    · have := h2 i (by omega) hw q; omega
theorem cp_kpE {m : Bool} {W : Int64} {n : Nat} {k : Int64} (h : cp_kp m W n 64 k) (d : Nat) (hd : d < 64) : cp_b k d = (cp_b W d && decide (n ≤ cp_ct (cp_b (cp_C m W d)) 64)) := by
  refine cp_bi ((h d hd).trans ?_)
  rw [Bool.and_eq_true, decide_eq_true_eq]
  refine and_congr_right fun hw => ⟨fun g => g d hd hw (cp_C_r m W hd), fun g e he hwe hc => ?_⟩
  rw [cp_C_eq hwe hc] at g; exact g
theorem cx_clear {post : Int32 → SX → Prop} {m : Bool} {W : Int64} {c : Nat} (hc : c ≤ 64) (h : ∀ w', (∀ d, d < 64 → cp_b w' d = (cp_b W d && decide (c ≤ cp_ct (cp_b (cp_C m W d)) 64))) → post (nI (cp_ct (cp_b (W ^^^ w')) 64)) w') : ∃ n, wX_clear_33 post (cp_md m) (nI c) W n W W 0 := by
  refine loop_0 (fun n i (s : Int64 × Int64) => wX_clear_33 post (cp_md m) (nI c) W n s.1 s.2 (nI i)) (fun i s => cp_kp m W c i s.1 ∧ cp_rest m W i s.2) 64 (W, W) ⟨cp_kp0 m W c, cp_rest0 m W⟩ ?_ ?_
  · rintro n ⟨s, r⟩ ⟨hs, hr⟩
    exact br_t cp_64 (cx_become (h s (cp_kpE hs)))
  · rintro n i ⟨s, r⟩ hi ⟨hs, hr⟩ k
    have l2 := cp_ct_le (cp_b (cp_C m W i)) 64
    refine br_f (nI_ge (b := 64) hi (by decide)) (cx_has hi (cp_Ib (fun e => ?_) (fun e => ?_)))
    · exact nm_r (nI_1 i) (k (_, r) ⟨cp_kpF hi hs hr e, cp_restF hi hr e⟩)
    · have hw := ((hr i hi).mp e).1
      refine cx_spread (S := cp_1 i) (cx_count (pk_le c (cp_ct (cp_b (cp_C m W i)) 64) (fun g => ?_) (fun g => ?_)))
      · exact nm_e (nm_r (nI_1 i) (k (s, r &&& (cp_C m W i ^^^ (-1))) ⟨cp_kpS hs (fun _ _ _ _ _ => g), cp_restT hi hr e⟩))
      · exact nm_e (nm_r (nI_1 i) (k (s &&& (cp_C m W i ^^^ (-1)), r &&& (cp_C m W i ^^^ (-1))) ⟨cp_kpD hs hw g, cp_restT hi hr e⟩))
/-- the answer of way: t steps -/
theorem cx_wayT {post : Int32 → Prop} {m : Bool} {W S : Int64} {b t : Nat} (hb : b < 64) (ht : t < 64) (h1 : cp_b (cp_sp m W S t) b = true) (h2 : ∀ s, s < t → cp_b (cp_sp m W S s) b = false) (h : post (nI t)) : ∃ n, wX_way_36 post (cp_md m) (nI b) W n S 0 := by
  refine loop_0 (fun n i s => wX_way_36 post (cp_md m) (nI b) W n s (nI i)) (fun i s => s = cp_sp m W S i) t S rfl ?_ ?_
  · intro n s hs; subst hs
    exact br_f (nI_ge (b := 64) ht (by decide)) (cx_has hb (cp_Ib (fun e => by rw [h1] at e; exact absurd e (by decide)) (fun _ => h)))
  · intro n i s hi hs k; subst hs
    exact br_f (nI_ge (b := 64) (by omega) (by decide)) (cx_has hb (cp_Ib (fun _ => cx_near (nm_e (nm_r (nI_1 i) (k _ rfl)))) (fun e => by rw [h2 i hi] at e; exact absurd e (by decide))))
theorem cx_wayF {post : Int32 → Prop} {m : Bool} {W S : Int64} {b : Nat} (hb : b < 64) (h2 : ∀ s, cp_b (cp_sp m W S s) b = false) (h : post (-4)) : ∃ n, wX_way_36 post (cp_md m) (nI b) W n S 0 := by
  refine loop_0 (fun n i s => wX_way_36 post (cp_md m) (nI b) W n s (nI i)) (fun i s => s = cp_sp m W S i) 64 S rfl ?_ ?_
  · intro n s hs; subst hs
    exact br_t cp_64 h
  · intro n i s hi hs k; subst hs
    exact br_f (nI_ge (b := 64) (by omega) (by decide)) (cx_has hb (cp_Ib (fun _ => cx_near (nm_e (nm_r (nI_1 i) (k _ rfl)))) (fun e => by rw [h2 i] at e; exact absurd e (by decide))))
def cp_shk (w : Int64) : Nat → Int64
  | 0 => w
  | k + 1 => cp_sh false (cp_shk w k)
theorem cx_depth {post : Int32 → Prop} {w : Int64} {c t : Nat} (hc : c < 64) (ht : t ≤ 64) (h1 : cp_b (cp_shk w t) c = false) (h2 : ∀ s, s < t → cp_b (cp_shk w s) c = true) (h : post (nI t)) : ∃ n, wX_depth_17 post (nI c) w n w 0 := by
  refine loop_0 (fun n i s => wX_depth_17 post (nI c) w n s (nI i)) (fun i s => s = cp_shk w i) t w rfl ?_ ?_
  · intro n s hs; subst hs
    exact pk_le 64 t (fun _ => h) (fun _ => cx_has hc (cp_Ib (fun _ => h) (fun e => by rw [h1] at e; exact absurd e (by decide))))
  · intro n i s hi hs k; subst hs
    exact br_f (nI_ge (b := 64) (by omega) (by decide)) (cx_has hc (cp_Ib (fun e => by rw [h2 i hi] at e; exact absurd e (by decide)) (fun _ => cx_shrunk (m := false) (nm_r (nI_1 i) (k _ rfl)))))
/-- the rectangle -/
def cp_Q (f t d : Nat) : Bool := decide (f % 8 ≤ d % 8 ∧ d % 8 ≤ t % 8 ∧ f / 8 ≤ d / 8 ∧ d / 8 ≤ t / 8)
theorem cx_rect {post : Int64 → Prop} {f t : Nat} (hf : f < 64) (ht : t < 64) (h : ∀ r, (∀ d, d < 64 → cp_b r d = cp_Q f t d) → post r) : wpX_rectangle post (nI f) (nI t) := by
  refine loop_0 (fun n i s => wX_rectangle_5 post (nI f) (nI t) n s (nI i)) (fun i s => ∀ d, d < 64 → cp_b s d = (decide (d < i) && cp_Q f t d)) 64 0 ?_ ?_ ?_
  · intro d _; rw [cp_0]; simp
  · intro n s hs
    exact br_t cp_64 (h s (fun d hd => by rw [hs d hd, decide_eq_true hd, Bool.true_and]))
  · intro n i s hi hs k
    have hF : cp_Q f t i = false → ∀ d, d < 64 → cp_b s d = (decide (d < i + 1) && cp_Q f t d) := by
      intro q d hd
      rw [hs d hd]
      by_cases e : d = i
      · subst e; rw [q]; simp
      · have e2 : d < i ↔ d < i + 1 := by omega
        simp only [e2]
    have hT : cp_Q f t i = true → ∀ d, d < 64 → cp_b (s ||| cp_1 i) d = (decide (d < i + 1) && cp_Q f t d) := by
      intro q d hd
      rw [cp_or, hs d hd, cp_one hi hd]
      by_cases e : d = i
      · subst e; rw [q]; simp
      · have e2 : d < i ↔ d < i + 1 := by omega
        simp [e, e2]
    refine br_f (nI_ge (b := 64) hi (by decide)) ⟨cp_n8, nm_r (cp_rem8 hi) ⟨cp_n8, nm_r (cp_div8 hi) ⟨cp_n8, pk_lt (i % 8) (f % 8) (fun g => ?_) (fun g => ⟨cp_n8, pk_lt (t % 8) (i % 8) (fun g2 => ?_) (fun g2 => ?_) (cp_rem8 ht) rfl⟩) rfl (cp_rem8 hf)⟩⟩⟩
    · exact br_t rfl (nm_r (nI_1 i) (k _ (hF (decide_eq_false (by omega)))))
    · exact br_t rfl (nm_r (nI_1 i) (k _ (hF (decide_eq_false (by omega)))))
    · refine br_f (by decide) ⟨cp_n8, pk_lt (i / 8) (f / 8) (fun g3 => ?_) (fun g3 => ⟨cp_n8, pk_lt (t / 8) (i / 8) (fun g4 => ?_) (fun g4 => ?_) (cp_div8 ht) rfl⟩) rfl (cp_div8 hf)⟩
      · exact nm_r (nI_1 i) (k _ (hF (decide_eq_false (by omega))))
      · exact nm_r (nI_1 i) (k _ (hF (decide_eq_false (by omega))))
      · exact nm_e (nm_r (nI_1 i) (k _ (hT (decide_eq_true ⟨g, g2, g3, g4⟩))))
end
section
/-! the reference's walk -/
theorem cy_cellT {post : Int32 → Prop} {f : Int32} {on st me nx : Nat → Int32} {c : Nat} (hc : c < 64) (h : post 1) : wpY_isCell post (f, on, st, me, nx) (nI c) :=
  br_f (nI_pos (by omega)) (br_f (nI_nlt (a := 63) (by omega) (by decide)) h)
theorem cy_cellF {post : Int32 → Prop} {f : Int32} {on st me nx : Nat → Int32} {x : Int32} (hx : x < 0 ∨ nI 64 ≤ x) (h : post 0) : wpY_isCell post (f, on, st, me, nx) x := by
  by_cases h0 : x < 0
  · exact br_t h0 h
  · have h1 := hx.resolve_left h0
    obtain ⟨j, hj, rfl⟩ := nI_of h0
    rw [nI_leI (by decide) hj] at h1
    exact br_f h0 (br_t (nI_lt (a := 63) (by omega) hj) h)
theorem cy_modeT {post : Int32 → Prop} {f : Int32} {on st me nx : Nat → Int32} (m : Bool) (h : post 1) : wpY_isMode post (f, on, st, me, nx) (cp_md m) := by
  cases m
  · exact br_t rfl h
  · exact br_f (by decide) (br_t rfl h)
theorem cy_modeF {post : Int32 → Prop} {f : Int32} {on st me nx : Nat → Int32} {x : Int32} (hx : ¬ x = 4 ∧ ¬ x = 8) (h : post 0) : wpY_isMode post (f, on, st, me, nx) x := br_f hx.1 (br_f hx.2 h)
theorem cp_sq : ∀ a, a < 8 → ∀ b, b < 8 → (nI a - nI b) * (nI a - nI b) = nI (cp_df a b * cp_df a b) := by decide +kernel
theorem cp_sqb : ∀ a, a < 8 → ∀ b, b < 8 → cp_df a b * cp_df a b < 64 := by decide +kernel
theorem cy_near {post : Int32 → Prop} {f : Int32} {on st me nx : Nat → Int32} {c d : Nat} {m : Bool} (hc : c < 64) (hd : d < 64) (h : post (cp_I (cp_ad m c d))) : wpY_isNear post (f, on, st, me, nx) (nI c) (nI d) (cp_md m) := by
  have b1 := cp_sqb (c % 8) (by omega) (d % 8) (by omega)
  have b2 := cp_sqb (c / 8) (by omega) (d / 8) (by omega)
  have e3 : (nI (c % 8) - nI (d % 8)) * (nI (c % 8) - nI (d % 8)) + (nI (c / 8) - nI (d / 8)) * (nI (c / 8) - nI (d / 8)) = nI (cp_df (c % 8) (d % 8) * cp_df (c % 8) (d % 8) + cp_df (c / 8) (d / 8) * cp_df (c / 8) (d / 8)) := by
    rw [cp_sq _ (by omega) _ (by omega), cp_sq _ (by omega) _ (by omega), nI_add]
  have b3 : cp_df (c % 8) (d % 8) * cp_df (c % 8) (d % 8) + cp_df (c / 8) (d / 8) * cp_df (c / 8) (d / 8) < 128 := by omega
  unfold cp_ad at h
  generalize cp_df (c % 8) (d % 8) * cp_df (c % 8) (d % 8) + cp_df (c / 8) (d / 8) * cp_df (c / 8) (d / 8) = q at *
  refine ⟨cp_n8, cp_n8, nm_r (by rw [cp_rem8 hc, cp_rem8 hd]) ⟨cp_n8, cp_n8, nm_r (by rw [cp_div8 hc, cp_div8 hd]) (nm_r e3 ?_)⟩⟩
  by_cases q1 : q = 1
  · subst q1
    exact br_t rfl (by simp at h; exact h)
  · have n1 : ¬ nI q = 1 := fun z => q1 ((nI_eq (b := 1) (by omega) (by decide)).mp z)
    refine br_f n1 (cp_md8 (fun e => ?_) (fun e => ?_))
    · subst e
      by_cases q2 : q = 2
      · subst q2; exact br_t rfl (by simp at h; exact h)
      · have n2 : ¬ nI q = 2 := fun z => q2 ((nI_eq (b := 2) (by omega) (by decide)).mp z)
        exact br_f n2 (by simp [q1, q2] at h; exact h)
    · subst e
      simp [q1] at h; exact h
def cp_V (m : Bool) (W : Int64) (a : Nat) (k D n : Nat) (st me : Nat → Int32) (T M : Nat → Nat) : Prop :=
  n = cp_ct (fun d => decide (T d ≠ 0)) 64 ∧
  (∀ d, d < 64 → st d = nI (T d) - 1) ∧
  (∀ d, T d ≤ n) ∧
  (∀ j, j < n → me j = nI (M j) ∧ M j < 64 ∧ T (M j) ≠ 0) ∧
  (∀ d, d < 64 → T d ≠ 0 → ∃ j, j < n ∧ M j = d) ∧
  (∀ d, d < 64 → T d ≠ 0 → cp_b (cp_sp m W (cp_1 a) (T d - 1)) d = true) ∧
  T a = 1 ∧
  (∀ i j, i ≤ j → j < n → T (M i) ≤ T (M j)) ∧
  (k < n → ∀ j, j < n → T (M j) ≤ T (M k) + 1) ∧
  (∀ i d, d < 64 → i < n → (i < k ∨ (i = k ∧ d < D)) → cp_b W d = true → cp_ad m (M i) d = true → T d ≠ 0 ∧ T d ≤ T (M i) + 1)
theorem cp_V0 (m : Bool) (W : Int64) {a : Nat} (ha : a < 64) {st me : Nat → Int32} (h1 : ∀ d, d < 64 → st d = if d = a then 0 else -1) (h2 : me 0 = nI a) : ∃ T M, cp_V m W a 0 0 1 st me T M := by
  refine ⟨fun d => if d = a then 1 else 0, fun _ => a, ?_, ?_, ?_, ?_, ?_, ?_, ?_, ?_, ?_, ?_⟩
  · have z : cp_ct (fun _ => false) 64 = 0 := (cp_ct_0 64).mpr (fun _ _ => rfl)
    rw [cp_ct_upd (P := fun _ => false) 64 ha rfl (by simp) (fun c _ hc => by simp [hc]), z]
  · intro d hd
    rw [h1 d hd]
    dsimp only
    by_cases e : d = a
    · rw [if_pos e, if_pos e]; decide
    · rw [if_neg e, if_neg e]; decide
  · intro d; dsimp only; split <;> omega
  · intro j hj
    rw [show j = 0 by omega]
    exact ⟨h2, ha, by simp⟩
  · intro d hd h
    refine ⟨0, by omega, ?_⟩
    by_cases e : d = a
    · exact e.symm
    · simp [e] at h
  · intro d hd h
    by_cases e : d = a
    · subst e; simp only [if_true]; rw [show cp_sp m W (cp_1 d) (1 - 1) = cp_1 d from rfl, cp_one hd hd]; simp
    · simp [e] at h
  · simp
  · intro i j _ _; exact Nat.le_refl _
  · intro _ j _; exact Nat.le_succ _
  · intro i d _ _ h; omega
theorem cp_Vskip {m : Bool} {W : Int64} {a k D n : Nat} {st me : Nat → Int32} {T M : Nat → Nat} (h : cp_V m W a k D n st me T M) (hs : cp_b W D = true → cp_ad m (M k) D = true → T D ≠ 0 ∧ T D ≤ T (M k) + 1) : cp_V m W a k (D + 1) n st me T M := by
  obtain ⟨v1, v2, v3, v4, v5, v6, v7, v8, v9, v10⟩ := h
  refine ⟨v1, v2, v3, v4, v5, v6, v7, v8, v9, fun i d hd hi hk hw ha => ?_⟩
  by_cases e : i = k ∧ d = D
  · obtain ⟨rfl, rfl⟩ := e; exact hs hw ha
  · exact v10 i d hd hi (by omega) hw ha
theorem cp_Vadd {m : Bool} {W : Int64} {a k D n : Nat} {st me : Nat → Int32} {T M : Nat → Nat} (h : cp_V m W a k D n st me T M) (hk : k < n) (hD : D < 64) (hT : T D = 0) (hw : cp_b W D = true) (ha : cp_ad m (M k) D = true) : cp_V m W a k (D + 1) (n + 1) (upd st D (st (M k) + 1)) (upd me n (nI D)) (fun d => if d = D then T (M k) + 1 else T d) (fun j => if j = n then D else M j) := by
  obtain ⟨v1, v2, v3, v4, v5, v6, v7, v8, v9, v10⟩ := h
  have hM : ∀ j, j < n → (if j = n then D else M j) = M j := fun j hj => if_neg (by omega)
  have hMD : ∀ j, j < n → M j ≠ D := fun j hj e => (v4 j hj).2.2 (by rw [e]; exact hT)
  have hTM : ∀ j, j < n → (if M j = D then T (M k) + 1 else T (M j)) = T (M j) := fun j hj => if_neg (hMD j hj)
  have hkb := v3 (M k)
  have vk := v4 k hk
  refine ⟨?_, ?_, ?_, ?_, ?_, ?_, ?_, ?_, ?_, ?_⟩
  · rw [v1]
    refine (cp_ct_upd 64 hD (by simp [hT]) (by simp) (fun c _ hc => by simp [hc])).symm
  · intro d hd
    dsimp only
    by_cases e : d = D
    · subst e
      rw [pk_us, if_pos rfl, nI_pred, v2 _ vk.2.1, Int32.sub_add_cancel]
    · rw [pk_un e, if_neg e, v2 d hd]
  · intro d; dsimp only
    have := v3 d
    split <;> omega
  · intro j hj
    dsimp only
    by_cases e : j = n
    · subst e
      rw [pk_us, if_pos rfl, if_pos rfl]
      exact ⟨rfl, hD, by omega⟩
    · rw [pk_un e, hM j (by omega), hTM j (by omega)]
      exact v4 j (by omega)
  · intro d hd h
    dsimp only at h ⊢
    by_cases e : d = D
    · exact ⟨n, by omega, by rw [if_pos rfl, e]⟩
    · rw [if_neg e] at h
      obtain ⟨j, hj, q⟩ := v5 d hd h
      exact ⟨j, by omega, by rw [hM j hj]; exact q⟩
  · intro d hd h
    dsimp only at h ⊢
    by_cases e : d = D
    · subst e
      rw [if_pos rfl]
      have h6 := v6 (M k) vk.2.1 vk.2.2
      have : T (M k) + 1 - 1 = (T (M k) - 1) + 1 := by have := vk.2.2; omega
      rw [this]
      exact (cp_spS m W _ _).mpr (Or.inr ⟨hw, M k, h6, by rw [cp_ad_s]; exact ha⟩)
    · rw [if_neg e] at h ⊢
      exact v6 d hd h
  · dsimp only
    rw [if_neg (fun e => by rw [e, hT] at v7; exact absurd v7 (by decide))]
    exact v7
  · intro i j hij hj
    dsimp only
    by_cases e : j = n
    · subst e
      rw [if_pos (rfl : j = j), if_pos (rfl : D = D)]
      by_cases e2 : i = j
      · rw [if_pos e2, if_pos rfl]; exact Nat.le_refl _
      · rw [hM i (by omega), hTM i (by omega)]
        exact v9 hk i (by omega)
    · rw [hM i (by omega), hTM i (by omega), hM j (by omega), hTM j (by omega)]
      exact v8 i j hij (by omega)
  · intro _ j hj
    dsimp only
    rw [hM k hk, hTM k hk]
    by_cases e : j = n
    · subst e
      rw [if_pos (rfl : j = j), if_pos (rfl : D = D)]; exact Nat.le_refl _
    · rw [hM j (by omega), hTM j (by omega)]
      exact v9 hk j (by omega)
  · intro i d hd hi hik hwd had
    dsimp only at had ⊢
    have hin : i < n := by omega
    rw [hM i hin] at had ⊢
    rw [hTM i hin]
    by_cases e : d = D
    · subst e
      rw [if_pos rfl]
      refine ⟨by omega, ?_⟩
      rcases hik with q | ⟨q, _⟩
      · exact absurd (v10 i d hd hin (Or.inl q) hwd had).1 (by simp [hT])
      · subst q; exact Nat.le_refl _
    · rw [if_neg e]
      exact v10 i d hd hin (by omega) hwd had
theorem cp_Vnext {m : Bool} {W : Int64} {a k n : Nat} {st me : Nat → Int32} {T M : Nat → Nat} (h : cp_V m W a k 64 n st me T M) (hk : k < n) : cp_V m W a (k + 1) 0 n st me T M := by
  obtain ⟨v1, v2, v3, v4, v5, v6, v7, v8, v9, v10⟩ := h
  refine ⟨v1, v2, v3, v4, v5, v6, v7, v8, fun hk2 j hj => ?_, fun i d hd hi hik => v10 i d hd hi (by omega)⟩
  have := v9 hk j hj
  have := v8 k (k + 1) (by omega) hk2
  omega
def cp_F (m : Bool) (W : Int64) (a n : Nat) (st me : Nat → Int32) : Prop :=
  ∃ T M : Nat → Nat, n = cp_ct (cp_b (cp_C m W a)) 64 ∧ (∀ j, j < n → me j = nI (M j) ∧ cp_b (cp_C m W a) (M j) = true) ∧ (∀ d, cp_b (cp_C m W a) d = true → ∃ j, j < n ∧ M j = d) ∧ (∀ d, d < 64 → st d = nI (T d) - 1 ∧ T d ≤ 64 ∧ (T d ≠ 0 ↔ cp_b (cp_C m W a) d = true) ∧ (T d ≠ 0 → cp_b (cp_sp m W (cp_1 a) (T d - 1)) d = true) ∧ (∀ s, cp_b (cp_sp m W (cp_1 a) s) d = true → T d ≠ 0 ∧ T d ≤ s + 1))
theorem cp_Vend {m : Bool} {W : Int64} {a n D : Nat} {st me : Nat → Int32} {T M : Nat → Nat} (ha : a < 64) (h : cp_V m W a n D n st me T M) : cp_F m W a n st me := by
  obtain ⟨v1, v2, v3, v4, v5, v6, v7, v8, v9, v10⟩ := h
  have n64 : n ≤ 64 := by rw [v1]; exact cp_ct_le _ _
  have key : ∀ s d, cp_b (cp_sp m W (cp_1 a) s) d = true → T d ≠ 0 ∧ T d ≤ s + 1 := by
    intro s
    induction s with
    | zero =>
      intro d hd
      have e := cp_1e ha hd
      subst e; omega
    | succ s ih =>
      intro d hd
      rcases (cp_spS m W _ s).mp hd with g | ⟨hw, e, he, had⟩
      · have := ih d g; omega
      · obtain ⟨t1, t2⟩ := ih e he
        obtain ⟨j, hj, q⟩ := v5 e (cp_lt he) t1
        have := v10 j d (cp_lt hd) hj (Or.inl hj) hw (by rw [q, cp_ad_s]; exact had)
        rw [q] at this; omega
  have iff : ∀ d, d < 64 → (T d ≠ 0 ↔ cp_b (cp_C m W a) d = true) := fun d hd => ⟨fun g => cp_G_of m W _ (v6 d hd g), fun g => (key 64 d g).1⟩
  refine ⟨T, M, ?_, fun j hj => ⟨(v4 j hj).1, (iff _ (v4 j hj).2.1).mp (v4 j hj).2.2⟩, fun d hd => v5 d (cp_lt hd) ((iff d (cp_lt hd)).mpr hd), fun d hd => ⟨v2 d hd, Nat.le_trans (v3 d) n64, iff d hd, v6 d hd, fun s => key s d⟩⟩
  rw [v1]
  refine cp_ct_congr 64 fun c hc => cp_bi ?_
  rw [decide_eq_true_eq]; exact iff c hc
theorem cp_st0 {t : Nat} (ht : t ≤ 64) : (0 : Int32) ≤ nI t - 1 ↔ t ≠ 0 := by
  cases t with
  | zero => exact ⟨fun h => absurd h (by decide), fun h => absurd rfl h⟩
  | succ t => rw [nI_pred]; exact ⟨fun _ => by omega, fun _ => nI_pos' (by omega)⟩
/-- one cell's neighbours -/
theorem cy_walk1 {post : SY → Prop} {J : Int32 → Int32 → (Nat → Int32) → (Nat → Int32) → (Nat → Int32) → (Nat → Int32) → Prop} {m : Bool} {W : Int64} {a k n : Nat} {on st me nx : Nat → Int32} (ha : a < 64) (hW : ∀ d, d < 64 → (on d = on a ↔ cp_b W d = true)) (hk : k < n) (hV : ∃ T M, cp_V m W a k 0 n st me T M) (hJ : ∀ n' st' me', n ≤ n' → (∃ T M, cp_V m W a k 64 n' st' me' T M) → J (nI (k + 1)) (nI n') on st' me' nx) : ∃ nn, wY_walk_53 post J (nI a) (cp_md m) (nI k) nn 0 (nI n) on st me nx := by
  refine loop_0 (fun nn i (s : Nat × (Nat → Int32) × (Nat → Int32)) => wY_walk_53 post J (nI a) (cp_md m) (nI k) nn (nI i) (nI s.1) on s.2.1 s.2.2 nx) (fun i s => n ≤ s.1 ∧ ∃ T M, cp_V m W a k i s.1 s.2.1 s.2.2 T M) 64 (n, st, me) ⟨Nat.le_refl _, hV⟩ ?_ ?_
  · rintro nn ⟨n', st', me'⟩ ⟨hn, hV⟩
    exact br_t cp_64 (nm_r (nI_1 k) (hJ n' st' me' hn hV))
  · rintro nn i ⟨n', st', me'⟩ hi ⟨hn, T, M, hV⟩ K
    dsimp only at hn hV K ⊢
    have hV' := hV
    obtain ⟨v1, v2, v3, v4, v5, v6, v7, v8, v9, v10⟩ := hV'
    have n64 : n' ≤ 64 := by rw [v1]; exact cp_ct_le _ _
    have hk' : k < n' := by omega
    have vin := vp_in_nI (N := 64) hi (by decide)
    have cl : (nI i).toNatClampNeg = i := nI_clamp (by omega)
    have clk : (nI k).toNatClampNeg = k := nI_clamp (by omega)
    have cla : (nI a).toNatClampNeg = a := nI_clamp (by omega)
    have vink := vp_in_nI (N := 64) (show k < 64 by omega) (by decide)
    have vk := v4 k hk'
    refine br_f (nI_ge (b := 64) hi (by decide)) ⟨vin, ?_⟩
    rw [cl]
    by_cases t : T i = 0
    · refine br_f (by rw [v2 i hi, cp_st0 (Nat.le_trans (v3 i) n64)]; exact fun z => z t) ⟨vin, vp_in_nI ha (by decide), ?_⟩
      rw [cla]
      by_cases w : on i = on a
      · refine br_t w ⟨vink, ?_⟩
        rw [clk, vk.1]
        refine cy_near vk.2.1 hi (cp_Ib (fun e => ?_) (fun e => ?_))
        · refine nm_r (nI_1 i) (K (n', st', me') ⟨hn, T, M, cp_Vskip hV (fun _ z => ?_)⟩)
          rw [e] at z; exact absurd z (by decide)
        · have n63 : n' < 64 := by
            have s1 := cp_ct_strict (P := fun d => decide (T d ≠ 0)) (Q := fun _ => true) 64 (fun _ _ _ => rfl) hi (by simp [t]) rfl
            have s2 := cp_ct_le (fun _ => true) 64
            omega
          have A := cp_Vadd hV hk' hi t ((hW i hi).mp w) e
          have clM : (nI (M k)).toNatClampNeg = M k := nI_clamp (by omega)
          have cln : (nI n').toNatClampNeg = n' := nI_clamp (by omega)
          refine ⟨vink, vp_in_nI vk.2.1 (by decide), vin, ?_⟩
          rw [clM]
          refine nm_e ⟨vp_in_nI n63 (by decide), ?_⟩
          rw [cln]
          exact nm_e (nm_r (nI_1 n') (nm_r (nI_1 i) (K (n' + 1, _, _) ⟨by omega, _, _, A⟩)))
      · refine br_f w (nm_r (nI_1 i) (K (n', st', me') ⟨hn, T, M, cp_Vskip hV (fun z _ => absurd ((hW i hi).mpr z) w)⟩))
    · refine br_t (by rw [v2 i hi, cp_st0 (Nat.le_trans (v3 i) n64)]; exact t) (nm_r (nI_1 i) (K (n', st', me') ⟨hn, T, M, cp_Vskip hV (fun _ _ => ⟨t, ?_⟩)⟩))
      obtain ⟨j, hj, q⟩ := v5 i hi t
      rw [← q]; exact v9 hk' j hj
theorem cy_walk2 {post : SY → Prop} {m : Bool} {W : Int64} {a : Nat} {on st me nx : Nat → Int32} (ha : a < 64) (hW : ∀ d, d < 64 → (on d = on a ↔ cp_b W d = true)) (hV : ∃ T M, cp_V m W a 0 0 1 st me T M) (hp : ∀ n st' me', cp_F m W a n st' me' → post (nI n, on, st', me', nx)) : ∃ nn, wY_walk_42 post (nI a) (cp_md m) nn 0 1 on st me nx := by
  refine loop_m (fun nn (s : Nat × Nat × (Nat → Int32) × (Nat → Int32)) => wY_walk_42 post (nI a) (cp_md m) nn (nI s.1) (nI s.2.1) on s.2.2.1 s.2.2.2 nx) (fun s => s.1 ≤ s.2.1 ∧ ∃ T M, cp_V m W a s.1 0 s.2.1 s.2.2.1 s.2.2.2 T M) (fun s => 64 - s.1) ?_ (0, 1, st, me) ⟨by omega, hV⟩
  rintro nn ⟨k, n, st, me⟩ ⟨hk, T, M, hV⟩ K
  dsimp only at hk hV K ⊢
  have n64 : n ≤ 64 := by rw [hV.1]; exact cp_ct_le _ _
  refine pk_le n k (fun g => ?_) (fun g => ?_)
  · have e : k = n := by omega
    subst e
    exact hp k st me (cp_Vend ha hV)
  · refine cy_walk1 ha hW g ⟨T, M, hV⟩ (fun n' st' me' hn hV' => ?_)
    obtain ⟨T', M', hV'⟩ := hV'
    exact K (k + 1, n', st', me') ⟨show k + 1 ≤ n' by omega, T', M', cp_Vnext hV' (show k < n' by omega)⟩ (show 64 - (k + 1) < 64 - k by omega)
theorem cy_walk {post : SY → Prop} {m : Bool} {W : Int64} {a : Nat} {f : Int32} {on st me nx : Nat → Int32} (ha : a < 64) (hW : ∀ d, d < 64 → (on d = on a ↔ cp_b W d = true)) (hp : ∀ n st' me', cp_F m W a n st' me' → post (nI n, on, st', me', nx)) : wpY_walk post (f, on, st, me, nx) (nI a) (cp_md m) := by
  refine loop_0 (fun n i s => wY_walk_2 post (nI a) (cp_md m) f n (nI i) on s me nx) (fun i s => ∀ d, d < i → s d = -1) 64 st (fun d hd => absurd hd (by omega)) ?_ ?_
  · intro n s hs
    refine br_t cp_64 ⟨vp_in_nI ha (by decide), nm_e (nm_e (cy_walk2 ha hW (cp_V0 m W ha ?_ ?_) hp))⟩
    · intro d hd
      rw [nI_clamp (by omega)]
      by_cases e : d = a
      · subst e; rw [pk_us, if_pos rfl]
      · rw [pk_un e, if_neg e, hs d hd]
    · exact pk_us
  · intro n i s hi hs K
    refine br_f (nI_ge (b := 64) hi (by decide)) ⟨vp_in_nI hi (by decide), nm_e (nm_r (nI_1 i) (K _ ?_))⟩
    intro d hd
    rw [nI_clamp (by omega)]
    by_cases e : d = i
    · subst e; exact pk_us
    · rw [pk_un e]; exact hs d (by omega)
end
section
/-! the reference's other private methods -/
def cp_On (w : Int64) (on : Nat → Int32) : Prop := ∀ c, c < 64 → on c = cp_I (cp_b w c)
theorem cy_least {post : Int32 → Prop} {m : Bool} {W : Int64} {a n l : Nat} {on st me nx : Nat → Int32} (hF : cp_F m W a n st me) (hl : cp_b (cp_C m W a) l = true) (hm : ∀ d, d < l → cp_b (cp_C m W a) d = false) (h : post (nI l)) : wpY_leastMet post (nI n, on, st, me, nx) := by
  obtain ⟨T, M, f1, f2, f3, _⟩ := hF
  have n64 : n ≤ 64 := by rw [f1]; exact cp_ct_le _ _
  have l64 := cp_lt hl
  have hge : ∀ j, j < n → l ≤ M j := fun j hj => by
    rcases Nat.lt_or_ge (M j) l with g | g
    · have := (f2 j hj).2; rw [hm _ g] at this; exact absurd this (by decide)
    · exact g
  refine loop_0 (fun nn i s => wY_leastMet_5 post (nI n) on st me nx nn s (nI i)) (fun i s => ∃ x, s = nI x ∧ x ≤ 64 ∧ l ≤ x ∧ ∀ j, j < i → x ≤ M j) n 64 ⟨64, rfl, by omega, by omega, fun j hj => absurd hj (by omega)⟩ ?_ ?_
  · rintro nn s ⟨x, rfl, hx, hlx, hj⟩
    obtain ⟨j, hjn, e⟩ := f3 l hl
    have := hj j hjn
    rw [show x = l by omega]
    exact br_t (nI_le (by omega) (by omega)) h
  · rintro nn i s hi ⟨x, rfl, hx, hlx, hj⟩ k
    have hM := f2 i hi
    have hM64 := cp_lt hM.2
    have vi := vp_in_nI (N := 64) (show i < 64 by omega) (by decide)
    refine br_f (nI_ge hi (by omega)) ⟨vi, ?_⟩
    rw [nI_clamp (show i < 2 ^ 31 by omega), hM.1]
    refine pk_le x (M i) (fun g => ?_) (fun g => ?_)
    · exact nm_r (nI_1 i) (k _ ⟨x, rfl, hx, hlx, lt_s hj g⟩)
    · exact ⟨vi, nm_e (nm_r (nI_1 i) (k _ ⟨M i, rfl, by omega, hge i hi, fun j hj2 => by
        by_cases e : j = i
        · rw [e]; exact Nat.le_refl _
        · have := hj j (by omega); omega⟩))⟩
theorem cy_edgeC {post : Int32 → Prop} {f : Int32} {on st me nx : Nat → Int32} {c : Nat} (hc : c < 64) (h : post (cp_I (cp_rim c))) : wpY_isEdge post (f, on, st, me, nx) (nI c) := by
  have hr := cp_rem8 hc
  have hd := cp_div8 hc
  unfold cp_rim at h
  refine ⟨cp_n8, pk_eq (c % 8) 0 (fun e => ?_) (fun e1 => ⟨cp_n8, pk_eq (c % 8) 7 (fun e => ?_) (fun e2 => ⟨cp_n8, pk_eq (c / 8) 0 (fun e => ?_) (fun e3 => ⟨cp_n8, pk_eq (c / 8) 7 (fun e => ?_) (fun e4 => ?_) hd rfl⟩) hd rfl⟩) hr rfl⟩) hr rfl⟩
  · rw [decide_eq_true (Or.inl e)] at h; exact h
  · rw [decide_eq_true (Or.inr (Or.inl e))] at h; exact h
  · rw [decide_eq_true (Or.inr (Or.inr (Or.inl e)))] at h; exact h
  · rw [decide_eq_true (Or.inr (Or.inr (Or.inr e)))] at h; exact h
  · rw [decide_eq_false (by omega)] at h; exact h
theorem cy_inside {post : Int32 → Prop} {m : Bool} {W : Int64} {a n : Nat} {on st me nx : Nat → Int32} (hF : cp_F m W a n st me) (b : Bool) (hb : b = true ↔ ∀ d, cp_b (cp_C m W a) d = true → cp_rim d = false) (h : post (cp_I b)) : wpY_isInside post (nI n, on, st, me, nx) := by
  obtain ⟨T, M, f1, f2, f3, _⟩ := hF
  have n64 : n ≤ 64 := by rw [f1]; exact cp_ct_le _ _
  refine loop_0 (fun nn i (_ : Unit) => wY_isInside_2 post (nI n) on st me nx nn (nI i)) (fun i _ => ∀ j, j < i → cp_rim (M j) = false) n () (fun j hj => absurd hj (by omega)) ?_ ?_
  · intro nn _ hj
    have : b = true := hb.mpr (fun d hd => by
      obtain ⟨j, hjn, e⟩ := f3 d hd
      rw [← e]; exact hj j hjn)
    subst this
    exact br_t (nI_le (by omega) (by omega)) h
  · intro nn i _ hi hj k
    have hM := f2 i hi
    refine br_f (nI_ge hi (by omega)) ⟨vp_in_nI (by omega) (by decide), ?_⟩
    rw [nI_clamp (show i < 2 ^ 31 by omega), hM.1]
    refine cy_edgeC (cp_lt hM.2) (cp_Ib (fun e => nm_r (nI_1 i) (k () (lt_s hj e))) (fun e => ?_))
    cases hbb : b
    · rw [hbb] at h; exact h
    · have := hb.mp hbb _ hM.2
      rw [e] at this; exact absurd this (by decide)
/-! the grid of ten by ten: a, b from 0 to 9, the picture from 1 to 8 -/
def cp_ir (a b : Nat) : Bool := decide (1 ≤ a ∧ a ≤ 8 ∧ 1 ≤ b ∧ b ≤ 8)
def cp_g (w : Int64) (a b : Nat) : Bool := cp_ir a b && cp_b w (8 * (b - 1) + (a - 1))
theorem cp_lt0 : ∀ a, a < 10 → (nI a - 1 < 0 ↔ a = 0) := by decide +kernel
theorem cp_gt7 : ∀ a, a < 10 → (7 < nI a - 1 ↔ a = 9) := by decide +kernel
theorem cp_ixg {a b : Nat} (ha : 1 ≤ a) (hb : 1 ≤ b) : (8 * (nI b - 1)) + (nI a - 1) = nI (8 * (b - 1) + (a - 1)) := by
  obtain ⟨a, rfl⟩ : ∃ k, a = k + 1 := ⟨a - 1, by omega⟩
  obtain ⟨b, rfl⟩ : ∃ k, b = k + 1 := ⟨b - 1, by omega⟩
  rw [nI_pred, nI_pred, Nat.add_sub_cancel, Nat.add_sub_cancel, ← nI_add, ← pk_mul]
  rfl
theorem cy_on {post : Int32 → Prop} {w : Int64} {f x y : Int32} {on st me nx : Nat → Int32} (hR : cp_On w on) {a b : Nat} (ha : a < 10) (hb : b < 10) (hx : x = nI a - 1) (hy : y = nI b - 1) (h : post (cp_I (cp_g w a b))) : wpY_isOn post (f, on, st, me, nx) x y := by
  subst hx hy
  unfold cp_g at h
  by_cases a0 : a = 0
  · rw [show cp_ir a b = false from decide_eq_false (by omega), Bool.false_and] at h
    exact br_t ((cp_lt0 a ha).mpr a0) h
  · refine br_f (fun z => a0 ((cp_lt0 a ha).mp z)) ?_
    by_cases a9 : a = 9
    · rw [show cp_ir a b = false from decide_eq_false (by omega), Bool.false_and] at h
      exact br_t ((cp_gt7 a ha).mpr a9) h
    · refine br_f (fun z => a9 ((cp_gt7 a ha).mp z)) ?_
      by_cases b0 : b = 0
      · rw [show cp_ir a b = false from decide_eq_false (by omega), Bool.false_and] at h
        exact br_t ((cp_lt0 b hb).mpr b0) h
      · refine br_f (fun z => b0 ((cp_lt0 b hb).mp z)) ?_
        by_cases b9 : b = 9
        · rw [show cp_ir a b = false from decide_eq_false (by omega), Bool.false_and] at h
          exact br_t ((cp_gt7 b hb).mpr b9) h
        · refine br_f (fun z => b9 ((cp_gt7 b hb).mp z)) ?_
          rw [show cp_ir a b = true from decide_eq_true (by omega), Bool.true_and] at h
          rw [cp_ixg (by omega) (by omega), nI_clamp (by omega), hR _ (by omega)]
          exact ⟨vp_in_nI (by omega) (by decide), cp_Ib (fun e => by rw [e] at h; exact h) (fun e => by rw [e] at h; exact h)⟩
/-! hasNear -/
def cp_fr (i : Nat) : Nat := cp_df (i % 3) 1 * cp_df (i % 3) 1 + cp_df (i / 3) 1 * cp_df (i / 3) 1
def cp_nq (m : Bool) (i : Nat) : Bool := decide (cp_fr i = 1) || (m && decide (cp_fr i = 2))
theorem cp_frI : ∀ i, i < 9 → (nI (i % 3) - 1) * (nI (i % 3) - 1) + (nI (i / 3) - 1) * (nI (i / 3) - 1) = nI (cp_fr i) ∧ cp_fr i < 3 := by decide +kernel
theorem cp_gx {a i : Nat} : nI a + (nI i - 1) = nI (a + i) - 1 := by rw [← nI_add]; grind
theorem cy_hasNear {post : Int32 → Prop} {w : Int64} {f : Int32} {on st me nx : Nat → Int32} (hR : cp_On w on) {m wd b : Bool} {c : Nat} (hc : c < 64) (hb : b = true ↔ ∃ i, i < 9 ∧ cp_nq m i = true ∧ cp_g w (c % 8 + i % 3) (c / 8 + i / 3) = wd) (h : post (cp_I b)) : wpY_hasNear post (f, on, st, me, nx) (nI c) (cp_md m) (cp_I wd) := by
  refine loop_0 (fun nn i (_ : Unit) => wY_hasNear_3 post (nI c) (cp_md m) (cp_I wd) f on st me nx nn (nI i)) (fun i _ => ∀ j, j < i → ¬ (cp_nq m j = true ∧ cp_g w (c % 8 + j % 3) (c / 8 + j / 3) = wd)) 9 () (fun j hj => absurd hj (by omega)) ?_ ?_
  · intro nn _ hj
    have : b = false := cp_nb.mp (fun z => by
      obtain ⟨i, hi, h1⟩ := hb.mp z
      exact hj i hi h1)
    subst this
    exact br_t (by decide) h
  · intro nn i _ hi hj k
    have e3 : nI i - nI i / 3 * 3 - 1 = nI (i % 3) - 1 := by rw [show nI i - nI i / 3 * 3 = nI (i % 3) from pk_rem (d := 3) (by omega) (by decide) (by decide)]
    have e4 : nI i / 3 - 1 = nI (i / 3) - 1 := by rw [show nI i / 3 = nI (i / 3) from pk_div (d := 3) (by omega) (by decide) (by decide)]
    have n3 : ¬ (3 : Int32) = 0 := by decide
    have hT : cp_nq m i = true → wY_hasNear_62 post (wY_hasNear_3 post (nI c) (cp_md m) (cp_I wd) f on st me nx nn) (nI c) (cp_md m) (cp_I wd) (nI i) (nI (i % 3) - 1) (nI (i / 3) - 1) f on st me nx := by
      intro q
      refine br_f (by decide) ⟨cp_n8, cp_n8, cy_on hR (a := c % 8 + i % 3) (b := c / 8 + i / 3) (by omega) (by omega) (by rw [cp_rem8 hc, cp_gx]) (by rw [cp_div8 hc, cp_gx]) ?_⟩
      refine br_c (fun e => ?_) (fun e => nm_r (nI_1 i) (k () (lt_s hj (fun z => e (cp_Ieq.mpr z.2)))))
      have : b = true := hb.mpr ⟨i, hi, q, cp_Ieq.mp e⟩
      subst this
      exact h
    have hF : cp_nq m i = false → wY_hasNear_66 post (wY_hasNear_3 post (nI c) (cp_md m) (cp_I wd) f on st me nx nn) (nI c) (cp_md m) (cp_I wd) (nI i) (nI (i % 3) - 1) (nI (i / 3) - 1) f on st me nx := by
      intro q
      exact br_t rfl (nm_r (nI_1 i) (k () (lt_s hj (fun z => by rw [q] at z; exact absurd z.1 (by decide)))))
    obtain ⟨fe, fb⟩ := cp_frI i hi
    refine br_f (nI_ge (b := 9) hi (by decide)) ⟨n3, nm_r e3 ⟨n3, nm_r e4 ?_⟩⟩
    rw [fe]
    refine pk_eq (cp_fr i) 1 (fun q => hT (by simp [cp_nq, q])) (fun q => cp_md8 (fun em => pk_eq (cp_fr i) 2 (fun q2 => hT (by simp [cp_nq, q2, em])) (fun q2 => hF (by simp [cp_nq, q, q2]))) (fun em => hF (by simp [cp_nq, q, em])))
def cp_k1 (m : Bool) (c i : Nat) : Bool := !(cp_nq m i && cp_ir (c % 8 + i % 3) (c / 8 + i / 3)) || (decide (8 * (c / 8 + i / 3 - 1) + (c % 8 + i % 3 - 1) < 64) && cp_ad m c (8 * (c / 8 + i / 3 - 1) + (c % 8 + i % 3 - 1)))
theorem cp_k1r : ∀ m : Bool, ∀ c, c < 64 → ∀ i, i < 9 → cp_k1 m c i = true := by decide +kernel
def cp_k2i (c d : Nat) : Nat := (d % 8 + 1 - c % 8) + 3 * (d / 8 + 1 - c / 8)
def cp_k2 (m : Bool) (c d : Nat) : Bool := !cp_ad m c d || (decide (cp_k2i c d < 9) && cp_nq m (cp_k2i c d) && cp_ir (c % 8 + cp_k2i c d % 3) (c / 8 + cp_k2i c d / 3) && decide (8 * (c / 8 + cp_k2i c d / 3 - 1) + (c % 8 + cp_k2i c d % 3 - 1) = d))
theorem cp_k2r : ∀ m : Bool, ∀ c, c < 64 → ∀ d, d < 64 → cp_k2 m c d = true := by decide +kernel
def cp_k3 (c i : Nat) : Bool := cp_ir (c % 8 + i % 3) (c / 8 + i / 3) || cp_rim c
theorem cp_k3r : ∀ c, c < 64 → ∀ i, i < 9 → cp_k3 c i = true := by decide +kernel
def cp_k4 (c : Nat) : Bool := !cp_rim c || [1, 3, 5, 7].any (fun i => !cp_ir (c % 8 + i % 3) (c / 8 + i / 3))
theorem cp_k4r : ∀ c, c < 64 → cp_k4 c = true := by decide +kernel
theorem cp_k5 : ∀ m : Bool, ∀ i, i ∈ [1, 3, 5, 7] → i < 9 ∧ cp_nq m i = true := by decide +kernel
theorem cp_hn (m : Bool) (w : Int64) {c : Nat} (hc : c < 64) : (∃ i, i < 9 ∧ cp_nq m i = true ∧ cp_g w (c % 8 + i % 3) (c / 8 + i / 3) = true) ↔ cp_b (cp_nr m w) c = true := by
  rw [cp_nrb m w hc]
  constructor
  · rintro ⟨i, hi, q, g⟩
    unfold cp_g at g
    rw [Bool.and_eq_true] at g
    have t := cp_k1r m c hc i hi
    unfold cp_k1 at t
    rw [q, g.1, Bool.and_self, Bool.not_true, Bool.false_or, Bool.and_eq_true] at t
    exact ⟨_, g.2, t.2⟩
  · rintro ⟨d, hd, ha⟩
    have t := cp_k2r m c hc d (cp_lt hd)
    unfold cp_k2 at t
    rw [ha, Bool.not_true, Bool.false_or, Bool.and_eq_true, Bool.and_eq_true, Bool.and_eq_true, decide_eq_true_eq, decide_eq_true_eq] at t
    refine ⟨cp_k2i c d, t.1.1.1, t.1.1.2, ?_⟩
    unfold cp_g
    rw [t.1.2, t.2, hd]; rfl
theorem cp_hnF (m : Bool) (w : Int64) {c : Nat} (hc : c < 64) : (∃ i, i < 9 ∧ cp_nq m i = true ∧ cp_g w (c % 8 + i % 3) (c / 8 + i / 3) = false) ↔ (cp_b (cp_nr m (w ^^^ (-1))) c = true ∨ cp_rim c = true) := by
  rw [← cp_hn m _ hc]
  constructor
  · rintro ⟨i, hi, q, g⟩
    cases r : cp_ir (c % 8 + i % 3) (c / 8 + i / 3)
    · right
      have t := cp_k3r c hc i hi
      unfold cp_k3 at t
      rw [r, Bool.false_or] at t; exact t
    · left
      refine ⟨i, hi, q, ?_⟩
      unfold cp_g at g ⊢
      have t := cp_k1r m c hc i hi
      unfold cp_k1 at t
      rw [q, r, Bool.and_self, Bool.not_true, Bool.false_or, Bool.and_eq_true, decide_eq_true_eq] at t
      rw [r, Bool.true_and] at g ⊢
      rw [cp_not _ t.1, g]; rfl
  · rintro (⟨i, hi, q, g⟩ | r)
    · refine ⟨i, hi, q, ?_⟩
      unfold cp_g at g ⊢
      rw [Bool.and_eq_true] at g
      rw [g.1, Bool.true_and]
      have g2 := g.2
      rw [cp_not _ (cp_lt g2)] at g2
      cases z : cp_b w (8 * (c / 8 + i / 3 - 1) + (c % 8 + i % 3 - 1))
      · rfl
      · rw [z] at g2; exact absurd g2 (by decide)
    · have t := cp_k4r c hc
      unfold cp_k4 at t
      rw [r, Bool.not_true, Bool.false_or, List.any_eq_true] at t
      obtain ⟨i, hi, z⟩ := t
      obtain ⟨h1, h2⟩ := cp_k5 m i hi
      refine ⟨i, h1, h2, ?_⟩
      unfold cp_g
      cases z2 : cp_ir (c % 8 + i % 3) (c / 8 + i / 3)
      · rfl
      · rw [z2] at z; exact absurd z (by decide)
/-! writing a new picture cell by cell -/
def cp_T (w w' : Int64) (p : Nat) (r : Int32) (on : Nat → Int32) : Prop := r = nI (cp_ct (cp_b (w ^^^ w')) p) ∧ ∀ c, c < 64 → on c = cp_I (if c < p then cp_b w' c else cp_b w c)
theorem cp_T0 {w : Int64} (w' : Int64) {on : Nat → Int32} (h : cp_On w on) : cp_T w w' 0 0 on := ⟨rfl, fun c hc => by rw [if_neg (by omega)]; exact h c hc⟩
theorem cp_Tp {w w' : Int64} {p : Nat} {r : Int32} {on : Nat → Int32} (h : cp_T w w' p r on) (hp : p < 64) : on p = cp_I (cp_b w p) := by rw [h.2 p hp, if_neg (by omega)]
theorem cp_Ton {w w' : Int64} {p : Nat} {r r' : Int32} {on : Nat → Int32} (h : cp_T w w' p r on) (hp : p < 64) (hr : r' = nI (cp_ct (cp_b (w ^^^ w')) (p + 1))) : cp_T w w' (p + 1) r' (upd on p (cp_I (cp_b w' p))) := by
  refine ⟨hr, fun c hc => ?_⟩
  by_cases e : c = p
  · subst e; rw [pk_us, if_pos (by omega)]
  · rw [pk_un e, h.2 c hc]
    have e2 : c < p ↔ c < p + 1 := by omega
    simp only [e2]
theorem cp_Teq {w w' : Int64} {p : Nat} {r : Int32} {on : Nat → Int32} (h : cp_T w w' p r on) (e : cp_b w p = cp_b w' p) : r = nI (cp_ct (cp_b (w ^^^ w')) (p + 1)) := by
  rw [h.1, cp_ctF (by rw [cp_xor, e, Bool.xor_self])]
theorem cp_Tne {w w' : Int64} {p : Nat} {r : Int32} {on : Nat → Int32} (h : cp_T w w' p r on) (e : ¬ cp_b w p = cp_b w' p) : r + 1 = nI (cp_ct (cp_b (w ^^^ w')) (p + 1)) := by
  rw [h.1, cp_ctT (by rw [cp_xor]; revert e; cases cp_b w p <;> cases cp_b w' p <;> simp), nI_1]
theorem cp_Tskip {w w' : Int64} {p q : Nat} {r : Int32} {on : Nat → Int32} (h : cp_T w w' p r on) (hpq : p ≤ q) (hs : ∀ c, p ≤ c → c < q → cp_b w c = cp_b w' c) : cp_T w w' q r on := by
  refine ⟨by rw [h.1, cp_ct_skip hpq (fun c h1 h2 => by rw [cp_xor, hs c h1 h2, Bool.xor_self])], fun c hc => ?_⟩
  rw [h.2 c hc]
  by_cases e : c < p
  · rw [if_pos e, if_pos (by omega)]
  · rw [if_neg e]
    by_cases e2 : c < q
    · rw [if_pos e2, hs c (by omega) e2]
    · rw [if_neg e2]
theorem cp_Tend {w w' : Int64} {r : Int32} {on : Nat → Int32} (h : cp_T w w' 64 r on) : r = nI (cp_ct (cp_b (w ^^^ w')) 64) ∧ cp_On w' on := ⟨h.1, fun c hc => by rw [h.2 c hc, if_pos hc]⟩
theorem cy_take {post : Int32 → SY → Prop} {w w' : Int64} {f : Int32} {on st me nx : Nat → Int32} (hR : cp_On w on) (hN : cp_On w' nx) (h : ∀ on', cp_On w' on' → post (nI (cp_ct (cp_b (w ^^^ w')) 64)) (f, on', st, me, nx)) : wpY_takeNext post (f, on, st, me, nx) := by
  refine loop_0 (fun nn i (s : Int32 × (Nat → Int32)) => wY_takeNext_4 post f nn s.1 (nI i) s.2 st me nx) (fun i s => cp_T w w' i s.1 s.2) 64 (0, on) (cp_T0 w' hR) ?_ ?_
  · rintro nn ⟨r, on'⟩ hT
    obtain ⟨h1, h2⟩ := cp_Tend hT
    dsimp only at h1 h2 ⊢
    subst h1
    exact br_t cp_64 (h on' h2)
  · rintro nn i ⟨r, on'⟩ hi hT k
    dsimp only at hT ⊢
    have vi := vp_in_nI (N := 64) hi (by decide)
    refine br_f (nI_ge (b := 64) hi (by decide)) ⟨vi, vi, ?_⟩
    have cl : (nI i).toNatClampNeg = i := nI_clamp (by omega)
    have e1 := cp_Tp hT hi
    have e2 := hN i hi
    rw [cl, e1, e2]
    refine br_c (fun e => ⟨vi, vi, ?_⟩) (fun e => ⟨vi, vi, ?_⟩)
    · rw [cl, e2, cp_Inar]
      exact nm_e (nm_r (nI_1 i) (k (r, _) (cp_Ton hT hi (cp_Teq hT (cp_Ieq.mp e)))))
    · rw [cl, e2, cp_Inar]
      exact nm_e (nm_r (nI_1 i) (k (r + 1, _) (cp_Ton hT hi (cp_Tne hT (fun z => e (cp_Ieq.mpr z))))))
theorem cy_cells {post : Int32 → Prop} {w : Int64} {f : Int32} {on st me nx : Nat → Int32} (hR : cp_On w on) (h : post (nI (cp_ct (cp_b w) 64))) : wpY_cells post (f, on, st, me, nx) := by
  refine loop_0 (fun n i s => wY_cells_4 post f on st me nx n s (nI i)) (fun i s => s = nI (cp_ct (cp_b w) i)) 64 0 rfl ?_ ?_
  · intro n s hs; subst hs; exact br_t cp_64 h
  · intro n i s hi hs k
    subst hs
    refine br_f (nI_ge (b := 64) hi (by decide)) ⟨vp_in_nI hi (by decide), ?_⟩
    rw [nI_clamp (show i < 2 ^ 31 by omega), hR i hi]
    exact cp_Ib (fun e => nm_r (nI_1 i) (k _ (by rw [cp_ctF e]))) (fun e => nm_r (nI_1 _) (nm_r (nI_1 i) (k _ (by rw [cp_ctT e]))))
end
section
/-! edge -/
theorem cp_Lg (w : Int64) {c : Nat} (hc : c < 64) : cp_b (cp_L w) c = cp_g w (c % 8 + 2) (c / 8 + 1) := by
  rw [cp_Lb w hc]; unfold cp_g
  by_cases e : c % 8 = 7
  · rw [show cp_ir (c % 8 + 2) (c / 8 + 1) = false from decide_eq_false (by omega)]; simp [e]
  · rw [show cp_ir (c % 8 + 2) (c / 8 + 1) = true from decide_eq_true (by omega), show 8 * (c / 8 + 1 - 1) + (c % 8 + 2 - 1) = c + 1 by omega]; simp [e]
theorem cp_Rg (w : Int64) {c : Nat} (hc : c < 64) : cp_b (cp_R w) c = cp_g w (c % 8) (c / 8 + 1) := by
  rw [cp_Rb w hc]; unfold cp_g
  by_cases e : c % 8 = 0
  · rw [show cp_ir (c % 8) (c / 8 + 1) = false from decide_eq_false (by omega)]; simp [e]
  · rw [show cp_ir (c % 8) (c / 8 + 1) = true from decide_eq_true (by omega), show 8 * (c / 8 + 1 - 1) + (c % 8 - 1) = c - 1 by omega]; simp [e]
theorem cp_Ug (w : Int64) {c : Nat} (hc : c < 64) : cp_b (cp_U w) c = cp_g w (c % 8 + 1) (c / 8) := by
  rw [cp_Ub w hc]; unfold cp_g
  by_cases e : 8 ≤ c
  · rw [show cp_ir (c % 8 + 1) (c / 8) = true from decide_eq_true (by omega), show 8 * (c / 8 - 1) + (c % 8 + 1 - 1) = c - 8 by omega]; simp [e]
  · rw [show cp_ir (c % 8 + 1) (c / 8) = false from decide_eq_false (by omega)]; simp [e]
theorem cp_Dg (w : Int64) {c : Nat} (hc : c < 64) : cp_b (cp_D w) c = cp_g w (c % 8 + 1) (c / 8 + 2) := by
  rw [cp_Db]; unfold cp_g
  by_cases e : c + 8 < 64
  · rw [show cp_ir (c % 8 + 1) (c / 8 + 2) = true from decide_eq_true (by omega), show 8 * (c / 8 + 2 - 1) + (c % 8 + 1 - 1) = c + 8 by omega]; simp
  · rw [show cp_ir (c % 8 + 1) (c / 8 + 2) = false from decide_eq_false (by omega), cp_big (by omega)]; simp
def cp_e4 (w : Int64) (c : Nat) : Nat := (!cp_g w (c % 8) (c / 8 + 1)).toNat + (!cp_g w (c % 8 + 2) (c / 8 + 1)).toNat + (!cp_g w (c % 8 + 1) (c / 8)).toNat + (!cp_g w (c % 8 + 1) (c / 8 + 2)).toNat
def cp_eg (w : Int64) : Nat → Nat
  | 0 => 0
  | c + 1 => cp_eg w c + (if cp_b w c then cp_e4 w c else 0)
theorem cp_egs (w : Int64) (n : Nat) (hn : n ≤ 64) : cp_ct (cp_b (w &&& (cp_L w ^^^ (-1)))) n + cp_ct (cp_b (w &&& (cp_R w ^^^ (-1)))) n + cp_ct (cp_b (w &&& (cp_D w ^^^ (-1)))) n + cp_ct (cp_b (w &&& (cp_U w ^^^ (-1)))) n = cp_eg w n := by
  induction n with
  | zero => rfl
  | succ n ih =>
    have h := ih (by omega)
    have hc : n < 64 := by omega
    rw [cp_ct, cp_ct, cp_ct, cp_ct, cp_eg, cp_and, cp_and, cp_and, cp_and, cp_not _ hc, cp_not _ hc, cp_not _ hc, cp_not _ hc, cp_Lg w hc, cp_Rg w hc, cp_Ug w hc, cp_Dg w hc]
    cases cp_b w n
    · simp only [Bool.false_and, Bool.toNat_false, Bool.false_eq_true, if_false]; omega
    · simp only [Bool.true_and, if_true, cp_e4]; omega
theorem cx_edge {post : Int32 → Prop} {w : Int64} (h : post (nI (cp_eg w 64))) : wpX_edge post w := by
  refine nm_e (nm_e (cx_count (cx_count (cx_count (cx_count ?_)))))
  have e := cp_egs w 64 (by omega)
  have e2 : nI (cp_ct (cp_b (w &&& (cp_L w ^^^ (-1)))) 64) + nI (cp_ct (cp_b (w &&& (cp_R w ^^^ (-1)))) 64) + nI (cp_ct (cp_b (w &&& (cp_D w ^^^ (-1)))) 64) + nI (cp_ct (cp_b (w &&& (cp_U w ^^^ (-1)))) 64) = nI (cp_eg w 64) := by
    rw [nI_add, nI_add, nI_add, e]
  rw [← e2] at h
  exact h
theorem cp_In {g : Bool} {P : Int32 → Prop} (h : P (nI (!g).toNat)) : (cp_I g = 0 → P 1) ∧ (¬ cp_I g = 0 → P 0) := by
  cases g
  · exact br_t rfl h
  · exact br_f (by decide) h
theorem cy_edge {post : Int32 → Prop} {w : Int64} {f : Int32} {on st me nx : Nat → Int32} (hR : cp_On w on) (h : post (nI (cp_eg w 64))) : wpY_edge post (f, on, st, me, nx) := by
  refine loop_0 (fun n i s => wY_edge_4 post f on st me nx n s (nI i)) (fun i s => s = nI (cp_eg w i)) 64 0 rfl ?_ ?_
  · intro n s hs; subst hs; exact br_t cp_64 h
  · intro n i s hi hs k
    subst hs
    refine br_f (nI_ge (b := 64) hi (by decide)) ⟨vp_in_nI hi (by decide), ?_⟩
    rw [nI_clamp (show i < 2 ^ 31 by omega), hR i hi]
    refine cp_Ib (fun e => nm_r (nI_1 i) (k _ (by rw [cp_eg, e]; rfl))) (fun e => ⟨cp_n8, nm_r (cp_rem8 hi) ⟨cp_n8, nm_r (cp_div8 hi) ?_⟩⟩)
    refine cy_on hR (a := i % 8) (b := i / 8 + 1) (by omega) (by omega) rfl (nI_pred _).symm ?_
    refine cp_In (P := fun z => wY_edge_48 post (wY_edge_4 post f on st me nx n) (nI i) (nI (i % 8)) (nI (i / 8)) z (nI (cp_eg w i)) f on st me nx) ?_
    refine cy_on hR (a := i % 8 + 2) (b := i / 8 + 1) (by omega) (by omega) (by rw [nI_1, nI_pred]) (nI_pred _).symm ?_
    refine cp_In (P := fun z => wY_edge_66 post (wY_edge_4 post f on st me nx n) (nI i) (nI (i % 8)) (nI (i / 8)) z _ f on st me nx) ?_
    refine cy_on hR (a := i % 8 + 1) (b := i / 8) (by omega) (by omega) (nI_pred _).symm rfl ?_
    refine cp_In (P := fun z => wY_edge_84 post (wY_edge_4 post f on st me nx n) (nI i) (nI (i % 8)) (nI (i / 8)) z _ f on st me nx) ?_
    refine cy_on hR (a := i % 8 + 1) (b := i / 8 + 2) (by omega) (by omega) (nI_pred _).symm (by rw [nI_1, nI_pred]) ?_
    refine cp_In (P := fun z => ∀ x : Int32, x = ((_ + _) + z) → ∀ y : Int32, y = nI i + 1 → wY_edge_4 post f on st me nx n x y) ?_
    refine nm_r ?_ (nm_r (nI_1 i) (k _ rfl))
    rw [nI_add, nI_add, nI_add, nI_add, cp_eg, if_pos e, cp_e4]
    exact congrArg nI (by omega)
/-! depth -/
def cp_ds (c i : Nat) : Nat := cp_df (i % 10) (c % 8 + 1) + cp_df (i / 10) (c / 8 + 1)
def cp_og (w : Int64) (i : Nat) : Bool := cp_g w (i % 10) (i / 10)
def cp_dl (w : Int64) (c : Nat) : Nat → Nat
  | 0 => 100
  | i + 1 => if cp_og w i = false ∧ cp_ds c i < cp_dl w c i then cp_ds c i else cp_dl w c i
theorem cp_dl_le (w : Int64) (c n : Nat) : cp_dl w c n ≤ 100 := by
  induction n with
  | zero => exact Nat.le_refl _
  | succ n ih => rw [cp_dl]; split <;> omega
theorem cp_dl_lb (w : Int64) (c n i : Nat) (hi : i < n) (h : cp_og w i = false) : cp_dl w c n ≤ cp_ds c i := by
  induction n with
  | zero => omega
  | succ n ih =>
    rw [cp_dl]
    by_cases e : i = n
    · subst e; split
      · exact Nat.le_refl _
      · rename_i g
        have : ¬ cp_ds c i < cp_dl w c i := fun z => g ⟨h, z⟩
        omega
    · have := ih (by omega)
      split <;> omega
theorem cp_dl_at (w : Int64) (c n : Nat) : cp_dl w c n = 100 ∨ ∃ i, i < n ∧ cp_og w i = false ∧ cp_dl w c n = cp_ds c i := by
  induction n with
  | zero => exact Or.inl rfl
  | succ n ih =>
    rw [cp_dl]
    split
    · rename_i g; exact Or.inr ⟨n, by omega, g.1, rfl⟩
    · rcases ih with g | ⟨i, hi, g⟩
      · exact Or.inl g
      · exact Or.inr ⟨i, by omega, g⟩
def cp_d1 (c i : Nat) : Bool := cp_rim c || decide (cp_ds c i = 0) || [c - 1, c + 1, c - 8, c + 8].any (fun d => cp_ad false c d && decide (d < 64) && decide (cp_ds d i + 1 = cp_ds c i))
theorem cp_d1r : ∀ c, c < 64 → ∀ i, i < 100 → cp_d1 c i = true := by decide +kernel
def cp_d2 (c : Nat) : Bool := !cp_rim c || [10 * (c / 8 + 1) + (c % 8 + 1) - 1, 10 * (c / 8 + 1) + (c % 8 + 1) + 1, 10 * (c / 8 + 1) + (c % 8 + 1) - 10, 10 * (c / 8 + 1) + (c % 8 + 1) + 10].any (fun i => decide (i < 100) && !cp_ir (i % 10) (i / 10) && decide (cp_ds c i = 1))
theorem cp_d2r : ∀ c, c < 64 → cp_d2 c = true := by decide +kernel
theorem cp_d3 {c d : Nat} (hc : c < 64) (hd : d < 64) (ha : cp_ad false c d = true) (i : Nat) : cp_ds c i ≤ cp_ds d i + 1 := by
  unfold cp_ds cp_df
  rcases cp_t3 c hc d hd ha with ⟨e, h⟩ | ⟨e, h⟩ | ⟨e, h⟩ | e <;> subst e <;> omega
theorem cp_d4 {c : Nat} (hc : c < 64) : cp_ds c (10 * (c / 8 + 1) + (c % 8 + 1)) = 0 := by unfold cp_ds cp_df; omega
theorem cp_d5 (w : Int64) {c : Nat} (hc : c < 64) : cp_og w (10 * (c / 8 + 1) + (c % 8 + 1)) = cp_b w c := by
  unfold cp_og cp_g
  rw [show (10 * (c / 8 + 1) + (c % 8 + 1)) % 10 = c % 8 + 1 by omega, show (10 * (c / 8 + 1) + (c % 8 + 1)) / 10 = c / 8 + 1 by omega, show cp_ir (c % 8 + 1) (c / 8 + 1) = true from decide_eq_true (by omega), show 8 * (c / 8 + 1 - 1) + (c % 8 + 1 - 1) = c by omega]
  rfl
theorem cp_d6 {c i : Nat} (hc : c < 64) (hi : i < 100) (h : cp_ds c i = 0) : i = 10 * (c / 8 + 1) + (c % 8 + 1) := by unfold cp_ds cp_df at h; omega
theorem cp_shb (m : Bool) (w : Int64) {c : Nat} (hc : c < 64) : cp_b (cp_sh m w) c = true ↔ cp_b w c = true ∧ ¬ (cp_b (cp_nr m (w ^^^ (-1))) c = true ∨ cp_rim c = true) := by
  unfold cp_sh
  rw [cp_and, cp_not _ hc, cp_or, cp_Rim c hc]
  cases cp_b w c <;> cases cp_b (cp_nr m (w ^^^ -1)) c <;> cases cp_rim c <;> simp
theorem cp_dep (w : Int64) (k : Nat) : ∀ c, c < 64 → (cp_b (cp_shk w k) c = true ↔ ∀ i, i < 100 → cp_og w i = false → k < cp_ds c i) := by
  induction k with
  | zero =>
    intro c hc
    constructor
    · intro h i hi ho
      rcases Nat.eq_zero_or_pos (cp_ds c i) with z | z
      · rw [cp_d6 hc hi z, cp_d5 w hc] at ho
        rw [show cp_b (cp_shk w 0) c = cp_b w c from rfl, ho] at h; exact absurd h (by decide)
      · exact z
    · intro h
      rw [show cp_shk w 0 = w from rfl]
      cases e : cp_b w c
      · have := h _ (by omega) ((cp_d5 w hc).trans e)
        rw [cp_d4 hc] at this; omega
      · rfl
  | succ k ih =>
    intro c hc
    rw [cp_shk, cp_shb _ _ hc, cp_nrb false _ hc]
    constructor
    · rintro ⟨h1, h2⟩ i hi ho
      have b1 := (ih c hc).mp h1 i hi ho
      have t := cp_d1r c hc i hi
      unfold cp_d1 at t
      rw [cp_nb.mp (fun z => h2 (Or.inr z)), decide_eq_false (show ¬ cp_ds c i = 0 by omega), Bool.false_or, Bool.false_or, List.any_eq_true] at t
      obtain ⟨d, _, q⟩ := t
      rw [Bool.and_eq_true, Bool.and_eq_true, decide_eq_true_eq, decide_eq_true_eq] at q
      have hd : cp_b (cp_shk w k) d = true := by
        cases e : cp_b (cp_shk w k) d
        · exfalso
          exact h2 (Or.inl ⟨d, by rw [cp_not _ q.1.2, e]; rfl, q.1.1⟩)
        · rfl
      have b2 := (ih d q.1.2).mp hd i hi ho
      omega
    · intro h
      refine ⟨(ih c hc).mpr (fun i hi ho => by have := h i hi ho; omega), ?_⟩
      rintro (⟨d, hd, ha⟩ | r)
      · have d64 := cp_lt hd
        rw [cp_not _ d64] at hd
        have nd : ¬ cp_b (cp_shk w k) d = true := fun z => by rw [z] at hd; exact absurd hd (by decide)
        apply nd
        refine (ih d d64).mpr (fun i hi ho => ?_)
        have b1 := h i hi ho
        have b2 := cp_d3 hc d64 ha i
        omega
      · have t := cp_d2r c hc
        unfold cp_d2 at t
        rw [r, Bool.not_true, Bool.false_or, List.any_eq_true] at t
        obtain ⟨i, _, q⟩ := t
        rw [Bool.and_eq_true, Bool.and_eq_true, decide_eq_true_eq, decide_eq_true_eq] at q
        have ho : cp_og w i = false := by
          unfold cp_og cp_g
          cases z : cp_ir (i % 10) (i / 10)
          · rfl
          · rw [z] at q; exact absurd q.1.2 (by decide)
        have := h i q.1.1 ho
        omega
theorem cp_dl64 (w : Int64) {c : Nat} (hc : c < 64) : cp_dl w c 100 ≤ 64 := by
  have h : cp_og w (10 * (c / 8 + 1)) = false := by
    unfold cp_og cp_g
    rw [show cp_ir (10 * (c / 8 + 1) % 10) (10 * (c / 8 + 1) / 10) = false from decide_eq_false (by omega)]
    rfl
  have := cp_dl_lb w c 100 (10 * (c / 8 + 1)) (by omega) h
  have e : cp_ds c (10 * (c / 8 + 1)) ≤ 8 := by unfold cp_ds cp_df; omega
  omega
theorem cx_depth2 {post : Int32 → Prop} {w : Int64} {c : Nat} (hc : c < 64) (h : post (nI (cp_dl w c 100))) : ∃ n, wX_depth_17 post (nI c) w n w 0 := by
  have l := cp_dl64 w hc
  refine cx_depth hc l ?_ (fun s hs => ?_) h
  · refine cp_nb.mp (fun z => ?_)
    rcases cp_dl_at w c 100 with g | ⟨i, hi, ho, e⟩
    · omega
    · have := (cp_dep w _ c hc).mp z i hi ho
      omega
  · refine (cp_dep w _ c hc).mpr (fun i hi ho => ?_)
    have := cp_dl_lb w c 100 i hi ho
    omega
theorem cp_dx1 : ∀ a, a < 10 → ∀ x, x < 8 → (nI a - 1 ≤ nI x ↔ a ≤ x + 1) := by decide +kernel
theorem cp_dx {a x : Nat} {X : Int32} {P : Int32 → Prop} (ha : a < 10) (hx : x < 8) (hX : X = nI x) (h : P (nI (cp_df a (x + 1)))) : (nI a - 1 ≤ X → ((¬ (8 : Int32) = 0) ∧ P (X - (nI a - 1)))) ∧ (¬ nI a - 1 ≤ X → ((¬ (8 : Int32) = 0) ∧ P ((nI a - 1) - X))) := by
  subst hX
  refine br_c (fun g => ⟨cp_n8, ?_⟩) (fun g => ⟨cp_n8, ?_⟩)
  · rw [cp_dx1 a ha x hx] at g
    have e : nI x - (nI a - 1) = nI (cp_df a (x + 1)) := by
      rw [show cp_df a (x + 1) = x + 1 - a by unfold cp_df; omega, ← pk_sub (by omega), ← nI_1]; grind
    rw [e]; exact h
  · rw [cp_dx1 a ha x hx] at g
    have e : nI a - 1 - nI x = nI (cp_df a (x + 1)) := by
      rw [show cp_df a (x + 1) = a - (x + 1) by unfold cp_df; omega, ← pk_sub (by omega), ← nI_1]; grind
    rw [e]; exact h
theorem cy_depth {post : Int32 → Prop} {w : Int64} {f : Int32} {on st me nx : Nat → Int32} {c : Nat} (hR : cp_On w on) (hc : c < 64) (h : post (nI (cp_dl w c 100))) : ∃ n, wY_depth_15 post (nI c) f on st me nx n 100 0 := by
  refine loop_0 (fun n i s => wY_depth_15 post (nI c) f on st me nx n s (nI i)) (fun i s => s = nI (cp_dl w c i)) 100 100 rfl ?_ ?_
  · intro n s hs; subst hs; exact br_t (by decide) h
  · intro n i s hi hs k
    subst hs
    have n10 : ¬ (10 : Int32) = 0 := by decide
    have e3 : nI i - nI i / 10 * 10 - 1 = nI (i % 10) - 1 := by rw [show nI i - nI i / 10 * 10 = nI (i % 10) from pk_rem (d := 10) (by omega) (by decide) (by decide)]
    have e4 : nI i / 10 - 1 = nI (i / 10) - 1 := by rw [show nI i / 10 = nI (i / 10) from pk_div (d := 10) (by omega) (by decide) (by decide)]
    have l := cp_dl_le w c i
    refine br_f (nI_ge (b := 100) hi (by decide)) ⟨n10, nm_r e3 ⟨n10, nm_r e4 ⟨cp_n8, ?_⟩⟩⟩
    refine cp_dx (P := fun z => wY_depth_63 post (wY_depth_15 post (nI c) f on st me nx n) (nI c) (nI (cp_dl w c i)) (nI i) (nI (i % 10) - 1) (nI (i / 10) - 1) z f on st me nx) (by omega) (by omega) (cp_rem8 hc) ⟨cp_n8, ?_⟩
    refine cp_dx (P := fun z => wY_depth_91 post (wY_depth_15 post (nI c) f on st me nx n) (nI c) (nI (cp_dl w c i)) (nI i) (nI (i % 10) - 1) (nI (i / 10) - 1) (nI (cp_df (i % 10) (c % 8 + 1))) z f on st me nx) (by omega) (by omega) (cp_div8 hc) ?_
    have dsb : cp_ds c i < 100 := by unfold cp_ds cp_df; omega
    have dsI : nI (cp_df (i % 10) (c % 8 + 1)) + nI (cp_df (i / 10) (c / 8 + 1)) = nI (cp_ds c i) := nI_add _ _
    refine cy_on hR (a := i % 10) (b := i / 10) (by omega) (by omega) rfl rfl (cp_Ib (fun e => ?_) (fun e => ?_))
    · rw [dsI]
      refine pk_le (cp_dl w c i) (cp_ds c i) (fun g => ?_) (fun g => ?_)
      · exact nm_r (nI_1 i) (k _ (by rw [cp_dl, if_neg (by omega)]))
      · exact nm_e (nm_r (nI_1 i) (k _ (by rw [cp_dl, if_pos ⟨e, g⟩])))
    · exact nm_r (nI_1 i) (k _ (by rw [cp_dl, if_neg (fun z => by rw [show cp_og w i = true from e] at z; exact absurd z.1 (by decide))]))
end
section
/-! turn, line, box -/
theorem cp_ix {i j : Nat} : 8 * nI i + nI j = nI (8 * i + j) := by
  rw [← nI_add, ← pk_mul]; rfl
theorem cp_turn {w : Int64} {on : Nat → Int32} {c : Nat} (hR : cp_On w on) (hc : c < 64) : cp_On (w ^^^ cp_1 c) (upd on c (cp_I (!cp_b w c))) := by
  intro d hd
  rw [cp_xor, cp_one hc hd]
  by_cases e : d = c
  · subst e; rw [pk_us]; cases cp_b w d <;> simp
  · rw [pk_un e, hR d hd]; simp [e]
theorem cp_turnb (w : Int64) {c : Nat} (hc : c < 64) : cp_b (w ^^^ cp_1 c) c = !cp_b w c := by
  rw [cp_xor, cp_one hc hc]; cases cp_b w c <;> simp
/-! box -/
theorem cy_box {post : Int32 → SY → Prop} {w w' : Int64} {F : Int32} {on st me nx : Nat → Int32} {f t : Nat} {v : Bool} (hR : cp_On w on) (hf : f < 64) (ht : t < 64) (h1 : f % 8 ≤ t % 8) (h2 : f / 8 ≤ t / 8) (hw : ∀ d, d < 64 → cp_b w' d = if cp_Q f t d then v else cp_b w d) (h : ∀ on', cp_On w' on' → post (nI (cp_ct (cp_b (w ^^^ w')) 64)) (F, on', st, me, nx)) : ∃ n, wY_box_58 post (nI f) (nI t) (cp_I v) F n 0 (nI (f / 8)) on st me nx := by
  have out : ∀ c, c < 64 → (c % 8 < f % 8 ∨ t % 8 < c % 8 ∨ c / 8 < f / 8 ∨ t / 8 < c / 8) → cp_b w c = cp_b w' c := by
    intro c hc hq
    rw [hw c hc, show cp_Q f t c = false from decide_eq_false (by omega)]; rfl
  refine pk_loop (fun n i (s : Int32 × (Nat → Int32)) => wY_box_58 post (nI f) (nI t) (cp_I v) F n s.1 (nI i) s.2 st me nx) (fun i s => f / 8 ≤ i ∧ cp_T w w' (8 * i) s.1 s.2) (t / 8 + 1) (f / 8) (0, on) (by omega) ⟨Nat.le_refl _, cp_Tskip (cp_T0 w' hR) (by omega) (fun c _ hc => out c (by omega) (by omega))⟩ ?_ ?_
  · rintro n ⟨r, on'⟩ ⟨_, hT⟩
    obtain ⟨e1, e2⟩ := cp_Tend (cp_Tskip hT (show 8 * (t / 8 + 1) ≤ 64 by omega) (fun c h1 h2 => out c (by omega) (by omega)))
    dsimp only at e1 e2 ⊢
    subst e1
    refine ⟨cp_n8, br_t ?_ (h on' e2)⟩
    rw [cp_div8 ht]; exact nI_lt (by omega) (by omega)
  · rintro n i ⟨r, on'⟩ hi ⟨hfi, hT⟩ k
    dsimp only at hT ⊢
    refine ⟨cp_n8, br_f (by rw [cp_div8 ht]; exact nI_nlt (by omega) (by omega)) ⟨cp_n8, nm_r (cp_rem8 hf) ?_⟩⟩
    refine pk_loop (fun nn j (s : Int32 × (Nat → Int32)) => wY_box_73 post (wY_box_58 post (nI f) (nI t) (cp_I v) F n) (nI f) (nI t) (cp_I v) (nI i) F nn s.1 (nI j) s.2 st me nx) (fun j s => f % 8 ≤ j ∧ cp_T w w' (8 * i + j) s.1 s.2) (t % 8 + 1) (f % 8) (r, on') (by omega) ⟨Nat.le_refl _, cp_Tskip hT (by omega) (fun c h1 h2 => out c (by omega) (by omega))⟩ ?_ ?_
    · rintro nn ⟨r, on'⟩ ⟨_, hT⟩
      refine ⟨cp_n8, br_t (by rw [cp_rem8 ht]; exact nI_lt (by omega) (by omega)) (nm_r (nI_1 i) (k (r, on') ⟨by omega, cp_Tskip hT (by omega) (fun c h1 h2 => out c (by omega) (by omega))⟩))⟩
    · rintro nn j ⟨r, on'⟩ hj ⟨hfj, hT⟩ K
      dsimp only at hT ⊢
      have p64 : 8 * i + j < 64 := by omega
      have vi : vp_in (8 * nI i + nI j) 64 := by rw [cp_ix]; exact vp_in_nI p64 (by decide)
      have cl : (8 * nI i + nI j).toNatClampNeg = 8 * i + j := by rw [cp_ix]; exact nI_clamp (by omega)
      have hp := cp_Tp hT p64
      have hq : cp_b w' (8 * i + j) = v := by rw [hw _ p64, show cp_Q f t (8 * i + j) = true from decide_eq_true (by omega)]; rfl
      have fin : ∀ r', r' = nI (cp_ct (cp_b (w ^^^ w')) (8 * i + j + 1)) → wY_box_117 post (wY_box_58 post (nI f) (nI t) (cp_I v) F n) (wY_box_73 post (wY_box_58 post (nI f) (nI t) (cp_I v) F n) (nI f) (nI t) (cp_I v) (nI i) F nn) (nI f) (nI t) (cp_I v) (nI i) (nI j) r' F on' st me nx := by
        intro r' hr
        have hT' := cp_Ton hT p64 hr
        rw [hq] at hT'
        cases v
        · refine br_f (by decide) ⟨vi, ?_⟩
          rw [cl, cp_nar0]
          exact nm_e (nm_r (nI_1 j) (K (r', _) ⟨by omega, hT'⟩))
        · refine br_t rfl ⟨vi, ?_⟩
          rw [cl, cp_nar1]
          exact nm_e (nm_r (nI_1 j) (K (r', _) ⟨by omega, hT'⟩))
      have mid : wY_box_105 post (wY_box_58 post (nI f) (nI t) (cp_I v) F n) (wY_box_73 post (wY_box_58 post (nI f) (nI t) (cp_I v) F n) (nI f) (nI t) (cp_I v) (nI i) F nn) (nI f) (nI t) (cp_I v) r (nI i) (nI j) (cp_I v) (cp_I (cp_b w (8 * i + j))) F on' st me nx := by
        refine br_c (fun e => fin _ (cp_Teq hT ((cp_Ieq.mp e).trans hq.symm))) (fun e => fin _ (cp_Tne hT (fun z => e (cp_Ieq.mpr (z.trans hq)))))
      refine ⟨cp_n8, br_f (by rw [cp_rem8 ht]; exact nI_nlt (by omega) (by omega)) ⟨vi, ?_⟩⟩
      rw [cl, hp]
      cases v
      · exact br_f (by decide) mid
      · exact br_t rfl mid
/-! line -/
theorem cp_255 : ∀ j, j < 64 → cp_b 255 j = decide (j < 8) := by decide +kernel
theorem cp_nIb {s j : Nat} (hs : s < 256) (hj : j < 64) : cp_b (nI s).toInt64 j = s.testBit j := by
  rw [nI_l (by omega)]
  unfold cp_b
  rw [wb_tb, BitVec.getLsbD_ofNat, decide_eq_true hj, Bool.true_and]
def cp_ln (w : Int64) (y s : Nat) : Int64 := (w &&& (((255 : Int64) <<< ((nI (8 * y)).toInt64 &&& 63)) ^^^ (-1))) ||| ((nI s).toInt64 <<< ((nI (8 * y)).toInt64 &&& 63))
theorem cp_lnb (w : Int64) {y s c : Nat} (hy : y < 8) (hs : s < 256) (hc : c < 64) : cp_b (cp_ln w y s) c = if c / 8 = y then s.testBit (c % 8) else cp_b w c := by
  unfold cp_ln
  rw [cp_or, cp_and, cp_not _ hc, cp_shl _ (by omega) hc, cp_shl _ (by omega) hc, cp_255 _ (by omega), cp_nIb hs (by omega)]
  by_cases e : c / 8 = y
  · rw [if_pos e, show c - 8 * y = c % 8 by omega]
    have h1 : 8 * y ≤ c := by omega
    have h2 : c % 8 < 8 := by omega
    simp [h1, h2]
  · rw [if_neg e]
    by_cases h1 : 8 * y ≤ c
    · have h2 : ¬ c - 8 * y < 8 := by omega
      have h3 : s.testBit (c - 8 * y) = false := Nat.testBit_lt_two_pow (Nat.lt_of_lt_of_le hs (by
        have := Nat.pow_le_pow_right (show 0 < 2 by decide) (show 8 ≤ c - 8 * y by omega)
        omega))
      simp [h1, h2, h3]
    · simp [h1]
theorem cp_bit1 {s j : Nat} (hs : s < 256) (hj : j < 32) : ((nI s >>> (nI j &&& 31)) &&& 1) = 1 ↔ s.testBit j = true := by
  have h2 : s / 2 ^ j ≤ s := Nat.div_le_self _ _
  rw [pk_shrN (by omega) _ j (s_l j hj), pk_andN (by omega) 1 (by decide), Nat.testBit_eq_decide_div_mod_eq, decide_eq_true_eq]
  exact nI_eq (b := 1) (by omega) (by decide)
theorem cp_toI (z : Int64) {i : Nat} (hi : i < 32) : bt z.toInt32 i = cp_b z i := by
  unfold bt cp_b
  rw [Int64.toBitVec_toInt32, BitVec.getLsbD_signExtend, decide_eq_true hi, if_pos (by omega), Bool.true_and]
theorem cp_lnA (w : Int64) {y i : Nat} (hy : y < 8) (hi : i < 32) : bt ((((w.toUInt64 >>> ((nI (8 * y)).toInt64.toUInt64 &&& Int64.toUInt64 63)).toInt64) &&& 255).toInt32) i = (decide (i < 8) && cp_b w (8 * y + i)) := by
  rw [cp_toI _ hi, cp_and, cp_shr _ _ (by omega), cp_255 i (by omega), Bool.and_comm]
theorem cp_b1 {j i : Nat} (hj : j < 32) (hi : i < 32) : bt ((1 : Int32) <<< (nI j &&& 31)) i = decide (i = j) := by
  rw [b_shl j hj 1 hi, (by decide +kernel : ∀ i, i < 32 → bt 1 i = decide (i = 0)) _ (by omega)]
  by_cases h : i = j
  · subst h; simp
  · by_cases h2 : j ≤ i
    · simp [h, h2]; omega
    · simp [h, h2]
theorem cy_line {post : Int32 → SY → Prop} {w : Int64} {F : Int32} {on st me nx : Nat → Int32} {y s : Nat} (hR : cp_On w on) (hy : y < 8) (hs : s < 256) (h : ∀ r on', (∀ i, i < 32 → bt r i = (decide (i < 8) && cp_b w (8 * y + i))) → cp_On (cp_ln w y s) on' → post r (F, on', st, me, nx)) : ∃ n, wY_line_28 post (nI y) (nI s) F n 0 0 on st me nx := by
  have out : ∀ c, c < 64 → ¬ c / 8 = y → cp_b w c = cp_b (cp_ln w y s) c := fun c hc e => by rw [cp_lnb w hy hs hc, if_neg e]
  refine loop_0 (fun n j (z : Int32 × (Nat → Int32)) => wY_line_28 post (nI y) (nI s) F n z.1 (nI j) z.2 st me nx) (fun j z => (∀ i, i < 32 → bt z.1 i = (decide (i < j) && cp_b w (8 * y + i))) ∧ ∃ r, cp_T w (cp_ln w y s) (8 * y + j) r z.2) 8 (0, on) ⟨fun i _ => by rw [b_0]; simp, 0, cp_Tskip (cp_T0 _ hR) (by omega) (fun c _ hc => out c (by omega) (by omega))⟩ ?_ ?_
  · rintro n ⟨z, on'⟩ ⟨hz, r, hT⟩
    exact br_t (by decide) (h z on' hz (cp_Tend (cp_Tskip hT (show 8 * y + 8 ≤ 64 by omega) (fun c h1 h2 => out c (by omega) (by omega)))).2)
  · rintro n j ⟨z, on'⟩ hj ⟨hz, r, hT⟩ K
    dsimp only at hz hT ⊢
    have p64 : 8 * y + j < 64 := by omega
    have vi : vp_in (8 * nI y + nI j) 64 := by rw [cp_ix]; exact vp_in_nI p64 (by decide)
    have cl : (8 * nI y + nI j).toNatClampNeg = 8 * y + j := by rw [cp_ix]; exact nI_clamp (by omega)
    have hp := cp_Tp hT p64
    have hq : cp_b (cp_ln w y s) (8 * y + j) = s.testBit j := by
      rw [cp_lnb w hy hs p64, if_pos (by omega), show (8 * y + j) % 8 = j by omega]
    have fin : ∀ z', (∀ i, i < 32 → bt z' i = (decide (i < j + 1) && cp_b w (8 * y + i))) → wY_line_60 post (wY_line_28 post (nI y) (nI s) F n) (nI y) (nI s) (nI j) z' F on' st me nx := by
      intro z' hz'
      have hT' := cp_Ton hT p64 rfl
      rw [hq] at hT'
      refine br_c (fun e => ⟨vi, ?_⟩) (fun e => ⟨vi, ?_⟩)
      · rw [cp_bit1 hs (by omega)] at e
        rw [e] at hT'
        rw [cl, cp_nar1]
        exact nm_e (nm_r (nI_1 j) (K (z', _) ⟨hz', _, hT'⟩))
      · rw [cp_bit1 hs (by omega), cp_nb] at e
        rw [e] at hT'
        rw [cl, cp_nar0]
        exact nm_e (nm_r (nI_1 j) (K (z', _) ⟨hz', _, hT'⟩))
    refine br_f (nI_ge (b := 8) hj (by decide)) ⟨vi, ?_⟩
    rw [cl, hp]
    refine cp_Ib (fun e => fin _ (fun i hi => ?_)) (fun e => fin _ (fun i hi => ?_))
    · rw [hz i hi]
      by_cases q : i = j
      · subst q; rw [e]; simp
      · have e2 : i < j ↔ i < j + 1 := by omega
        simp only [e2]
    · rw [b_or, hz i hi, cp_b1 (by omega) hi]
      by_cases q : i = j
      · subst q; rw [e]; simp
      · have e2 : i < j ↔ i < j + 1 := by omega
        simp [e2, q]
end
section
/-! the reference's methods over groups -/
theorem cp_lst {G : Int64} {c : Nat} (h : cp_b G c = true) : ∃ l, cp_b G l = true ∧ ∀ d, d < l → cp_b G d = false := by
  obtain ⟨l, h1, h2⟩ := pk_least (fun k => cp_b G k = true) ⟨c, h⟩
  exact ⟨l, h1, fun d hd => cp_nb.mp (h2 d hd)⟩
theorem cp_lst_eq {G : Int64} {l c : Nat} (hc : cp_b G c = true) (hl : cp_b G l = true) (hm : ∀ d, d < l → cp_b G d = false) : l = c ↔ cp_ct (cp_b G) c = 0 := by
  rw [cp_ct_0]
  constructor
  · rintro rfl; exact hm
  · intro h
    rcases Nat.lt_trichotomy l c with g | g | g
    · rw [h l g] at hl; exact absurd hl (by decide)
    · exact g
    · rw [hm c g] at hc; exact absurd hc (by decide)
theorem cp_WT {w : Int64} {on : Nat → Int32} {a : Nat} (hR : cp_On w on) (ha : a < 64) (h : cp_b w a = true) : ∀ d, d < 64 → (on d = on a ↔ cp_b w d = true) := by
  intro d hd
  rw [hR d hd, hR a ha, cp_Ieq, h]
theorem cp_WF {w : Int64} {on : Nat → Int32} {a : Nat} (hR : cp_On w on) (ha : a < 64) (h : cp_b w a = false) : ∀ d, d < 64 → (on d = on a ↔ cp_b (cp_O w) d = true) := by
  intro d hd
  rw [hR d hd, hR a ha, cp_Ieq, h, cp_O, cp_not w hd]
  cases cp_b w d <;> simp
theorem cp_Ob (w : Int64) {c : Nat} (hc : c < 64) : cp_b (cp_O w) c = !cp_b w c := cp_not w hc
/-! pieces -/
theorem cy_pieces {post : Int32 → SY → Prop} {w : Int64} {f : Int32} {on st me nx : Nat → Int32} {m : Bool} (hR : cp_On w on) (h : ∀ f' st' me', post (nI (cp_ct (cp_ld m w) 64)) (f', on, st', me', nx)) : wpY_pieces post (f, on, st, me, nx) (cp_md m) := by
  unfold wpY_pieces; dsimp only
  refine cy_modeT m ?_
  refine br_f (c := (1 : Int32) = 0) (by decide) ?_
  refine loop_0 (fun n i (s : Int32 × Int32 × (Nat → Int32) × (Nat → Int32)) => wY_pieces_14 post (cp_md m) n s.1 (nI i) s.2.1 on s.2.2.1 s.2.2.2 nx) (fun i s => s.1 = nI (cp_ct (cp_ld m w) i)) 64 (0, f, st, me) rfl ?_ ?_
  · rintro n ⟨r, f, st, me⟩ hr
    dsimp only at hr ⊢
    subst hr
    exact br_t cp_64 (h f st me)
  · rintro n i ⟨r, f, st, me⟩ hi hr k
    dsimp only at hr ⊢
    subst hr
    refine br_f (nI_ge (b := 64) hi (by decide)) ⟨vp_in_nI hi (by decide), ?_⟩
    rw [nI_clamp (show i < 2 ^ 31 by omega), hR i hi]
    refine cp_Ib (fun e => ?_) (fun e => ?_)
    · exact nm_r (nI_1 i) (k (_, f, st, me) (congrArg nI (cp_ctF (by unfold cp_ld; rw [e]; rfl)).symm))
    · refine cy_walk hi (cp_WT hR hi e) (fun n' st' me' hF => ?_)
      obtain ⟨l, hl, hm⟩ := cp_lst (cp_C_r m w hi)
      have l64 := cp_lt hl
      have he := cp_lst_eq (cp_C_r m w hi) hl hm
      refine cy_least hF hl hm (pk_eq l i (fun g => ?_) (fun g => ?_))
      · exact nm_r (nI_1 _) (nm_r (nI_1 i) (k (_, _, st', me') (congrArg nI (cp_ctT (by unfold cp_ld; rw [e, he.mp g]; rfl)).symm)))
      · exact nm_r (nI_1 i) (k (_, _, st', me') (congrArg nI (cp_ctF (by unfold cp_ld; rw [e, decide_eq_false (fun z => g (he.mpr z))]; rfl)).symm))
/-! holes -/
theorem cp_Hb (m : Bool) (w : Int64) {c : Nat} (hc : c < 64) : cp_b (cp_H m w) c = true ↔ cp_b (cp_O w) c = true ∧ ∀ d, cp_b (cp_C (!m) (cp_O w) c) d = true → cp_rim d = false := by
  unfold cp_H
  rw [cp_and, Bool.and_eq_true, cp_not _ hc]
  refine and_congr_right fun ho => ?_
  constructor
  · intro hg d hd
    refine cp_nb.mp (fun hr => ?_)
    have hod := cp_C_w ho hd
    have hgd : cp_b (cp_G (!m) (cp_O w) (cp_O w &&& cp_RIM)) d = true := cp_G_0 _ _ _ (by rw [cp_and, hod, cp_Rim d (cp_lt hd), hr]; rfl)
    have hcd := cp_C_s ho hd
    have := cp_C_min (cp_lt hd) (fun e => cp_b (cp_G (!m) (cp_O w) (cp_O w &&& cp_RIM)) e = true) hgd (fun _ _ h1 h2 h3 => cp_G_cl _ _ _ h1 h2 h3) hcd
    rw [this] at hg; exact absurd hg (by decide)
  · intro h
    cases hg : cp_b (cp_G (!m) (cp_O w) (cp_O w &&& cp_RIM)) c
    · rfl
    · exfalso
      have := cp_G_min (fun e => cp_b (cp_O w) e = true ∧ ∃ d, cp_b (cp_C (!m) (cp_O w) e) d = true ∧ cp_rim d = true) (fun e he => ?_) (fun e d hd ha he => ?_) 64 c hg
      · obtain ⟨_, d, h1, h2⟩ := this
        rw [h d h1] at h2; exact absurd h2 (by decide)
      · have e64 := cp_lt he
        rw [cp_and, Bool.and_eq_true, cp_Rim e e64] at he
        exact ⟨he.1, e, cp_C_r _ _ e64, he.2⟩
      · obtain ⟨hod, x, h1, h2⟩ := hd
        refine ⟨he, x, cp_C_t (b := d) (cp_G_cl _ _ _ (cp_C_r _ _ (cp_lt he)) ?_ hod) h1, h2⟩
        rw [cp_ad_s]; exact ha
theorem cp_HC (m : Bool) (w : Int64) {c : Nat} (hh : cp_b (cp_H m w) c = true) : cp_C (!m) (cp_H m w) c = cp_C (!m) (cp_O w) c := by
  have hc := cp_lt hh
  obtain ⟨ho, hr⟩ := (cp_Hb m w hc).mp hh
  refine cp_ext fun d _ => cp_bi ⟨fun h => ?_, fun h => ?_⟩
  · exact cp_C_min hc (fun e => cp_b (cp_C (!m) (cp_O w) c) e = true) (cp_C_r _ _ hc) (fun e d hd ha he => cp_G_cl _ _ _ hd ha ((cp_Hb m w (cp_lt he)).mp he).1) h
  · refine (cp_C_min hc (fun e => cp_b (cp_C (!m) (cp_O w) c) e = true ∧ cp_b (cp_C (!m) (cp_H m w) c) e = true) ⟨cp_C_r _ _ hc, cp_C_r _ _ hc⟩ (fun e d hd ha he => ?_) h).2
    have h1 : cp_b (cp_C (!m) (cp_O w) c) e = true := cp_G_cl _ _ _ hd.1 ha he
    refine ⟨h1, cp_G_cl _ _ _ hd.2 ha ((cp_Hb m w (cp_lt he)).mpr ⟨he, ?_⟩)⟩
    rw [cp_C_eq ho h1]; exact hr
def cp_ins (G : Int64) : Bool := decide (cp_ct (fun d => cp_b G d && cp_rim d) 64 = 0)
theorem cp_insI (G : Int64) : cp_ins G = true ↔ ∀ d, cp_b G d = true → cp_rim d = false := by
  unfold cp_ins
  rw [decide_eq_true_eq, cp_ct_0]
  constructor
  · intro h d hd
    have := h d (cp_lt hd)
    rw [hd, Bool.true_and] at this; exact this
  · intro h d _
    cases e : cp_b G d
    · rfl
    · rw [h d e]; rfl
theorem cp_Hbb (m : Bool) (w : Int64) {c : Nat} (hc : c < 64) : cp_b (cp_H m w) c = (cp_b (cp_O w) c && cp_ins (cp_C (!m) (cp_O w) c)) := by
  refine cp_bi ?_
  rw [Bool.and_eq_true, cp_insI]; exact cp_Hb m w hc
theorem cp_ldH (m : Bool) (w : Int64) {c : Nat} (hc : c < 64) : cp_ld (!m) (cp_H m w) c = (cp_b (cp_O w) c && decide (cp_ct (cp_b (cp_C (!m) (cp_O w) c)) c = 0) && cp_ins (cp_C (!m) (cp_O w) c)) := by
  have hb := cp_Hbb m w hc
  unfold cp_ld
  cases e : cp_b (cp_H m w) c
  · rw [e] at hb
    rw [Bool.false_and]
    cases h1 : cp_b (cp_O w) c
    · rfl
    · rw [h1, Bool.true_and] at hb
      rw [← hb, Bool.and_false]
  · rw [cp_HC m w e]
    rw [e] at hb
    have := hb.symm
    rw [Bool.and_eq_true] at this
    rw [this.1, this.2, Bool.and_true]
theorem cy_holes {post : Int32 → SY → Prop} {w : Int64} {f : Int32} {on st me nx : Nat → Int32} {m : Bool} (hR : cp_On w on) (h : ∀ f' st' me', post (nI (cp_ct (cp_ld (!m) (cp_H m w)) 64)) (f', on, st', me', nx)) : wpY_holes post (f, on, st, me, nx) (cp_md m) := by
  unfold wpY_holes; dsimp only
  refine cy_modeT m ?_
  refine br_f (c := (1 : Int32) = 0) (by decide) ?_
  refine loop_0 (fun n i (s : Int32 × Int32 × (Nat → Int32) × (Nat → Int32)) => wY_holes_14 post (cp_md m) n s.1 (nI i) s.2.1 on s.2.2.1 s.2.2.2 nx) (fun i s => s.1 = nI (cp_ct (cp_ld (!m) (cp_H m w)) i)) 64 (0, f, st, me) rfl ?_ ?_
  · rintro n ⟨r, f, st, me⟩ hr
    dsimp only at hr ⊢
    subst hr
    exact br_t cp_64 (h f st me)
  · rintro n i ⟨r, f, st, me⟩ hi hr k
    dsimp only at hr ⊢
    subst hr
    have hld := cp_ldH m w hi
    refine br_f (nI_ge (b := 64) hi (by decide)) ⟨vp_in_nI hi (by decide), ?_⟩
    rw [nI_clamp (show i < 2 ^ 31 by omega), hR i hi, cp_md12]
    refine cp_Ib (fun e => ?_) (fun e => ?_)
    · have ho : cp_b (cp_O w) i = true := by rw [cp_Ob w hi, e]; rfl
      refine cy_walk hi (cp_WF hR hi e) (fun n' st' me' hF => ?_)
      obtain ⟨l, hl, hm⟩ := cp_lst (cp_C_r (!m) (cp_O w) hi)
      have l64 := cp_lt hl
      have he := cp_lst_eq (cp_C_r (!m) (cp_O w) hi) hl hm
      refine cy_least hF hl hm (pk_eq l i (fun g => ?_) (fun g => ?_))
      · refine cy_inside hF _ (cp_insI _) (cp_Ib (fun z => ?_) (fun z => ?_))
        · exact nm_r (nI_1 i) (k (_, _, st', me') (congrArg nI (cp_ctF (by rw [hld, z, Bool.and_false])).symm))
        · exact nm_r (nI_1 _) (nm_r (nI_1 i) (k (_, _, st', me') (congrArg nI (cp_ctT (by rw [hld, z, ho, he.mp g]; rfl)).symm)))
      · exact nm_r (nI_1 i) (k (_, _, st', me') (congrArg nI (cp_ctF (by rw [hld, decide_eq_false (fun z => g (he.mpr z)), Bool.and_false, Bool.false_and])).symm))
    · have ho : cp_b (cp_O w) i = false := by rw [cp_Ob w hi, e]; rfl
      exact nm_r (nI_1 i) (k (_, f, st, me) (congrArg nI (cp_ctF (by rw [hld, ho]; rfl)).symm))
/-! largest -/
theorem cp_F_n {m : Bool} {W : Int64} {a n : Nat} {st me : Nat → Int32} (h : cp_F m W a n st me) : n = cp_ct (cp_b (cp_C m W a)) 64 := by
  obtain ⟨T, M, f1, _⟩ := h; exact f1
theorem cy_largest {post : Int32 → SY → Prop} {w : Int64} {f : Int32} {on st me nx : Nat → Int32} {m : Bool} (hR : cp_On w on) (h : ∀ f' st' me', post (nI (cp_mx m w 64)) (f', on, st', me', nx)) : wpY_largest post (f, on, st, me, nx) (cp_md m) := by
  unfold wpY_largest; dsimp only
  refine cy_modeT m ?_
  refine br_f (c := (1 : Int32) = 0) (by decide) ?_
  refine loop_0 (fun n i (s : Int32 × Int32 × (Nat → Int32) × (Nat → Int32)) => wY_largest_14 post (cp_md m) n s.1 (nI i) s.2.1 on s.2.2.1 s.2.2.2 nx) (fun i s => s.1 = nI (cp_mx m w i)) 64 (0, f, st, me) rfl ?_ ?_
  · rintro n ⟨r, f, st, me⟩ hr
    dsimp only at hr ⊢
    subst hr
    exact br_t cp_64 (h f st me)
  · rintro n i ⟨r, f, st, me⟩ hi hr k
    dsimp only at hr ⊢
    subst hr
    have l1 := cp_mx_le m w i
    have l2 := cp_ct_le (cp_b (cp_C m w i)) 64
    refine br_f (nI_ge (b := 64) hi (by decide)) ⟨vp_in_nI hi (by decide), ?_⟩
    rw [nI_clamp (show i < 2 ^ 31 by omega), hR i hi]
    refine cp_Ib (fun e => ?_) (fun e => ?_)
    · exact nm_r (nI_1 i) (k (_, f, st, me) (congrArg nI (by rw [cp_mx, e]; rfl)))
    · refine cy_walk hi (cp_WT hR hi e) (fun n' st' me' hF => ?_)
      have hn := cp_F_n hF
      subst hn
      refine pk_le (cp_ct (cp_b (cp_C m w i)) 64) (cp_mx m w i) (fun g => ?_) (fun g => ?_)
      · exact nm_r (nI_1 i) (k (_, _, st', me') (congrArg nI (by rw [cp_mx, if_pos e, if_pos g])))
      · exact nm_r (nI_1 i) (k (_, _, st', me') (congrArg nI (by rw [cp_mx, if_pos e, if_neg (by omega)])))
/-! the new picture, cell by cell -/
def cp_Nx (w' : Int64) (i : Nat) (s : Nat → Int32) : Prop := ∀ c, c < i → s c = cp_I (cp_b w' c)
theorem cp_Nxs {w' : Int64} {i : Nat} {s : Nat → Int32} {x : Int32} (h : cp_Nx w' i s) (hx : x = cp_I (cp_b w' i)) : cp_Nx w' (i + 1) (upd s i x) := by
  intro c hc
  by_cases e : c = i
  · subst e; rw [pk_us, hx]
  · rw [pk_un e]; exact h c (by omega)
theorem cp_Nxs2 {w' : Int64} {i : Nat} {s : Nat → Int32} {x y : Int32} (h : cp_Nx w' i s) (hx : x = cp_I (cp_b w' i)) : cp_Nx w' (i + 1) (upd (upd s i y) i x) := by
  intro c hc
  by_cases e : c = i
  · subst e; rw [pk_us, hx]
  · rw [pk_un e, pk_un e]; exact h c (by omega)
theorem cy_grow {post : Int32 → SY → Prop} {w w' : Int64} {f : Int32} {on st me nx : Nat → Int32} {m : Bool} (hR : cp_On w on) (hw : w' = w ||| cp_nr m w) (h : ∀ on' nx', cp_On w' on' → post (nI (cp_ct (cp_b (w ^^^ w')) 64)) (f, on', st, me, nx')) : wpY_grow post (f, on, st, me, nx) (cp_md m) := by
  unfold wpY_grow; dsimp only
  refine cy_modeT m ?_
  refine br_f (c := (1 : Int32) = 0) (by decide) ?_
  refine loop_0 (fun n i s => wY_grow_12 post (cp_md m) f n (nI i) on st me s) (fun i s => cp_Nx w' i s) 64 nx (fun c hc => absurd hc (by omega)) ?_ ?_
  · intro n s hs
    exact br_t cp_64 (cy_take hR hs (fun on' h' => h on' s h'))
  · intro n i s hi hs k
    have vi := vp_in_nI (N := 64) hi (by decide)
    have cl : (nI i).toNatClampNeg = i := nI_clamp (by omega)
    have hb : cp_b w' i = (cp_b w i || cp_b (cp_nr m w) i) := by rw [hw, cp_or]
    refine br_f (nI_ge (b := 64) hi (by decide)) ⟨vi, ?_⟩
    rw [cl, hR i hi]
    refine cp_Ib (fun e => cy_hasNear hR (wd := true) hi (cp_hn m w hi).symm (cp_Ib (fun z => ⟨vi, ?_⟩) (fun z => ⟨vi, ?_⟩))) (fun e => ⟨vi, ?_⟩)
    · rw [cp_nar0]; exact nm_e (nm_r (nI_1 i) (k _ (cp_Nxs hs (by rw [hb, e, z]; rfl))))
    · rw [cp_nar1]; exact nm_e (nm_r (nI_1 i) (k _ (cp_Nxs hs (by rw [hb, e, z]; rfl))))
    · rw [cp_nar1]; exact nm_e (nm_r (nI_1 i) (k _ (cp_Nxs hs (by rw [hb, e, Bool.true_or]))))
theorem cy_shrink {post : Int32 → SY → Prop} {w w' : Int64} {f : Int32} {on st me nx : Nat → Int32} {m : Bool} (hR : cp_On w on) (hw : w' = cp_sh m w) (h : ∀ on' nx', cp_On w' on' → post (nI (cp_ct (cp_b (w ^^^ w')) 64)) (f, on', st, me, nx')) : wpY_shrink post (f, on, st, me, nx) (cp_md m) := by
  unfold wpY_shrink; dsimp only
  refine cy_modeT m ?_
  refine br_f (c := (1 : Int32) = 0) (by decide) ?_
  refine loop_0 (fun n i s => wY_shrink_12 post (cp_md m) f n (nI i) on st me s) (fun i s => cp_Nx w' i s) 64 nx (fun c hc => absurd hc (by omega)) ?_ ?_
  · intro n s hs
    exact br_t cp_64 (cy_take hR hs (fun on' h' => h on' s h'))
  · intro n i s hi hs k
    have vi := vp_in_nI (N := 64) hi (by decide)
    have cl : (nI i).toNatClampNeg = i := nI_clamp (by omega)
    have hb : cp_b w' i = (cp_b w i && !(cp_b (cp_nr m (w ^^^ (-1))) i || cp_rim i)) := by rw [hw, cp_sh, cp_and, cp_not _ hi, cp_or, cp_Rim i hi]
    refine br_f (nI_ge (b := 64) hi (by decide)) ⟨vi, ?_⟩
    rw [cl, hR i hi]
    refine cp_Ib (fun e => ⟨vi, ?_⟩) (fun e => cy_hasNear hR (wd := false) (b := cp_b (cp_nr m (w ^^^ (-1))) i || cp_rim i) hi (by rw [Bool.or_eq_true]; exact (cp_hnF m w hi).symm) (cp_Ib (fun z => ⟨vi, ?_⟩) (fun z => ⟨vi, ?_⟩)))
    · rw [cp_nar0]; exact nm_e (nm_r (nI_1 i) (k _ (cp_Nxs hs (by rw [hb, e]; rfl))))
    · rw [cp_nar1]; exact nm_e (nm_r (nI_1 i) (k _ (cp_Nxs hs (by rw [hb, e, z]; rfl))))
    · rw [cp_nar0]; exact nm_e (nm_r (nI_1 i) (k _ (cp_Nxs hs (by rw [hb, e, z]; rfl))))
theorem cy_fill {post : Int32 → SY → Prop} {w w' : Int64} {f : Int32} {on st me nx : Nat → Int32} {m : Bool} (hR : cp_On w on) (hw : w' = w ||| cp_H m w) (h : ∀ f' on' st' me' nx', cp_On w' on' → post (nI (cp_ct (cp_b (w ^^^ w')) 64)) (f', on', st', me', nx')) : wpY_fill post (f, on, st, me, nx) (cp_md m) := by
  unfold wpY_fill; dsimp only
  refine cy_modeT m ?_
  refine br_f (c := (1 : Int32) = 0) (by decide) ?_
  refine loop_0 (fun n i (s : Int32 × (Nat → Int32) × (Nat → Int32) × (Nat → Int32)) => wY_fill_12 post (cp_md m) n (nI i) s.1 on s.2.1 s.2.2.1 s.2.2.2) (fun i s => cp_Nx w' i s.2.2.2) 64 (f, st, me, nx) (fun c hc => absurd hc (by omega)) ?_ ?_
  · rintro n ⟨f, st, me, nx⟩ hs
    exact br_t cp_64 (cy_take hR hs (fun on' h' => h f on' st me nx h'))
  · rintro n i ⟨f, st, me, nx⟩ hi hs k
    dsimp only at hs ⊢
    have vi := vp_in_nI (N := 64) hi (by decide)
    have cl : (nI i).toNatClampNeg = i := nI_clamp (by omega)
    have hb : cp_b w' i = (cp_b w i || (cp_b (cp_O w) i && cp_ins (cp_C (!m) (cp_O w) i))) := by rw [hw, cp_or, cp_Hbb m w hi]
    refine br_f (nI_ge (b := 64) hi (by decide)) ⟨vi, vi, ?_⟩
    rw [cl, hR i hi, cp_Inar, cp_md12]
    refine nm_e ⟨vi, cp_Ib (fun e => ?_) (fun e => ?_)⟩
    · have ho : cp_b (cp_O w) i = true := by rw [cp_Ob w hi, e]; rfl
      refine cy_walk hi (cp_WF hR hi e) (fun n' st' me' hF => ?_)
      refine cy_inside hF _ (cp_insI _) ⟨vi, ?_⟩
      rw [cp_Inar]
      exact nm_e (nm_r (nI_1 i) (k (_, st', me', _) (cp_Nxs2 hs (by rw [hb, e, ho]; rfl))))
    · exact nm_r (nI_1 i) (k (f, st, me, _) (cp_Nxs hs (by rw [hb, e]; rfl)))
theorem cy_clear {post : Int32 → SY → Prop} {w w' : Int64} {f : Int32} {on st me nx : Nat → Int32} {m : Bool} {q : Nat} (hq : q ≤ 64) (hR : cp_On w on) (hw : ∀ d, d < 64 → cp_b w' d = (cp_b w d && decide (q ≤ cp_ct (cp_b (cp_C m w d)) 64))) (h : ∀ f' on' st' me' nx', cp_On w' on' → post (nI (cp_ct (cp_b (w ^^^ w')) 64)) (f', on', st', me', nx')) : ∃ n, wY_clear_22 post (cp_md m) (nI q) n 0 f on st me nx := by
  refine loop_0 (fun n i (s : Int32 × (Nat → Int32) × (Nat → Int32) × (Nat → Int32)) => wY_clear_22 post (cp_md m) (nI q) n (nI i) s.1 on s.2.1 s.2.2.1 s.2.2.2) (fun i s => cp_Nx w' i s.2.2.2) 64 (f, st, me, nx) (fun c hc => absurd hc (by omega)) ?_ ?_
  · rintro n ⟨f, st, me, nx⟩ hs
    exact br_t cp_64 (cy_take hR hs (fun on' h' => h f on' st me nx h'))
  · rintro n i ⟨f, st, me, nx⟩ hi hs k
    dsimp only at hs ⊢
    have vi := vp_in_nI (N := 64) hi (by decide)
    have cl : (nI i).toNatClampNeg = i := nI_clamp (by omega)
    have hb := hw i hi
    have l2 := cp_ct_le (cp_b (cp_C m w i)) 64
    refine br_f (nI_ge (b := 64) hi (by decide)) ⟨vi, ?_⟩
    rw [cl, cp_nar0, cp_nar1, hR i hi]
    refine nm_e ⟨vi, cp_Ib (fun e => ?_) (fun e => ?_)⟩
    · exact nm_r (nI_1 i) (k (f, st, me, _) (cp_Nxs hs (by rw [hb, e]; rfl)))
    · refine cy_walk hi (cp_WT hR hi e) (fun n' st' me' hF => ?_)
      have hn := cp_F_n hF
      subst hn
      refine pk_lt (cp_ct (cp_b (cp_C m w i)) 64) q (fun g => ⟨vi, ?_⟩) (fun g => ⟨vi, ?_⟩)
      · exact nm_e (nm_r (nI_1 i) (k (_, st', me', _) (cp_Nxs2 hs (by rw [hb, e, decide_eq_false (by omega)]; rfl))))
      · exact nm_e (nm_r (nI_1 i) (k (_, st', me', _) (cp_Nxs2 hs (by rw [hb, e, decide_eq_true g]; rfl))))
end
section
/-! the relation, and the calls without groups -/
/-- digit c of the long is the reference's cell c -/
def i_Rel (_ : Nat) (u : SX) (v : SY) : Prop := cp_On u v.2.1
theorem i_up {k : Nat} {u : SX} {v : SY} (h : i_Rel k u v) : i_Rel (k + 4) u v := h
theorem i_vc0 : wpX_init (fun u => wpY_init (fun v => i_Rel 0 u v)) := fun c _ => by rw [cp_0]; rfl
/-! turn -/
theorem ox_turnF {post : Int32 → SX → Prop} {w : Int64} {x : Int32} (hx : x < 0 ∨ nI 64 ≤ x) (h : post (-1) w) : wpX_turn post w x := by
  unfold wpX_turn
  exact cx_cellF hx (br_t rfl h)
theorem ox_turnT {post : Int32 → SX → Prop} {w : Int64} {c : Nat} (hc : c < 64) (h : post (cp_I (!cp_b w c)) (w ^^^ cp_1 c)) : wpX_turn post w (nI c) := by
  unfold wpX_turn
  refine cx_cellT hc (br_f (by decide) (nm_e (cx_has hc ?_)))
  have e : cp_b (w ^^^ cp_1 c) c = !cp_b w c := cp_turnb w hc
  refine cp_Ib (fun z => ?_) (fun z => ?_)
  · have z2 : cp_b (w ^^^ cp_1 c) c = false := z
    rw [← e, z2] at h; exact h
  · have z2 : cp_b (w ^^^ cp_1 c) c = true := z
    rw [← e, z2] at h; exact h
theorem oy_turnF {post : Int32 → SY → Prop} {f : Int32} {on st me nx : Nat → Int32} {x : Int32} (hx : x < 0 ∨ nI 64 ≤ x) (h : post (-1) (f, on, st, me, nx)) : wpY_turn post (f, on, st, me, nx) x := by
  unfold wpY_turn; dsimp only
  exact cy_cellF hx (br_t rfl h)
theorem oy_turnT {post : Int32 → SY → Prop} {w : Int64} {f : Int32} {on st me nx : Nat → Int32} {c : Nat} (hR : cp_On w on) (hc : c < 64) (h : ∀ on', cp_On (w ^^^ cp_1 c) on' → post (cp_I (!cp_b w c)) (f, on', st, me, nx)) : wpY_turn post (f, on, st, me, nx) (nI c) := by
  unfold wpY_turn; dsimp only
  have vi := vp_in_nI (N := 64) hc (by decide)
  have cl : (nI c).toNatClampNeg = c := nI_clamp (by omega)
  have H := h _ (cp_turn hR hc)
  refine cy_cellT hc (br_f (by decide) ⟨vi, ?_⟩)
  rw [cl, hR c hc]
  refine cp_Ib (fun e => ⟨vi, ?_⟩) (fun e => ⟨vi, ?_⟩)
  · rw [e] at H
    rw [cl, cp_nar1]
    exact nm_e ⟨vi, br_f (by rw [pk_us]; decide) H⟩
  · rw [e] at H
    rw [cl, cp_nar0]
    exact nm_e ⟨vi, br_t (by rw [pk_us]; rfl) H⟩
theorem i_vc_turn {k : Nat} {u : SX} {v : SY} (I : i_Rel k u v) (hk : k + 4 ≤ 2048) (v1 : Int32) : wpX_turn (fun r u' => wpY_turn (fun r' v' => r' = r ∧ i_Rel (k + 4) u' v') v v1) u v1 := by
  obtain ⟨f, on, st, me, nx⟩ := v
  have hR : cp_On u on := I
  rcases cp_cell v1 with bad | ⟨c, hc, rfl⟩
  · exact ox_turnF bad (oy_turnF bad ⟨rfl, hR⟩)
  · exact ox_turnT hc (oy_turnT hR hc (fun on' h' => ⟨rfl, h'⟩))
/-! line -/
theorem cp_y8 (x : Int32) : (x < 0 ∨ (¬ x < 0 ∧ (8 : Int32) ≤ x ∧ (7 : Int32) < x)) ∨ ∃ y, y < 8 ∧ x = nI y := by
  by_cases h : x < 0
  · exact Or.inl (Or.inl h)
  · obtain ⟨j, hj, rfl⟩ := nI_of h
    by_cases g : j < 8
    · exact Or.inr ⟨j, g, rfl⟩
    · exact Or.inl (Or.inr ⟨h, nI_le (a := 8) (by omega) hj, nI_lt (a := 7) (by omega) hj⟩)
theorem cp_s256 (x : Int32) : (x < 0 ∨ (¬ x < 0 ∧ ¬ x ≤ 255)) ∨ ∃ s, s < 256 ∧ x = nI s := by
  by_cases h : x < 0
  · exact Or.inl (Or.inl h)
  · obtain ⟨j, hj, rfl⟩ := nI_of h
    by_cases g : j < 256
    · exact Or.inr ⟨j, g, rfl⟩
    · exact Or.inl (Or.inr ⟨h, nI_ge (a := 255) (by omega) hj⟩)
theorem i_vc_line {k : Nat} {u : SX} {v : SY} (I : i_Rel k u v) (hk : k + 4 ≤ 2048) (v1 : Int32) (v2 : Int32) : wpX_line (fun r u' => wpY_line (fun r' v' => r' = r ∧ i_Rel (k + 4) u' v') v v1 v2) u v1 v2 := by
  obtain ⟨f, on, st, me, nx⟩ := v
  have hR : cp_On u on := I
  rcases cp_y8 v1 with (h | ⟨h, h8, h7⟩) | ⟨y, hy, rfl⟩
  · exact br_t h (br_t h ⟨rfl, hR⟩)
  · exact br_f h (br_t h8 (br_f h (br_t h7 ⟨rfl, hR⟩)))
  · have y0 : ¬ nI y < 0 := nI_pos (by omega)
    have y8 : ¬ (8 : Int32) ≤ nI y := nI_ge (b := 8) hy (by decide)
    have y7 : ¬ (7 : Int32) < nI y := nI_nlt (a := 7) (by omega) (by decide)
    rcases cp_s256 v2 with (h | ⟨h, h5⟩) | ⟨s, hs, rfl⟩
    · exact br_f y0 (br_f y8 (br_t h (br_f y0 (br_f y7 (br_t h ⟨rfl, hR⟩)))))
    · exact br_f y0 (br_f y8 (br_f h (br_f h5 (br_f y0 (br_f y7 (br_f h (br_f h5 ⟨rfl, hR⟩)))))))
    · have s0 : ¬ nI s < 0 := nI_pos (by omega)
      have s5 : nI s ≤ 255 := nI_le (b := 255) (by omega) (by decide)
      have e8 : 8 * nI y = nI (8 * y) := pk_mul 8 y
      refine br_f y0 (br_f y8 (br_f s0 (br_t s5 (nm_r e8 (nm_e (nm_e (br_f y0 (br_f y7 (br_f s0 (br_t s5 ?_))))))))))
      exact cy_line hR hy hs (fun r on' hr hon => ⟨b_ext (fun i hi => (hr i hi).trans (cp_lnA u hy hi).symm), hon⟩)
/-! box -/
theorem cp_v01 (x : Int32) : (x < 0 ∨ (¬ x < 0 ∧ ¬ x ≤ 1)) ∨ ∃ v, x = cp_I v := by
  by_cases h : x < 0
  · exact Or.inl (Or.inl h)
  · obtain ⟨j, hj, rfl⟩ := nI_of h
    by_cases g : j < 2
    · right
      by_cases z : j = 0
      · subst z; exact ⟨false, rfl⟩
      · have : j = 1 := by omega
        subst this; exact ⟨true, rfl⟩
    · exact Or.inl (Or.inr ⟨h, nI_ge (a := 1) (by omega) hj⟩)
theorem cp_v0 : ∀ v, ¬ cp_I v < 0 := by decide
theorem cp_v1 : ∀ v, cp_I v ≤ 1 := by decide
theorem ox_boxF0 {post : Int32 → SX → Prop} {w : Int64} {x y z : Int32} (hx : x < 0 ∨ nI 64 ≤ x) (h : post (-1) w) : wpX_box post w x y z := by
  unfold wpX_box
  exact cx_cellF hx (br_t rfl h)
theorem ox_boxF1 {post : Int32 → SX → Prop} {w : Int64} {f : Nat} {y z : Int32} (hf : f < 64) (hy : y < 0 ∨ nI 64 ≤ y) (h : post (-1) w) : wpX_box post w (nI f) y z := by
  unfold wpX_box
  refine cx_cellT hf ?_
  refine br_f (c := (1 : Int32) = 0) (by decide) ?_
  exact cx_cellF hy (br_t rfl h)
theorem ox_boxF2 {post : Int32 → SX → Prop} {w : Int64} {f t : Nat} {z : Int32} (hf : f < 64) (ht : t < 64) (hz : z < 0 ∨ (¬ z < 0 ∧ ¬ z ≤ 1)) (h : post (-1) w) : wpX_box post w (nI f) (nI t) z := by
  unfold wpX_box
  refine cx_cellT hf ?_
  refine br_f (c := (1 : Int32) = 0) (by decide) ?_
  refine cx_cellT ht ?_
  refine br_f (c := (1 : Int32) = 0) (by decide) ?_
  rcases hz with hz | ⟨h0, h1⟩
  · exact br_t hz h
  · exact br_f h0 (br_f h1 h)
theorem ox_box {post : Int32 → SX → Prop} {w : Int64} {f t : Nat} {v : Bool} (hf : f < 64) (ht : t < 64) (hF : ¬ (f % 8 ≤ t % 8 ∧ f / 8 ≤ t / 8) → post (-1) w) (hT : f % 8 ≤ t % 8 → f / 8 ≤ t / 8 → ∀ w', (∀ d, d < 64 → cp_b w' d = if cp_Q f t d then v else cp_b w d) → post (nI (cp_ct (cp_b (w ^^^ w')) 64)) w') : wpX_box post w (nI f) (nI t) (cp_I v) := by
  unfold wpX_box
  refine cx_cellT hf ?_
  refine br_f (c := (1 : Int32) = 0) (by decide) ?_
  refine cx_cellT ht ?_
  refine br_f (c := (1 : Int32) = 0) (by decide) ?_
  refine br_f (cp_v0 v) (br_t (cp_v1 v) ⟨cp_n8, cp_n8, pk_lt (t % 8) (f % 8) (fun g => hF (by omega)) (fun g1 => ⟨cp_n8, cp_n8, pk_le (f / 8) (t / 8) (fun g2 => ?_) (fun g2 => hF (by omega)) (cp_div8 hf) (cp_div8 ht)⟩) (cp_rem8 ht) (cp_rem8 hf)⟩)
  refine cx_rect hf ht (fun r hr => ?_)
  cases v
  · refine br_f (by decide) ?_
    unfold wX_box_83
    refine cx_become (hT g1 g2 _ (fun d hd => ?_))
    rw [cp_and, cp_not _ hd, hr d hd]
    cases cp_Q f t d <;> simp
  · refine br_t rfl ?_
    unfold wX_box_83
    refine cx_become (hT g1 g2 _ (fun d hd => ?_))
    rw [cp_or, hr d hd]
    cases cp_Q f t d <;> simp
theorem oy_boxF0 {post : Int32 → SY → Prop} {F : Int32} {on st me nx : Nat → Int32} {x y z : Int32} (hx : x < 0 ∨ nI 64 ≤ x) (h : post (-1) (F, on, st, me, nx)) : wpY_box post (F, on, st, me, nx) x y z := by
  unfold wpY_box; dsimp only
  exact cy_cellF hx (br_t rfl h)
theorem oy_boxF1 {post : Int32 → SY → Prop} {F : Int32} {on st me nx : Nat → Int32} {f : Nat} {y z : Int32} (hf : f < 64) (hy : y < 0 ∨ nI 64 ≤ y) (h : post (-1) (F, on, st, me, nx)) : wpY_box post (F, on, st, me, nx) (nI f) y z := by
  unfold wpY_box; dsimp only
  refine cy_cellT hf ?_
  refine br_f (c := (1 : Int32) = 0) (by decide) ?_
  exact cy_cellF hy (br_t rfl h)
theorem oy_boxF2 {post : Int32 → SY → Prop} {F : Int32} {on st me nx : Nat → Int32} {f t : Nat} {z : Int32} (hf : f < 64) (ht : t < 64) (hz : z < 0 ∨ (¬ z < 0 ∧ ¬ z ≤ 1)) (h : post (-1) (F, on, st, me, nx)) : wpY_box post (F, on, st, me, nx) (nI f) (nI t) z := by
  unfold wpY_box; dsimp only
  refine cy_cellT hf ?_
  refine br_f (c := (1 : Int32) = 0) (by decide) ?_
  refine cy_cellT ht ?_
  refine br_f (c := (1 : Int32) = 0) (by decide) ?_
  refine ⟨cp_n8, cp_n8, pk_lt (t % 8) (f % 8) (fun g => h) (fun g1 => ⟨cp_n8, cp_n8, pk_lt (t / 8) (f / 8) (fun g2 => h) (fun g2 => ?_) (cp_div8 ht) (cp_div8 hf)⟩) (cp_rem8 ht) (cp_rem8 hf)⟩
  rcases hz with hz | ⟨h0, h1⟩
  · exact br_t hz h
  · exact br_f h0 (br_f h1 h)
theorem oy_boxF3 {post : Int32 → SY → Prop} {F : Int32} {on st me nx : Nat → Int32} {f t : Nat} {z : Int32} (hf : f < 64) (ht : t < 64) (hz : ¬ (f % 8 ≤ t % 8 ∧ f / 8 ≤ t / 8)) (h : post (-1) (F, on, st, me, nx)) : wpY_box post (F, on, st, me, nx) (nI f) (nI t) z := by
  unfold wpY_box; dsimp only
  refine cy_cellT hf ?_
  refine br_f (c := (1 : Int32) = 0) (by decide) ?_
  refine cy_cellT ht ?_
  refine br_f (c := (1 : Int32) = 0) (by decide) ?_
  exact ⟨cp_n8, cp_n8, pk_lt (t % 8) (f % 8) (fun g => h) (fun g1 => ⟨cp_n8, cp_n8, pk_lt (t / 8) (f / 8) (fun g2 => h) (fun g2 => by omega) (cp_div8 ht) (cp_div8 hf)⟩) (cp_rem8 ht) (cp_rem8 hf)⟩
theorem oy_box {post : Int32 → SY → Prop} {w w' : Int64} {F : Int32} {on st me nx : Nat → Int32} {f t : Nat} {v : Bool} (hR : cp_On w on) (hf : f < 64) (ht : t < 64) (h1 : f % 8 ≤ t % 8) (h2 : f / 8 ≤ t / 8) (hw : ∀ d, d < 64 → cp_b w' d = if cp_Q f t d then v else cp_b w d) (h : ∀ on', cp_On w' on' → post (nI (cp_ct (cp_b (w ^^^ w')) 64)) (F, on', st, me, nx)) : wpY_box post (F, on, st, me, nx) (nI f) (nI t) (cp_I v) := by
  unfold wpY_box; dsimp only
  refine cy_cellT hf ?_
  refine br_f (c := (1 : Int32) = 0) (by decide) ?_
  refine cy_cellT ht ?_
  refine br_f (c := (1 : Int32) = 0) (by decide) ?_
  exact ⟨cp_n8, cp_n8, pk_lt (t % 8) (f % 8) (fun g => by omega) (fun g1 => ⟨cp_n8, cp_n8, pk_lt (t / 8) (f / 8) (fun g2 => by omega) (fun g2 => br_f (cp_v0 v) (br_t (cp_v1 v) ⟨cp_n8, nm_r (cp_div8 hf) (cy_box hR hf ht h1 h2 hw h)⟩)) (cp_div8 ht) (cp_div8 hf)⟩) (cp_rem8 ht) (cp_rem8 hf)⟩
theorem i_vc_box {k : Nat} {u : SX} {v : SY} (I : i_Rel k u v) (hk : k + 4 ≤ 2048) (v1 : Int32) (v2 : Int32) (v3 : Int32) : wpX_box (fun r u' => wpY_box (fun r' v' => r' = r ∧ i_Rel (k + 4) u' v') v v1 v2 v3) u v1 v2 v3 := by
  obtain ⟨f, on, st, me, nx⟩ := v
  have hR : cp_On u on := I
  rcases cp_cell v1 with bad | ⟨a, ha, rfl⟩
  · exact ox_boxF0 bad (oy_boxF0 bad ⟨rfl, hR⟩)
  · rcases cp_cell v2 with bad | ⟨b, hb, rfl⟩
    · exact ox_boxF1 ha bad (oy_boxF1 ha bad ⟨rfl, hR⟩)
    · rcases cp_v01 v3 with bad | ⟨v, rfl⟩
      · exact ox_boxF2 ha hb bad (oy_boxF2 ha hb bad ⟨rfl, hR⟩)
      · exact ox_box ha hb (fun bad => oy_boxF3 ha hb bad ⟨rfl, hR⟩) (fun h1 h2 w' hw => oy_box hR ha hb h1 h2 hw (fun on' h' => ⟨rfl, h'⟩))
/-! cells, edge, depth, grow, shrink -/
theorem i_vc_cells {k : Nat} {u : SX} {v : SY} (I : i_Rel k u v) (hk : k + 4 ≤ 2048) : wpX_cells (fun r => wpY_cells (fun r' => r' = r ∧ i_Rel (k + 4) u v) v) u := by
  obtain ⟨f, on, st, me, nx⟩ := v
  have hR : cp_On u on := I
  unfold wpX_cells
  exact cx_count (cy_cells hR ⟨rfl, hR⟩)
theorem i_vc_edge {k : Nat} {u : SX} {v : SY} (I : i_Rel k u v) (hk : k + 4 ≤ 2048) : wpX_edge (fun r => wpY_edge (fun r' => r' = r ∧ i_Rel (k + 4) u v) v) u := by
  obtain ⟨f, on, st, me, nx⟩ := v
  have hR : cp_On u on := I
  exact cx_edge (cy_edge hR ⟨rfl, hR⟩)
theorem ox_depthF {post : Int32 → Prop} {w : Int64} {x : Int32} (hx : x < 0 ∨ nI 64 ≤ x) (h : post (-1)) : wpX_depth post w x := by
  unfold wpX_depth
  exact cx_cellF hx (br_t rfl h)
theorem ox_depthT {post : Int32 → Prop} {w : Int64} {c : Nat} (hc : c < 64) (h : post (nI (cp_dl w c 100))) : wpX_depth post w (nI c) := by
  unfold wpX_depth
  refine cx_cellT hc ?_
  refine br_f (c := (1 : Int32) = 0) (by decide) ?_
  exact cx_depth2 hc h
theorem oy_depthF {post : Int32 → Prop} {f : Int32} {on st me nx : Nat → Int32} {x : Int32} (hx : x < 0 ∨ nI 64 ≤ x) (h : post (-1)) : wpY_depth post (f, on, st, me, nx) x := by
  unfold wpY_depth; dsimp only
  exact cy_cellF hx (br_t rfl h)
theorem oy_depthT {post : Int32 → Prop} {w : Int64} {f : Int32} {on st me nx : Nat → Int32} {c : Nat} (hR : cp_On w on) (hc : c < 64) (h : post (nI (cp_dl w c 100))) : wpY_depth post (f, on, st, me, nx) (nI c) := by
  unfold wpY_depth; dsimp only
  refine cy_cellT hc ?_
  refine br_f (c := (1 : Int32) = 0) (by decide) ?_
  exact cy_depth hR hc h
theorem i_vc_depth {k : Nat} {u : SX} {v : SY} (I : i_Rel k u v) (hk : k + 4 ≤ 2048) (v1 : Int32) : wpX_depth (fun r => wpY_depth (fun r' => r' = r ∧ i_Rel (k + 4) u v) v v1) u v1 := by
  obtain ⟨f, on, st, me, nx⟩ := v
  have hR : cp_On u on := I
  rcases cp_cell v1 with bad | ⟨c, hc, rfl⟩
  · exact ox_depthF bad (oy_depthF bad ⟨rfl, hR⟩)
  · exact ox_depthT hc (oy_depthT hR hc ⟨rfl, hR⟩)
theorem ox_growF {post : Int32 → SX → Prop} {w : Int64} {x : Int32} (hx : ¬ x = 4 ∧ ¬ x = 8) (h : post (-1) w) : wpX_grow post w x := by
  unfold wpX_grow
  exact cx_modeF hx (br_t rfl h)
theorem ox_growT {post : Int32 → SX → Prop} {w : Int64} {m : Bool} (h : post (nI (cp_ct (cp_b (w ^^^ (w ||| cp_nr m w))) 64)) (w ||| cp_nr m w)) : wpX_grow post w (cp_md m) := by
  unfold wpX_grow
  refine cx_modeT m ?_
  refine br_f (c := (1 : Int32) = 0) (by decide) ?_
  exact cx_near (cx_become h)
theorem oy_growF {post : Int32 → SY → Prop} {f : Int32} {on st me nx : Nat → Int32} {x : Int32} (hx : ¬ x = 4 ∧ ¬ x = 8) (h : post (-1) (f, on, st, me, nx)) : wpY_grow post (f, on, st, me, nx) x := by
  unfold wpY_grow; dsimp only
  exact cy_modeF hx (br_t rfl h)
theorem i_vc_grow {k : Nat} {u : SX} {v : SY} (I : i_Rel k u v) (hk : k + 4 ≤ 2048) (v1 : Int32) : wpX_grow (fun r u' => wpY_grow (fun r' v' => r' = r ∧ i_Rel (k + 4) u' v') v v1) u v1 := by
  obtain ⟨f, on, st, me, nx⟩ := v
  have hR : cp_On u on := I
  rcases cp_mode v1 with bad | ⟨m, rfl⟩
  · exact ox_growF bad (oy_growF bad ⟨rfl, hR⟩)
  · exact ox_growT (cy_grow hR rfl (fun on' nx' h' => ⟨rfl, h'⟩))
theorem ox_shrinkF {post : Int32 → SX → Prop} {w : Int64} {x : Int32} (hx : ¬ x = 4 ∧ ¬ x = 8) (h : post (-1) w) : wpX_shrink post w x := by
  unfold wpX_shrink
  exact cx_modeF hx (br_t rfl h)
theorem ox_shrinkT {post : Int32 → SX → Prop} {w : Int64} {m : Bool} (h : post (nI (cp_ct (cp_b (w ^^^ cp_sh m w)) 64)) (cp_sh m w)) : wpX_shrink post w (cp_md m) := by
  unfold wpX_shrink
  refine cx_modeT m ?_
  refine br_f (c := (1 : Int32) = 0) (by decide) ?_
  exact cx_shrunk (cx_become h)
theorem oy_shrinkF {post : Int32 → SY → Prop} {f : Int32} {on st me nx : Nat → Int32} {x : Int32} (hx : ¬ x = 4 ∧ ¬ x = 8) (h : post (-1) (f, on, st, me, nx)) : wpY_shrink post (f, on, st, me, nx) x := by
  unfold wpY_shrink; dsimp only
  exact cy_modeF hx (br_t rfl h)
theorem i_vc_shrink {k : Nat} {u : SX} {v : SY} (I : i_Rel k u v) (hk : k + 4 ≤ 2048) (v1 : Int32) : wpX_shrink (fun r u' => wpY_shrink (fun r' v' => r' = r ∧ i_Rel (k + 4) u' v') v v1) u v1 := by
  obtain ⟨f, on, st, me, nx⟩ := v
  have hR : cp_On u on := I
  rcases cp_mode v1 with bad | ⟨m, rfl⟩
  · exact ox_shrinkF bad (oy_shrinkF bad ⟨rfl, hR⟩)
  · exact ox_shrinkT (cy_shrink hR rfl (fun on' nx' h' => ⟨rfl, h'⟩))
end
section
/-! the calls over groups -/
theorem ox_piecesF {post : Int32 → Prop} {w : Int64} {x : Int32} (hx : ¬ x = 4 ∧ ¬ x = 8) (h : post (-1)) : wpX_pieces post w x := by
  unfold wpX_pieces
  exact cx_modeF hx (br_t rfl h)
theorem ox_piecesT {post : Int32 → Prop} {w : Int64} {m : Bool} (h : post (nI (cp_ct (cp_ld m w) 64))) : wpX_pieces post w (cp_md m) := by
  unfold wpX_pieces
  refine cx_modeT m ?_
  refine br_f (c := (1 : Int32) = 0) (by decide) ?_
  exact cx_groups h
theorem oy_piecesF {post : Int32 → SY → Prop} {f : Int32} {on st me nx : Nat → Int32} {x : Int32} (hx : ¬ x = 4 ∧ ¬ x = 8) (h : post (-1) (f, on, st, me, nx)) : wpY_pieces post (f, on, st, me, nx) x := by
  unfold wpY_pieces; dsimp only
  exact cy_modeF hx (br_t rfl h)
theorem i_vc_pieces {k : Nat} {u : SX} {v : SY} (I : i_Rel k u v) (hk : k + 4 ≤ 2048) (v1 : Int32) : wpX_pieces (fun r => wpY_pieces (fun r' v' => r' = r ∧ i_Rel (k + 4) u v') v v1) u v1 := by
  obtain ⟨f, on, st, me, nx⟩ := v
  have hR : cp_On u on := I
  rcases cp_mode v1 with bad | ⟨m, rfl⟩
  · exact ox_piecesF bad (oy_piecesF bad ⟨rfl, hR⟩)
  · exact ox_piecesT (cy_pieces hR (fun f' st' me' => ⟨rfl, hR⟩))
theorem ox_holesF {post : Int32 → Prop} {w : Int64} {x : Int32} (hx : ¬ x = 4 ∧ ¬ x = 8) (h : post (-1)) : wpX_holes post w x := by
  unfold wpX_holes
  exact cx_modeF hx (br_t rfl h)
theorem ox_holesT {post : Int32 → Prop} {w : Int64} {m : Bool} (h : post (nI (cp_ct (cp_ld (!m) (cp_H m w)) 64))) : wpX_holes post w (cp_md m) := by
  unfold wpX_holes
  refine cx_modeT m ?_
  refine br_f (c := (1 : Int32) = 0) (by decide) ?_
  exact cx_holes (cx_other m (cx_groups h))
theorem oy_holesF {post : Int32 → SY → Prop} {f : Int32} {on st me nx : Nat → Int32} {x : Int32} (hx : ¬ x = 4 ∧ ¬ x = 8) (h : post (-1) (f, on, st, me, nx)) : wpY_holes post (f, on, st, me, nx) x := by
  unfold wpY_holes; dsimp only
  exact cy_modeF hx (br_t rfl h)
theorem i_vc_holes {k : Nat} {u : SX} {v : SY} (I : i_Rel k u v) (hk : k + 4 ≤ 2048) (v1 : Int32) : wpX_holes (fun r => wpY_holes (fun r' v' => r' = r ∧ i_Rel (k + 4) u v') v v1) u v1 := by
  obtain ⟨f, on, st, me, nx⟩ := v
  have hR : cp_On u on := I
  rcases cp_mode v1 with bad | ⟨m, rfl⟩
  · exact ox_holesF bad (oy_holesF bad ⟨rfl, hR⟩)
  · exact ox_holesT (cy_holes hR (fun f' st' me' => ⟨rfl, hR⟩))
theorem ox_balanceF {post : Int32 → Prop} {w : Int64} {x : Int32} (hx : ¬ x = 4 ∧ ¬ x = 8) (h : post (-1)) : wpX_balance post w x := by
  unfold wpX_balance
  exact cx_modeF hx (br_t rfl h)
theorem ox_balanceT {post : Int32 → Prop} {w : Int64} {m : Bool} (h : post (nI (cp_ct (cp_ld m w) 64) - nI (cp_ct (cp_ld (!m) (cp_H m w)) 64))) : wpX_balance post w (cp_md m) := by
  unfold wpX_balance
  refine cx_modeT m ?_
  refine br_f (c := (1 : Int32) = 0) (by decide) ?_
  exact cx_holes (cx_other m (cx_groups (cx_groups h)))
theorem oy_balanceF {post : Int32 → SY → Prop} {f : Int32} {on st me nx : Nat → Int32} {x : Int32} (hx : ¬ x = 4 ∧ ¬ x = 8) (h : post (-1) (f, on, st, me, nx)) : wpY_balance post (f, on, st, me, nx) x := by
  unfold wpY_balance; dsimp only
  exact cy_modeF hx (br_t rfl h)
theorem oy_balanceT {post : Int32 → SY → Prop} {w : Int64} {f : Int32} {on st me nx : Nat → Int32} {m : Bool} (hR : cp_On w on) (h : ∀ f' st' me', post (nI (cp_ct (cp_ld m w) 64) - nI (cp_ct (cp_ld (!m) (cp_H m w)) 64)) (f', on, st', me', nx)) : wpY_balance post (f, on, st, me, nx) (cp_md m) := by
  unfold wpY_balance; dsimp only
  refine cy_modeT m ?_
  refine br_f (c := (1 : Int32) = 0) (by decide) ?_
  exact cy_pieces hR (fun f' st' me' => cy_holes hR (fun f2 st2 me2 => h f2 st2 me2))
theorem i_vc_balance {k : Nat} {u : SX} {v : SY} (I : i_Rel k u v) (hk : k + 4 ≤ 2048) (v1 : Int32) : wpX_balance (fun r => wpY_balance (fun r' v' => r' = r ∧ i_Rel (k + 4) u v') v v1) u v1 := by
  obtain ⟨f, on, st, me, nx⟩ := v
  have hR : cp_On u on := I
  rcases cp_mode v1 with bad | ⟨m, rfl⟩
  · exact ox_balanceF bad (oy_balanceF bad ⟨rfl, hR⟩)
  · exact ox_balanceT (oy_balanceT hR (fun f' st' me' => ⟨rfl, hR⟩))
/-! piece, size -/
theorem ox_pieceF {post : Int32 → Prop} {w : Int64} {x y : Int32} (hx : ¬ x = 4 ∧ ¬ x = 8) (h : post (-1)) : wpX_piece post w x y := by
  unfold wpX_piece
  exact cx_modeF hx (br_t rfl h)
theorem ox_pieceC {post : Int32 → Prop} {w : Int64} {m : Bool} {y : Int32} (hy : y < 0 ∨ nI 64 ≤ y) (h : post (-4)) : wpX_piece post w (cp_md m) y := by
  unfold wpX_piece
  refine cx_modeT m ?_
  refine br_f (c := (1 : Int32) = 0) (by decide) ?_
  exact cx_isOnF hy (br_t rfl h)
theorem ox_pieceT {post : Int32 → Prop} {w : Int64} {m : Bool} {c : Nat} (hc : c < 64) (h0 : cp_b w c = false → post (-4)) (h1 : cp_b w c = true → ∀ l, cp_b (cp_C m w c) l = true → (∀ d, d < l → cp_b (cp_C m w c) d = false) → post (nI l)) : wpX_piece post w (cp_md m) (nI c) := by
  unfold wpX_piece
  refine cx_modeT m ?_
  refine br_f (c := (1 : Int32) = 0) (by decide) ?_
  refine cx_isOn hc (cp_Ib h0 (fun e => ?_))
  obtain ⟨l, hl, hm⟩ := cp_lst (cp_C_r m w hc)
  exact cx_spread (S := cp_1 c) (cx_least hl hm (h1 e l hl hm))
theorem oy_pieceF {post : Int32 → SY → Prop} {f : Int32} {on st me nx : Nat → Int32} {x y : Int32} (hx : ¬ x = 4 ∧ ¬ x = 8) (h : post (-1) (f, on, st, me, nx)) : wpY_piece post (f, on, st, me, nx) x y := by
  unfold wpY_piece; dsimp only
  exact cy_modeF hx (br_t rfl h)
theorem oy_pieceC {post : Int32 → SY → Prop} {f : Int32} {on st me nx : Nat → Int32} {m : Bool} {y : Int32} (hy : y < 0 ∨ nI 64 ≤ y) (h : post (-4) (f, on, st, me, nx)) : wpY_piece post (f, on, st, me, nx) (cp_md m) y := by
  unfold wpY_piece; dsimp only
  refine cy_modeT m ?_
  refine br_f (c := (1 : Int32) = 0) (by decide) ?_
  exact cy_cellF hy (br_t rfl h)
theorem oy_piece0 {post : Int32 → SY → Prop} {w : Int64} {f : Int32} {on st me nx : Nat → Int32} {m : Bool} {c : Nat} (hR : cp_On w on) (hc : c < 64) (e : cp_b w c = false) (h : post (-4) (f, on, st, me, nx)) : wpY_piece post (f, on, st, me, nx) (cp_md m) (nI c) := by
  unfold wpY_piece; dsimp only
  refine cy_modeT m ?_
  refine br_f (c := (1 : Int32) = 0) (by decide) ?_
  refine cy_cellT hc ?_
  refine br_f (c := (1 : Int32) = 0) (by decide) ⟨vp_in_nI hc (by decide), ?_⟩
  rw [nI_clamp (show c < 2 ^ 31 by omega), hR c hc, e]
  exact br_t rfl h
theorem oy_piece1 {post : Int32 → SY → Prop} {w : Int64} {f : Int32} {on st me nx : Nat → Int32} {m : Bool} {c l : Nat} (hR : cp_On w on) (hc : c < 64) (e : cp_b w c = true) (hl : cp_b (cp_C m w c) l = true) (hm : ∀ d, d < l → cp_b (cp_C m w c) d = false) (h : ∀ f' st' me', post (nI l) (f', on, st', me', nx)) : wpY_piece post (f, on, st, me, nx) (cp_md m) (nI c) := by
  unfold wpY_piece; dsimp only
  refine cy_modeT m ?_
  refine br_f (c := (1 : Int32) = 0) (by decide) ?_
  refine cy_cellT hc ?_
  refine br_f (c := (1 : Int32) = 0) (by decide) ⟨vp_in_nI hc (by decide), ?_⟩
  rw [nI_clamp (show c < 2 ^ 31 by omega), hR c hc, e]
  refine br_f (by decide) (cy_walk hc (cp_WT hR hc e) (fun n' st' me' hF => cy_least hF hl hm (h _ _ _)))
theorem i_vc_piece {k : Nat} {u : SX} {v : SY} (I : i_Rel k u v) (hk : k + 4 ≤ 2048) (v1 : Int32) (v2 : Int32) : wpX_piece (fun r => wpY_piece (fun r' v' => r' = r ∧ i_Rel (k + 4) u v') v v1 v2) u v1 v2 := by
  obtain ⟨f, on, st, me, nx⟩ := v
  have hR : cp_On u on := I
  rcases cp_mode v1 with bad | ⟨m, rfl⟩
  · exact ox_pieceF bad (oy_pieceF bad ⟨rfl, hR⟩)
  · rcases cp_cell v2 with bad | ⟨c, hc, rfl⟩
    · exact ox_pieceC bad (oy_pieceC bad ⟨rfl, hR⟩)
    · exact ox_pieceT hc (fun e => oy_piece0 hR hc e ⟨rfl, hR⟩) (fun e l hl hm => oy_piece1 hR hc e hl hm (fun f' st' me' => ⟨rfl, hR⟩))
theorem ox_sizeF {post : Int32 → Prop} {w : Int64} {x y : Int32} (hx : ¬ x = 4 ∧ ¬ x = 8) (h : post (-1)) : wpX_size post w x y := by
  unfold wpX_size
  exact cx_modeF hx (br_t rfl h)
theorem ox_sizeC {post : Int32 → Prop} {w : Int64} {m : Bool} {y : Int32} (hy : y < 0 ∨ nI 64 ≤ y) (h : post (-4)) : wpX_size post w (cp_md m) y := by
  unfold wpX_size
  refine cx_modeT m ?_
  refine br_f (c := (1 : Int32) = 0) (by decide) ?_
  exact cx_isOnF hy (br_t rfl h)
theorem ox_sizeT {post : Int32 → Prop} {w : Int64} {m : Bool} {c : Nat} (hc : c < 64) (h0 : cp_b w c = false → post (-4)) (h1 : cp_b w c = true → post (nI (cp_ct (cp_b (cp_C m w c)) 64))) : wpX_size post w (cp_md m) (nI c) := by
  unfold wpX_size
  refine cx_modeT m ?_
  refine br_f (c := (1 : Int32) = 0) (by decide) ?_
  refine cx_isOn hc (cp_Ib h0 (fun e => ?_))
  exact cx_spread (S := cp_1 c) (cx_count (h1 e))
theorem oy_sizeF {post : Int32 → SY → Prop} {f : Int32} {on st me nx : Nat → Int32} {x y : Int32} (hx : ¬ x = 4 ∧ ¬ x = 8) (h : post (-1) (f, on, st, me, nx)) : wpY_size post (f, on, st, me, nx) x y := by
  unfold wpY_size; dsimp only
  exact cy_modeF hx (br_t rfl h)
theorem oy_sizeC {post : Int32 → SY → Prop} {f : Int32} {on st me nx : Nat → Int32} {m : Bool} {y : Int32} (hy : y < 0 ∨ nI 64 ≤ y) (h : post (-4) (f, on, st, me, nx)) : wpY_size post (f, on, st, me, nx) (cp_md m) y := by
  unfold wpY_size; dsimp only
  refine cy_modeT m ?_
  refine br_f (c := (1 : Int32) = 0) (by decide) ?_
  exact cy_cellF hy (br_t rfl h)
theorem oy_size0 {post : Int32 → SY → Prop} {w : Int64} {f : Int32} {on st me nx : Nat → Int32} {m : Bool} {c : Nat} (hR : cp_On w on) (hc : c < 64) (e : cp_b w c = false) (h : post (-4) (f, on, st, me, nx)) : wpY_size post (f, on, st, me, nx) (cp_md m) (nI c) := by
  unfold wpY_size; dsimp only
  refine cy_modeT m ?_
  refine br_f (c := (1 : Int32) = 0) (by decide) ?_
  refine cy_cellT hc ?_
  refine br_f (c := (1 : Int32) = 0) (by decide) ⟨vp_in_nI hc (by decide), ?_⟩
  rw [nI_clamp (show c < 2 ^ 31 by omega), hR c hc, e]
  exact br_t rfl h
theorem oy_size1 {post : Int32 → SY → Prop} {w : Int64} {f : Int32} {on st me nx : Nat → Int32} {m : Bool} {c : Nat} (hR : cp_On w on) (hc : c < 64) (e : cp_b w c = true) (h : ∀ f' st' me', post (nI (cp_ct (cp_b (cp_C m w c)) 64)) (f', on, st', me', nx)) : wpY_size post (f, on, st, me, nx) (cp_md m) (nI c) := by
  unfold wpY_size; dsimp only
  refine cy_modeT m ?_
  refine br_f (c := (1 : Int32) = 0) (by decide) ?_
  refine cy_cellT hc ?_
  refine br_f (c := (1 : Int32) = 0) (by decide) ⟨vp_in_nI hc (by decide), ?_⟩
  rw [nI_clamp (show c < 2 ^ 31 by omega), hR c hc, e]
  refine br_f (by decide) (cy_walk hc (cp_WT hR hc e) (fun n' st' me' hF => ?_))
  have hn := cp_F_n hF
  subst hn
  exact h _ _ _
theorem i_vc_size {k : Nat} {u : SX} {v : SY} (I : i_Rel k u v) (hk : k + 4 ≤ 2048) (v1 : Int32) (v2 : Int32) : wpX_size (fun r => wpY_size (fun r' v' => r' = r ∧ i_Rel (k + 4) u v') v v1 v2) u v1 v2 := by
  obtain ⟨f, on, st, me, nx⟩ := v
  have hR : cp_On u on := I
  rcases cp_mode v1 with bad | ⟨m, rfl⟩
  · exact ox_sizeF bad (oy_sizeF bad ⟨rfl, hR⟩)
  · rcases cp_cell v2 with bad | ⟨c, hc, rfl⟩
    · exact ox_sizeC bad (oy_sizeC bad ⟨rfl, hR⟩)
    · exact ox_sizeT hc (fun e => oy_size0 hR hc e ⟨rfl, hR⟩) (fun e => oy_size1 hR hc e (fun f' st' me' => ⟨rfl, hR⟩))
/-! largest, fill, clear -/
theorem ox_largestF {post : Int32 → Prop} {w : Int64} {x : Int32} (hx : ¬ x = 4 ∧ ¬ x = 8) (h : post (-1)) : wpX_largest post w x := by
  unfold wpX_largest
  exact cx_modeF hx (br_t rfl h)
theorem ox_largestT {post : Int32 → Prop} {w : Int64} {m : Bool} (h : post (nI (cp_mx m w 64))) : wpX_largest post w (cp_md m) := by
  unfold wpX_largest
  refine cx_modeT m ?_
  refine br_f (c := (1 : Int32) = 0) (by decide) ?_
  exact cx_largest h
theorem oy_largestF {post : Int32 → SY → Prop} {f : Int32} {on st me nx : Nat → Int32} {x : Int32} (hx : ¬ x = 4 ∧ ¬ x = 8) (h : post (-1) (f, on, st, me, nx)) : wpY_largest post (f, on, st, me, nx) x := by
  unfold wpY_largest; dsimp only
  exact cy_modeF hx (br_t rfl h)
theorem i_vc_largest {k : Nat} {u : SX} {v : SY} (I : i_Rel k u v) (hk : k + 4 ≤ 2048) (v1 : Int32) : wpX_largest (fun r => wpY_largest (fun r' v' => r' = r ∧ i_Rel (k + 4) u v') v v1) u v1 := by
  obtain ⟨f, on, st, me, nx⟩ := v
  have hR : cp_On u on := I
  rcases cp_mode v1 with bad | ⟨m, rfl⟩
  · exact ox_largestF bad (oy_largestF bad ⟨rfl, hR⟩)
  · exact ox_largestT (cy_largest hR (fun f' st' me' => ⟨rfl, hR⟩))
theorem ox_fillF {post : Int32 → SX → Prop} {w : Int64} {x : Int32} (hx : ¬ x = 4 ∧ ¬ x = 8) (h : post (-1) w) : wpX_fill post w x := by
  unfold wpX_fill
  exact cx_modeF hx (br_t rfl h)
theorem ox_fillT {post : Int32 → SX → Prop} {w : Int64} {m : Bool} (h : post (nI (cp_ct (cp_b (w ^^^ (w ||| cp_H m w))) 64)) (w ||| cp_H m w)) : wpX_fill post w (cp_md m) := by
  unfold wpX_fill
  refine cx_modeT m ?_
  refine br_f (c := (1 : Int32) = 0) (by decide) ?_
  exact cx_holes (cx_become h)
theorem oy_fillF {post : Int32 → SY → Prop} {f : Int32} {on st me nx : Nat → Int32} {x : Int32} (hx : ¬ x = 4 ∧ ¬ x = 8) (h : post (-1) (f, on, st, me, nx)) : wpY_fill post (f, on, st, me, nx) x := by
  unfold wpY_fill; dsimp only
  exact cy_modeF hx (br_t rfl h)
theorem i_vc_fill {k : Nat} {u : SX} {v : SY} (I : i_Rel k u v) (hk : k + 4 ≤ 2048) (v1 : Int32) : wpX_fill (fun r u' => wpY_fill (fun r' v' => r' = r ∧ i_Rel (k + 4) u' v') v v1) u v1 := by
  obtain ⟨f, on, st, me, nx⟩ := v
  have hR : cp_On u on := I
  rcases cp_mode v1 with bad | ⟨m, rfl⟩
  · exact ox_fillF bad (oy_fillF bad ⟨rfl, hR⟩)
  · exact ox_fillT (cy_fill hR rfl (fun f' on' st' me' nx' h' => ⟨rfl, h'⟩))
theorem cp_n64 (x : Int32) : (x < 0 ∨ (¬ x < 0 ∧ ¬ x ≤ 64)) ∨ ∃ n, n ≤ 64 ∧ x = nI n := by
  by_cases h : x < 0
  · exact Or.inl (Or.inl h)
  · obtain ⟨j, hj, rfl⟩ := nI_of h
    by_cases g : j ≤ 64
    · exact Or.inr ⟨j, g, rfl⟩
    · exact Or.inl (Or.inr ⟨h, nI_ge (a := 64) (by omega) hj⟩)
theorem ox_clearF {post : Int32 → SX → Prop} {w : Int64} {x y : Int32} (hx : ¬ x = 4 ∧ ¬ x = 8) (h : post (-1) w) : wpX_clear post w x y := by
  unfold wpX_clear
  exact cx_modeF hx (br_t rfl h)
theorem ox_clearN {post : Int32 → SX → Prop} {w : Int64} {m : Bool} {y : Int32} (hy : y < 0 ∨ (¬ y < 0 ∧ ¬ y ≤ 64)) (h : post (-1) w) : wpX_clear post w (cp_md m) y := by
  unfold wpX_clear
  refine cx_modeT m ?_
  refine br_f (c := (1 : Int32) = 0) (by decide) ?_
  rcases hy with hy | ⟨h0, h1⟩
  · exact br_t hy h
  · exact br_f h0 (br_f h1 h)
theorem ox_clearT {post : Int32 → SX → Prop} {w : Int64} {m : Bool} {c : Nat} (hc : c ≤ 64) (h : ∀ w', (∀ d, d < 64 → cp_b w' d = (cp_b w d && decide (c ≤ cp_ct (cp_b (cp_C m w d)) 64))) → post (nI (cp_ct (cp_b (w ^^^ w')) 64)) w') : wpX_clear post w (cp_md m) (nI c) := by
  unfold wpX_clear
  refine cx_modeT m ?_
  refine br_f (c := (1 : Int32) = 0) (by decide) ?_
  exact br_f (nI_pos (by omega)) (br_t (nI_le (b := 64) hc (by decide)) (cx_clear hc h))
theorem oy_clearF {post : Int32 → SY → Prop} {f : Int32} {on st me nx : Nat → Int32} {x y : Int32} (hx : ¬ x = 4 ∧ ¬ x = 8) (h : post (-1) (f, on, st, me, nx)) : wpY_clear post (f, on, st, me, nx) x y := by
  unfold wpY_clear; dsimp only
  exact cy_modeF hx (br_t rfl h)
theorem oy_clearN {post : Int32 → SY → Prop} {f : Int32} {on st me nx : Nat → Int32} {m : Bool} {y : Int32} (hy : y < 0 ∨ (¬ y < 0 ∧ ¬ y ≤ 64)) (h : post (-1) (f, on, st, me, nx)) : wpY_clear post (f, on, st, me, nx) (cp_md m) y := by
  unfold wpY_clear; dsimp only
  refine cy_modeT m ?_
  refine br_f (c := (1 : Int32) = 0) (by decide) ?_
  rcases hy with hy | ⟨h0, h1⟩
  · exact br_t hy h
  · exact br_f h0 (br_f h1 h)
theorem oy_clearT {post : Int32 → SY → Prop} {w w' : Int64} {f : Int32} {on st me nx : Nat → Int32} {m : Bool} {q : Nat} (hq : q ≤ 64) (hR : cp_On w on) (hw : ∀ d, d < 64 → cp_b w' d = (cp_b w d && decide (q ≤ cp_ct (cp_b (cp_C m w d)) 64))) (h : ∀ f' on' st' me' nx', cp_On w' on' → post (nI (cp_ct (cp_b (w ^^^ w')) 64)) (f', on', st', me', nx')) : wpY_clear post (f, on, st, me, nx) (cp_md m) (nI q) := by
  unfold wpY_clear; dsimp only
  refine cy_modeT m ?_
  refine br_f (c := (1 : Int32) = 0) (by decide) ?_
  exact br_f (nI_pos (by omega)) (br_t (nI_le (b := 64) hq (by decide)) (cy_clear hq hR hw h))
theorem i_vc_clear {k : Nat} {u : SX} {v : SY} (I : i_Rel k u v) (hk : k + 4 ≤ 2048) (v1 : Int32) (v2 : Int32) : wpX_clear (fun r u' => wpY_clear (fun r' v' => r' = r ∧ i_Rel (k + 4) u' v') v v1 v2) u v1 v2 := by
  obtain ⟨f, on, st, me, nx⟩ := v
  have hR : cp_On u on := I
  rcases cp_mode v1 with bad | ⟨m, rfl⟩
  · exact ox_clearF bad (oy_clearF bad ⟨rfl, hR⟩)
  · rcases cp_n64 v2 with bad | ⟨n, hn, rfl⟩
    · exact ox_clearN bad (oy_clearN bad ⟨rfl, hR⟩)
    · exact ox_clearT hn (fun w' hw => oy_clearT hn hR hw (fun f' on' st' me' nx' h' => ⟨rfl, h'⟩))
end
section
/-! way -/
theorem ox_wayF {post : Int32 → Prop} {w : Int64} {x y z : Int32} (hx : ¬ x = 4 ∧ ¬ x = 8) (h : post (-1)) : wpX_way post w x y z := by
  unfold wpX_way
  exact cx_modeF hx (br_t rfl h)
theorem ox_wayA {post : Int32 → Prop} {w : Int64} {m : Bool} {y z : Int32} (hy : y < 0 ∨ nI 64 ≤ y) (h : post (-4)) : wpX_way post w (cp_md m) y z := by
  unfold wpX_way
  refine cx_modeT m ?_
  refine br_f (c := (1 : Int32) = 0) (by decide) ?_
  exact cx_isOnF hy (br_t rfl h)
theorem ox_wayB {post : Int32 → Prop} {w : Int64} {m : Bool} {a : Nat} {z : Int32} (ha : a < 64) (hz : z < 0 ∨ nI 64 ≤ z) (h : post (-4)) : wpX_way post w (cp_md m) (nI a) z := by
  unfold wpX_way
  refine cx_modeT m ?_
  refine br_f (c := (1 : Int32) = 0) (by decide) ?_
  exact cx_isOn ha (cp_Ib (fun _ => h) (fun _ => cx_isOnF hz (br_t rfl h)))
theorem ox_way0 {post : Int32 → Prop} {w : Int64} {m : Bool} {a b : Nat} (ha : a < 64) (hb : b < 64) (h0 : cp_b w a = false ∨ cp_b w b = false) (h : post (-4)) : wpX_way post w (cp_md m) (nI a) (nI b) := by
  unfold wpX_way
  refine cx_modeT m ?_
  refine br_f (c := (1 : Int32) = 0) (by decide) ?_
  refine cx_isOn ha (cp_Ib (fun _ => h) (fun e => cx_isOn hb (cp_Ib (fun _ => h) (fun e2 => ?_))))
  rcases h0 with z | z
  · rw [z] at e; exact absurd e (by decide)
  · rw [z] at e2; exact absurd e2 (by decide)
theorem ox_way1 {post : Int32 → Prop} {w : Int64} {m : Bool} {a b : Nat} (ha : a < 64) (hb : b < 64) (h1 : cp_b w a = true) (h2 : cp_b w b = true) (h : ∃ n, wX_way_36 post (cp_md m) (nI b) w n (cp_1 a) 0) : wpX_way post w (cp_md m) (nI a) (nI b) := by
  unfold wpX_way
  refine cx_modeT m ?_
  refine br_f (c := (1 : Int32) = 0) (by decide) ?_
  refine cx_isOn ha (cp_Ib (fun e => ?_) (fun _ => cx_isOn hb (cp_Ib (fun e => ?_) (fun _ => nm_e h))))
  · rw [h1] at e; exact absurd e (by decide)
  · rw [h2] at e; exact absurd e (by decide)
theorem oy_wayF {post : Int32 → SY → Prop} {f : Int32} {on st me nx : Nat → Int32} {x y z : Int32} (hx : ¬ x = 4 ∧ ¬ x = 8) (h : post (-1) (f, on, st, me, nx)) : wpY_way post (f, on, st, me, nx) x y z := by
  unfold wpY_way; dsimp only
  exact cy_modeF hx (br_t rfl h)
theorem oy_wayA {post : Int32 → SY → Prop} {f : Int32} {on st me nx : Nat → Int32} {m : Bool} {y z : Int32} (hy : y < 0 ∨ nI 64 ≤ y) (h : post (-4) (f, on, st, me, nx)) : wpY_way post (f, on, st, me, nx) (cp_md m) y z := by
  unfold wpY_way; dsimp only
  refine cy_modeT m ?_
  refine br_f (c := (1 : Int32) = 0) (by decide) ?_
  exact cy_cellF hy (br_t rfl h)
theorem oy_wayB {post : Int32 → SY → Prop} {f : Int32} {on st me nx : Nat → Int32} {m : Bool} {a : Nat} {z : Int32} (ha : a < 64) (hz : z < 0 ∨ nI 64 ≤ z) (h : post (-4) (f, on, st, me, nx)) : wpY_way post (f, on, st, me, nx) (cp_md m) (nI a) z := by
  unfold wpY_way; dsimp only
  refine cy_modeT m ?_
  refine br_f (c := (1 : Int32) = 0) (by decide) ?_
  refine cy_cellT ha ?_
  refine br_f (c := (1 : Int32) = 0) (by decide) ?_
  exact cy_cellF hz (br_t rfl h)
theorem oy_way0 {post : Int32 → SY → Prop} {w : Int64} {f : Int32} {on st me nx : Nat → Int32} {m : Bool} {a b : Nat} (hR : cp_On w on) (ha : a < 64) (hb : b < 64) (h0 : cp_b w a = false ∨ cp_b w b = false) (h : post (-4) (f, on, st, me, nx)) : wpY_way post (f, on, st, me, nx) (cp_md m) (nI a) (nI b) := by
  unfold wpY_way; dsimp only
  refine cy_modeT m ?_
  refine br_f (c := (1 : Int32) = 0) (by decide) ?_
  refine cy_cellT ha ?_
  refine br_f (c := (1 : Int32) = 0) (by decide) ?_
  refine cy_cellT hb ?_
  refine br_f (c := (1 : Int32) = 0) (by decide) ⟨vp_in_nI ha (by decide), ?_⟩
  rw [nI_clamp (show a < 2 ^ 31 by omega), nI_clamp (show b < 2 ^ 31 by omega), hR a ha, hR b hb]
  refine cp_Ib (fun _ => h) (fun e => ⟨vp_in_nI hb (by decide), cp_Ib (fun _ => h) (fun e2 => ?_)⟩)
  rcases h0 with z | z
  · rw [z] at e; exact absurd e (by decide)
  · rw [z] at e2; exact absurd e2 (by decide)
theorem oy_way1 {post : Int32 → SY → Prop} {w : Int64} {f : Int32} {on st me nx : Nat → Int32} {m : Bool} {a b : Nat} (hR : cp_On w on) (ha : a < 64) (hb : b < 64) (h1 : cp_b w a = true) (h2 : cp_b w b = true) (hT : ∀ t, cp_b (cp_sp m w (cp_1 a) t) b = true → (∀ s, cp_b (cp_sp m w (cp_1 a) s) b = true → t ≤ s) → ∀ f' st' me', post (nI t) (f', on, st', me', nx)) (hN : (∀ s, cp_b (cp_sp m w (cp_1 a) s) b = false) → ∀ f' st' me', post (-4) (f', on, st', me', nx)) : wpY_way post (f, on, st, me, nx) (cp_md m) (nI a) (nI b) := by
  unfold wpY_way; dsimp only
  refine cy_modeT m ?_
  refine br_f (c := (1 : Int32) = 0) (by decide) ?_
  refine cy_cellT ha ?_
  refine br_f (c := (1 : Int32) = 0) (by decide) ?_
  refine cy_cellT hb ?_
  refine br_f (c := (1 : Int32) = 0) (by decide) ⟨vp_in_nI ha (by decide), ?_⟩
  rw [nI_clamp (show a < 2 ^ 31 by omega), nI_clamp (show b < 2 ^ 31 by omega), hR a ha, hR b hb, h1, h2]
  have vb := vp_in_nI (N := 64) hb (by decide)
  refine br_f (by decide) ⟨vb, br_f (by decide) (cy_walk ha (cp_WT hR ha h1) (fun n' st' me' hF => ⟨vb, ?_⟩))⟩
  obtain ⟨T, M, _, _, _, f4⟩ := hF
  obtain ⟨e1, e2, e3, e4, e5⟩ := f4 b hb
  dsimp only
  rw [e1]
  by_cases t : T b = 0
  · refine br_f (by rw [cp_st0 e2]; exact fun z => z t) (hN (fun s => cp_nb.mp (fun z => (e5 s z).1 t)) _ _ _)
  · refine br_t (by rw [cp_st0 e2]; exact t) ⟨vb, ?_⟩
    obtain ⟨t', ht⟩ : ∃ k, T b = k + 1 := ⟨T b - 1, by omega⟩
    rw [ht, nI_pred]
    have e4' := e4 t
    rw [ht, Nat.add_sub_cancel] at e4'
    exact hT t' e4' (fun s hs => by have := (e5 s hs).2; omega) _ _ _
theorem cp_grow1 (m : Bool) (W S : Int64) (k : Nat) : (∃ j, j < k ∧ cp_sp m W S (j + 1) = cp_sp m W S j) ∨ k + cp_ct (cp_b S) 64 ≤ cp_ct (cp_b (cp_sp m W S k)) 64 := by
  induction k with
  | zero => exact Or.inr (by rw [Nat.zero_add]; exact Nat.le_refl _)
  | succ k ih =>
    rcases ih with ⟨j, hj, e⟩ | h
    · exact Or.inl ⟨j, by omega, e⟩
    · by_cases e : cp_sp m W S (k + 1) = cp_sp m W S k
      · exact Or.inl ⟨k, by omega, e⟩
      · right
        have mono : ∀ c, c < 64 → cp_b (cp_sp m W S k) c = true → cp_b (cp_sp m W S (k + 1)) c = true := fun c _ hb => cp_sp_le m W S (Nat.le_succ k) hb
        have hd : ∃ d, d < 64 ∧ cp_b (cp_sp m W S k) d = false ∧ cp_b (cp_sp m W S (k + 1)) d = true := by
          refine Classical.byContradiction fun hn => e (cp_ext fun c hc => ?_)
          cases h1 : cp_b (cp_sp m W S k) c
          · cases h2 : cp_b (cp_sp m W S (k + 1)) c
            · rfl
            · exact absurd ⟨c, hc, h1, h2⟩ hn
          · exact mono c hc h1
        obtain ⟨d, hd, h1, h2⟩ := hd
        have := cp_ct_strict 64 mono hd h1 h2
        omega
theorem cp_way64 {m : Bool} {w : Int64} {a b t : Nat} (ha : a < 64) (h1 : cp_b (cp_sp m w (cp_1 a) t) b = true) (h2 : ∀ s, s < t → cp_b (cp_sp m w (cp_1 a) s) b = false) : t < 64 := by
  have c1 : cp_ct (cp_b (cp_1 a)) 64 ≠ 0 := fun z => by
    have := (cp_ct_0 64).mp z a ha
    rw [cp_one ha ha] at this; simp at this
  rcases cp_grow1 m w (cp_1 a) t with ⟨j, hj, e⟩ | g
  · have q := cp_stab m w (cp_1 a) e (t - j)
    rw [show j + (t - j) = t by omega] at q
    rw [q, h2 j hj] at h1; exact absurd h1 (by decide)
  · have := cp_ct_le (cp_b (cp_sp m w (cp_1 a) t)) 64
    omega
theorem i_vc_way {k : Nat} {u : SX} {v : SY} (I : i_Rel k u v) (hk : k + 4 ≤ 2048) (v1 : Int32) (v2 : Int32) (v3 : Int32) : wpX_way (fun r => wpY_way (fun r' v' => r' = r ∧ i_Rel (k + 4) u v') v v1 v2 v3) u v1 v2 v3 := by
  obtain ⟨f, on, st, me, nx⟩ := v
  have hR : cp_On u on := I
  rcases cp_mode v1 with bad | ⟨m, rfl⟩
  · exact ox_wayF bad (oy_wayF bad ⟨rfl, hR⟩)
  · rcases cp_cell v2 with bad | ⟨a, ha, rfl⟩
    · exact ox_wayA bad (oy_wayA bad ⟨rfl, hR⟩)
    · rcases cp_cell v3 with bad | ⟨b, hb, rfl⟩
      · exact ox_wayB ha bad (oy_wayB ha bad ⟨rfl, hR⟩)
      · cases h1 : cp_b u a
        · exact ox_way0 ha hb (Or.inl h1) (oy_way0 hR ha hb (Or.inl h1) ⟨rfl, hR⟩)
        · cases h2 : cp_b u b
          · exact ox_way0 ha hb (Or.inr h2) (oy_way0 hR ha hb (Or.inr h2) ⟨rfl, hR⟩)
          · refine ox_way1 ha hb h1 h2 ?_
            by_cases hx : ∃ s, cp_b (cp_sp m u (cp_1 a) s) b = true
            · obtain ⟨t, t1, t2⟩ := pk_least (fun s => cp_b (cp_sp m u (cp_1 a) s) b = true) hx
              have t2' : ∀ s, s < t → cp_b (cp_sp m u (cp_1 a) s) b = false := fun s hs => cp_nb.mp (t2 s hs)
              refine cx_wayT hb (cp_way64 ha t1 t2') t1 t2' (oy_way1 hR ha hb h1 h2 (fun t' q1 q2 f' st' me' => ⟨congrArg nI ?_, hR⟩) (fun q f' st' me' => absurd t1 (by rw [q t]; decide)))
              have l1 := q2 t t1
              rcases Nat.lt_or_ge t' t with g | g
              · exact absurd q1 (t2 t' g)
              · omega
            · have hn : ∀ s, cp_b (cp_sp m u (cp_1 a) s) b = false := fun s => cp_nb.mp (fun z => hx ⟨s, z⟩)
              exact cx_wayF hb hn (oy_way1 hR ha hb h1 h2 (fun t' q1 _ f' st' me' => absurd ⟨t', q1⟩ hx) (fun _ f' st' me' => ⟨rfl, hR⟩))
end
