/-! bits of a long, the answers 0 and 1, the modes -/
def cp_b (w : Int64) (c : Nat) : Bool := w.toBitVec.getLsbD c
def cp_I (b : Bool) : Int32 := if b then 1 else 0
def cp_md (m : Bool) : Int32 := if m then 8 else 4
theorem cp_big {w : Int64} {c : Nat} (h : 64 ≤ c) : cp_b w c = false := BitVec.getLsbD_of_ge _ _ h
theorem cp_lt {w : Int64} {c : Nat} (h : cp_b w c = true) : c < 64 := by
  rcases Nat.lt_or_ge c 64 with g | g
  · exact g
  · rw [cp_big g] at h; exact absurd h (by decide)
theorem cp_ext {x y : Int64} (h : ∀ c, c < 64 → cp_b x c = cp_b y c) : x = y := Int64.toBitVec_inj.mp (BitVec.eq_of_getLsbD_eq (fun i hi => h i hi))
theorem cp_or (x y : Int64) (c : Nat) : cp_b (x ||| y) c = (cp_b x c || cp_b y c) := by unfold cp_b; rw [Int64.toBitVec_or, BitVec.getLsbD_or]
theorem cp_and (x y : Int64) (c : Nat) : cp_b (x &&& y) c = (cp_b x c && cp_b y c) := by unfold cp_b; rw [Int64.toBitVec_and, BitVec.getLsbD_and]
theorem cp_xor (x y : Int64) (c : Nat) : cp_b (x ^^^ y) c = (cp_b x c ^^ cp_b y c) := by unfold cp_b; rw [Int64.toBitVec_xor, BitVec.getLsbD_xor]
theorem cp_m1 : ∀ c, c < 64 → cp_b (-1) c = true := by decide +kernel
theorem cp_not (x : Int64) {c : Nat} (h : c < 64) : cp_b (x ^^^ (-1)) c = !cp_b x c := by rw [cp_xor, cp_m1 c h]; cases cp_b x c <;> rfl
theorem cp_0 (c : Nat) : cp_b 0 c = false := BitVec.getLsbD_zero
theorem cp_shl (x : Int64) {k c : Nat} (hk : k < 64) (hc : c < 64) : cp_b (x <<< ((nI k).toInt64 &&& 63)) c = (decide (k ≤ c) && cp_b x (c - k)) := by
  unfold cp_b
  rw [wb_c k hk, Int64.toBitVec_shiftLeft, wb_tb, wb_sm k hk, BitVec.shiftLeft_eq', BitVec.getLsbD_shiftLeft, BitVec.toNat_ofNat, Nat.mod_eq_of_lt (show k < 2 ^ 64 by omega)]
  rcases Nat.lt_or_ge c k with h | h
  · simp [h, Nat.not_le.mpr h]
  · simp [hc, h, Nat.not_lt.mpr h]
theorem cp_shr (x : Int64) {k : Nat} (c : Nat) (hk : k < 64) : cp_b ((x.toUInt64 >>> ((nI k).toInt64.toUInt64 &&& Int64.toUInt64 63)).toInt64) c = cp_b x (k + c) := by
  rw [wb_cu k hk]
  have h1 : (UInt64.ofNat k).toNat = k := by
    show (BitVec.ofNat 64 k).toNat = k
    rw [BitVec.toNat_ofNat, Nat.mod_eq_of_lt (by omega)]
  have e : (x.toUInt64 >>> UInt64.ofNat k).toInt64.toBitVec = x.toBitVec >>> k := by
    apply BitVec.eq_of_toNat_eq
    show (x.toUInt64 >>> UInt64.ofNat k).toNat = _
    rw [UInt64.toNat_shiftRight, h1, Nat.mod_eq_of_lt hk, BitVec.toNat_ushiftRight]
    rfl
  unfold cp_b
  rw [e, BitVec.getLsbD_ushiftRight]
def cp_1 (k : Nat) : Int64 := (1 : Int64) <<< ((nI k).toInt64 &&& 63)
theorem cp_one0 : ∀ c, c < 64 → cp_b 1 c = decide (c = 0) := by decide +kernel
theorem cp_one {k c : Nat} (hk : k < 64) (hc : c < 64) : cp_b (cp_1 k) c = decide (c = k) := by
  rw [cp_1, cp_shl 1 hk hc, cp_one0 _ (by omega)]
  by_cases h : c = k
  · subst h; simp
  · by_cases h2 : k ≤ c
    · simp [h, h2]; omega
    · simp [h, h2]
theorem cp_has {w : Int64} {k : Nat} (hk : k < 64) : (((w.toUInt64 >>> ((nI k).toInt64.toUInt64 &&& Int64.toUInt64 63)).toInt64) &&& 1) = 0 ↔ cp_b w k = false := by
  refine ts_bit hk ?_
  rw [wb_cu k hk]
  show (BitVec.ofNat 64 k).toNat = k
  rw [BitVec.toNat_ofNat, Nat.mod_eq_of_lt (by omega)]
theorem cp_Ib {b : Bool} {A B : Prop} (h0 : b = false → A) (h1 : b = true → B) : (cp_I b = 0 → A) ∧ (¬ cp_I b = 0 → B) := by
  cases b
  · exact br_t rfl (h0 rfl)
  · exact br_f (by decide) (h1 rfl)
theorem cp_I0 {b : Bool} : cp_I b = 0 ↔ b = false := by cases b <;> decide
theorem cp_Ieq {a b : Bool} : cp_I a = cp_I b ↔ a = b := by cases a <;> cases b <;> decide
theorem cp_Inar (b : Bool) : vp_nar .boolean (cp_I b) = cp_I b := by cases b <;> decide
theorem cp_nar0 : vp_nar .boolean 0 = cp_I false := by decide
theorem cp_nar1 : vp_nar .boolean 1 = cp_I true := by decide
theorem cp_md8 {m : Bool} {A B : Prop} (h1 : m = true → A) (h0 : m = false → B) : (cp_md m = 8 → A) ∧ (¬ cp_md m = 8 → B) := by
  cases m
  · exact br_f (by decide) (h0 rfl)
  · exact br_t rfl (h1 rfl)
theorem cp_md12 (m : Bool) : 12 - cp_md m = cp_md (!m) := by cases m <;> decide
def cp_rim (c : Nat) : Bool := decide (c % 8 = 0 ∨ c % 8 = 7 ∨ c / 8 = 0 ∨ c / 8 = 7)
def cp_RIM : Int64 := -35604928818740737
theorem cp_Rim : ∀ c, c < 64 → cp_b cp_RIM c = cp_rim c := by decide +kernel
theorem cp_lm : ∀ c, c < 64 → cp_b (-72340172838076674) c = decide (c % 8 ≠ 0) := by decide +kernel
theorem cp_rm : ∀ c, c < 64 → cp_b 9187201950435737471 c = decide (c % 8 ≠ 7) := by decide +kernel
theorem cp_bi {a b : Bool} (h : a = true ↔ b = true) : a = b := by cases a <;> cases b <;> simp_all
theorem cp_nb {b : Bool} : ¬ b = true ↔ b = false := by cases b <;> simp

/-! counting -/
def cp_ct (P : Nat → Bool) : Nat → Nat
  | 0 => 0
  | n + 1 => cp_ct P n + (P n).toNat
theorem cp_ctT {P : Nat → Bool} {n : Nat} (h : P n = true) : cp_ct P (n + 1) = cp_ct P n + 1 := by rw [cp_ct, h]; rfl
theorem cp_ctF {P : Nat → Bool} {n : Nat} (h : P n = false) : cp_ct P (n + 1) = cp_ct P n := by rw [cp_ct, h]; rfl
theorem cp_tn (b : Bool) : b.toNat ≤ 1 := by cases b <;> decide
theorem cp_ct_le (P : Nat → Bool) (n : Nat) : cp_ct P n ≤ n := by
  induction n with
  | zero => exact Nat.le_refl _
  | succ n ih => have := cp_tn (P n); rw [cp_ct]; omega
theorem cp_ct_congr {P Q : Nat → Bool} (n : Nat) (h : ∀ c, c < n → P c = Q c) : cp_ct P n = cp_ct Q n := by
  induction n with
  | zero => rfl
  | succ n ih => rw [cp_ct, cp_ct, ih (fun c hc => h c (by omega)), h n (by omega)]
theorem cp_ct_mono {P Q : Nat → Bool} (n : Nat) (h : ∀ c, c < n → P c = true → Q c = true) : cp_ct P n ≤ cp_ct Q n := by
  induction n with
  | zero => exact Nat.le_refl _
  | succ n ih =>
    have i := ih (fun c hc => h c (by omega))
    have j := h n (by omega)
    rw [cp_ct, cp_ct]
    cases hP : P n
    · simp; omega
    · rw [j hP]; omega
theorem cp_ct_strict {P Q : Nat → Bool} (n : Nat) (h : ∀ c, c < n → P c = true → Q c = true) {d : Nat} (hd : d < n) (h1 : P d = false) (h2 : Q d = true) : cp_ct P n < cp_ct Q n := by
  induction n with
  | zero => omega
  | succ n ih =>
    by_cases e : d = n
    · subst e
      have i := cp_ct_mono d (fun c hc => h c (by omega))
      rw [cp_ct, cp_ct, h1, h2]; simp; omega
    · have i := ih (fun c hc => h c (by omega)) (by omega)
      have j := h n (by omega)
      rw [cp_ct, cp_ct]
      cases hP : P n
      · simp; omega
      · rw [j hP]; omega
theorem cp_ct_0 {P : Nat → Bool} (n : Nat) : cp_ct P n = 0 ↔ ∀ c, c < n → P c = false := by
  induction n with
  | zero => exact ⟨fun _ c hc => absurd hc (by omega), fun _ => rfl⟩
  | succ n ih =>
    rw [cp_ct]
    constructor
    · intro h c hc
      have h1 : cp_ct P n = 0 := by omega
      by_cases e : c = n
      · subst e; cases hP : P c
        · rfl
        · rw [hP] at h; simp at h
      · exact ih.mp h1 c (by omega)
    · intro h
      rw [ih.mpr (fun c hc => h c (by omega)), h n (by omega)]; rfl
theorem cp_ct_upd {P Q : Nat → Bool} (n : Nat) {d : Nat} (hd : d < n) (h1 : P d = false) (h2 : Q d = true) (h : ∀ c, c < n → c ≠ d → Q c = P c) : cp_ct Q n = cp_ct P n + 1 := by
  induction n with
  | zero => omega
  | succ n ih =>
    rw [cp_ct, cp_ct]
    by_cases e : d = n
    · subst e
      rw [h1, h2, cp_ct_congr d (fun c hc => h c (by omega) (by omega))]; rfl
    · rw [ih (by omega) (fun c hc hn => h c (by omega) hn), h n (by omega) (by omega)]; omega
theorem cp_ct_skip {P : Nat → Bool} {a b : Nat} (hab : a ≤ b) (h : ∀ c, a ≤ c → c < b → P c = false) : cp_ct P b = cp_ct P a := by
  induction b with
  | zero => rw [show a = 0 by omega]
  | succ b ih =>
    by_cases e : a = b + 1
    · rw [e]
    · rw [cp_ctF (h b (by omega) (by omega)), ih (by omega) (fun c h1 h2 => h c h1 (by omega))]
