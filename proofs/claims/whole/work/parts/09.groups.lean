/-! the reference's methods over groups -/
theorem cp_lst {G : Int64} {c : Nat} (h : cp_b G c = true) : ∃ l, cp_b G l = true ∧ ∀ d, d < l → cp_b G d = false := by
  obtain ⟨l, h1, h2⟩ := pk_least (fun k => cp_b G k = true) ⟨c, h⟩
  exact ⟨l, h1, fun d hd => cp_nb.mp (h2 d hd)⟩
theorem cp_lst_eq {G : Int64} {l c : Nat} (hc : cp_b G c = true) (hl : cp_b G l = true) (hm : ∀ d, d < l → cp_b G d = false) : l = c ↔ cp_ct (cp_b G) c = 0 := by
  rw [cp_ct_0]
  constructor
  · rintro rfl; exact hm
  · intro h
    rcases Nat.lt_trichotomy l c with g | g | g
    · rw [h l g] at hl; exact absurd hl (by decide)
    · exact g
    · rw [hm c g] at hc; exact absurd hc (by decide)
theorem cp_WT {w : Int64} {on : Nat → Int32} {a : Nat} (hR : cp_On w on) (ha : a < 64) (h : cp_b w a = true) : ∀ d, d < 64 → (on d = on a ↔ cp_b w d = true) := by
  intro d hd
  rw [hR d hd, hR a ha, cp_Ieq, h]
theorem cp_WF {w : Int64} {on : Nat → Int32} {a : Nat} (hR : cp_On w on) (ha : a < 64) (h : cp_b w a = false) : ∀ d, d < 64 → (on d = on a ↔ cp_b (cp_O w) d = true) := by
  intro d hd
  rw [hR d hd, hR a ha, cp_Ieq, h, cp_O, cp_not w hd]
  cases cp_b w d <;> simp
theorem cp_Ob (w : Int64) {c : Nat} (hc : c < 64) : cp_b (cp_O w) c = !cp_b w c := cp_not w hc
/-! pieces -/
theorem cy_pieces {post : Int32 → SY → Prop} {w : Int64} {f : Int32} {on st me nx : Nat → Int32} {m : Bool} (hR : cp_On w on) (h : ∀ f' st' me', post (nI (cp_ct (cp_ld m w) 64)) (f', on, st', me', nx)) : wpY_pieces post (f, on, st, me, nx) (cp_md m) := by
  unfold wpY_pieces; dsimp only
  refine cy_modeT m ?_
  refine br_f (c := (1 : Int32) = 0) (by decide) ?_
  refine loop_0 (fun n i (s : Int32 × Int32 × (Nat → Int32) × (Nat → Int32)) => wY_pieces_14 post (cp_md m) n s.1 (nI i) s.2.1 on s.2.2.1 s.2.2.2 nx) (fun i s => s.1 = nI (cp_ct (cp_ld m w) i)) 64 (0, f, st, me) rfl ?_ ?_
  · rintro n ⟨r, f, st, me⟩ hr
    dsimp only at hr ⊢
    subst hr
    exact br_t cp_64 (h f st me)
  · rintro n i ⟨r, f, st, me⟩ hi hr k
    dsimp only at hr ⊢
    subst hr
    refine br_f (nI_ge (b := 64) hi (by decide)) ⟨vp_in_nI hi (by decide), ?_⟩
    rw [nI_clamp (show i < 2 ^ 31 by omega), hR i hi]
    refine cp_Ib (fun e => ?_) (fun e => ?_)
    · exact nm_r (nI_1 i) (k (_, f, st, me) (congrArg nI (cp_ctF (by unfold cp_ld; rw [e]; rfl)).symm))
    · refine cy_walk hi (cp_WT hR hi e) (fun n' st' me' hF => ?_)
      obtain ⟨l, hl, hm⟩ := cp_lst (cp_C_r m w hi)
      have l64 := cp_lt hl
      have he := cp_lst_eq (cp_C_r m w hi) hl hm
      refine cy_least hF hl hm (pk_eq l i (fun g => ?_) (fun g => ?_))
      · exact nm_r (nI_1 _) (nm_r (nI_1 i) (k (_, _, st', me') (congrArg nI (cp_ctT (by unfold cp_ld; rw [e, he.mp g]; rfl)).symm)))
      · exact nm_r (nI_1 i) (k (_, _, st', me') (congrArg nI (cp_ctF (by unfold cp_ld; rw [e, decide_eq_false (fun z => g (he.mpr z))]; rfl)).symm))
/-! holes -/
theorem cp_Hb (m : Bool) (w : Int64) {c : Nat} (hc : c < 64) : cp_b (cp_H m w) c = true ↔ cp_b (cp_O w) c = true ∧ ∀ d, cp_b (cp_C (!m) (cp_O w) c) d = true → cp_rim d = false := by
  unfold cp_H
  rw [cp_and, Bool.and_eq_true, cp_not _ hc]
  refine and_congr_right fun ho => ?_
  constructor
  · intro hg d hd
    refine cp_nb.mp (fun hr => ?_)
    have hod := cp_C_w ho hd
    have hgd : cp_b (cp_G (!m) (cp_O w) (cp_O w &&& cp_RIM)) d = true := cp_G_0 _ _ _ (by rw [cp_and, hod, cp_Rim d (cp_lt hd), hr]; rfl)
    have hcd := cp_C_s ho hd
    have := cp_C_min (cp_lt hd) (fun e => cp_b (cp_G (!m) (cp_O w) (cp_O w &&& cp_RIM)) e = true) hgd (fun _ _ h1 h2 h3 => cp_G_cl _ _ _ h1 h2 h3) hcd
    rw [this] at hg; exact absurd hg (by decide)
  · intro h
    cases hg : cp_b (cp_G (!m) (cp_O w) (cp_O w &&& cp_RIM)) c
    · rfl
    · exfalso
      have := cp_G_min (fun e => cp_b (cp_O w) e = true ∧ ∃ d, cp_b (cp_C (!m) (cp_O w) e) d = true ∧ cp_rim d = true) (fun e he => ?_) (fun e d hd ha he => ?_) 64 c hg
      · obtain ⟨_, d, h1, h2⟩ := this
        rw [h d h1] at h2; exact absurd h2 (by decide)
      · have e64 := cp_lt he
        rw [cp_and, Bool.and_eq_true, cp_Rim e e64] at he
        exact ⟨he.1, e, cp_C_r _ _ e64, he.2⟩
      · obtain ⟨hod, x, h1, h2⟩ := hd
        refine ⟨he, x, cp_C_t (b := d) (cp_G_cl _ _ _ (cp_C_r _ _ (cp_lt he)) ?_ hod) h1, h2⟩
        rw [cp_ad_s]; exact ha
theorem cp_HC (m : Bool) (w : Int64) {c : Nat} (hh : cp_b (cp_H m w) c = true) : cp_C (!m) (cp_H m w) c = cp_C (!m) (cp_O w) c := by
  have hc := cp_lt hh
  obtain ⟨ho, hr⟩ := (cp_Hb m w hc).mp hh
  refine cp_ext fun d _ => cp_bi ⟨fun h => ?_, fun h => ?_⟩
  · exact cp_C_min hc (fun e => cp_b (cp_C (!m) (cp_O w) c) e = true) (cp_C_r _ _ hc) (fun e d hd ha he => cp_G_cl _ _ _ hd ha ((cp_Hb m w (cp_lt he)).mp he).1) h
  · refine (cp_C_min hc (fun e => cp_b (cp_C (!m) (cp_O w) c) e = true ∧ cp_b (cp_C (!m) (cp_H m w) c) e = true) ⟨cp_C_r _ _ hc, cp_C_r _ _ hc⟩ (fun e d hd ha he => ?_) h).2
    have h1 : cp_b (cp_C (!m) (cp_O w) c) e = true := cp_G_cl _ _ _ hd.1 ha he
    refine ⟨h1, cp_G_cl _ _ _ hd.2 ha ((cp_Hb m w (cp_lt he)).mpr ⟨he, ?_⟩)⟩
    rw [cp_C_eq ho h1]; exact hr
def cp_ins (G : Int64) : Bool := decide (cp_ct (fun d => cp_b G d && cp_rim d) 64 = 0)
theorem cp_insI (G : Int64) : cp_ins G = true ↔ ∀ d, cp_b G d = true → cp_rim d = false := by
  unfold cp_ins
  rw [decide_eq_true_eq, cp_ct_0]
  constructor
  · intro h d hd
    have := h d (cp_lt hd)
    rw [hd, Bool.true_and] at this; exact this
  · intro h d _
    cases e : cp_b G d
    · rfl
    · rw [h d e]; rfl
theorem cp_Hbb (m : Bool) (w : Int64) {c : Nat} (hc : c < 64) : cp_b (cp_H m w) c = (cp_b (cp_O w) c && cp_ins (cp_C (!m) (cp_O w) c)) := by
  refine cp_bi ?_
  rw [Bool.and_eq_true, cp_insI]; exact cp_Hb m w hc
theorem cp_ldH (m : Bool) (w : Int64) {c : Nat} (hc : c < 64) : cp_ld (!m) (cp_H m w) c = (cp_b (cp_O w) c && decide (cp_ct (cp_b (cp_C (!m) (cp_O w) c)) c = 0) && cp_ins (cp_C (!m) (cp_O w) c)) := by
  have hb := cp_Hbb m w hc
  unfold cp_ld
  cases e : cp_b (cp_H m w) c
  · rw [e] at hb
    rw [Bool.false_and]
    cases h1 : cp_b (cp_O w) c
    · rfl
    · rw [h1, Bool.true_and] at hb
      rw [← hb, Bool.and_false]
  · rw [cp_HC m w e]
    rw [e] at hb
    have := hb.symm
    rw [Bool.and_eq_true] at this
    rw [this.1, this.2, Bool.and_true]
theorem cy_holes {post : Int32 → SY → Prop} {w : Int64} {f : Int32} {on st me nx : Nat → Int32} {m : Bool} (hR : cp_On w on) (h : ∀ f' st' me', post (nI (cp_ct (cp_ld (!m) (cp_H m w)) 64)) (f', on, st', me', nx)) : wpY_holes post (f, on, st, me, nx) (cp_md m) := by
  unfold wpY_holes; dsimp only
  refine cy_modeT m ?_
  refine br_f (c := (1 : Int32) = 0) (by decide) ?_
  refine loop_0 (fun n i (s : Int32 × Int32 × (Nat → Int32) × (Nat → Int32)) => wY_holes_14 post (cp_md m) n s.1 (nI i) s.2.1 on s.2.2.1 s.2.2.2 nx) (fun i s => s.1 = nI (cp_ct (cp_ld (!m) (cp_H m w)) i)) 64 (0, f, st, me) rfl ?_ ?_
  · rintro n ⟨r, f, st, me⟩ hr
    dsimp only at hr ⊢
    subst hr
    exact br_t cp_64 (h f st me)
  · rintro n i ⟨r, f, st, me⟩ hi hr k
    dsimp only at hr ⊢
    subst hr
    have hld := cp_ldH m w hi
    refine br_f (nI_ge (b := 64) hi (by decide)) ⟨vp_in_nI hi (by decide), ?_⟩
    rw [nI_clamp (show i < 2 ^ 31 by omega), hR i hi, cp_md12]
    refine cp_Ib (fun e => ?_) (fun e => ?_)
    · have ho : cp_b (cp_O w) i = true := by rw [cp_Ob w hi, e]; rfl
      refine cy_walk hi (cp_WF hR hi e) (fun n' st' me' hF => ?_)
      obtain ⟨l, hl, hm⟩ := cp_lst (cp_C_r (!m) (cp_O w) hi)
      have l64 := cp_lt hl
      have he := cp_lst_eq (cp_C_r (!m) (cp_O w) hi) hl hm
      refine cy_least hF hl hm (pk_eq l i (fun g => ?_) (fun g => ?_))
      · refine cy_inside hF _ (cp_insI _) (cp_Ib (fun z => ?_) (fun z => ?_))
        · exact nm_r (nI_1 i) (k (_, _, st', me') (congrArg nI (cp_ctF (by rw [hld, z, Bool.and_false])).symm))
        · exact nm_r (nI_1 _) (nm_r (nI_1 i) (k (_, _, st', me') (congrArg nI (cp_ctT (by rw [hld, z, ho, he.mp g]; rfl)).symm)))
      · exact nm_r (nI_1 i) (k (_, _, st', me') (congrArg nI (cp_ctF (by rw [hld, decide_eq_false (fun z => g (he.mpr z)), Bool.and_false, Bool.false_and])).symm))
    · have ho : cp_b (cp_O w) i = false := by rw [cp_Ob w hi, e]; rfl
      exact nm_r (nI_1 i) (k (_, f, st, me) (congrArg nI (cp_ctF (by rw [hld, ho]; rfl)).symm))
/-! largest -/
theorem cp_F_n {m : Bool} {W : Int64} {a n : Nat} {st me : Nat → Int32} (h : cp_F m W a n st me) : n = cp_ct (cp_b (cp_C m W a)) 64 := by
  obtain ⟨T, M, f1, _⟩ := h; exact f1
theorem cy_largest {post : Int32 → SY → Prop} {w : Int64} {f : Int32} {on st me nx : Nat → Int32} {m : Bool} (hR : cp_On w on) (h : ∀ f' st' me', post (nI (cp_mx m w 64)) (f', on, st', me', nx)) : wpY_largest post (f, on, st, me, nx) (cp_md m) := by
  unfold wpY_largest; dsimp only
  refine cy_modeT m ?_
  refine br_f (c := (1 : Int32) = 0) (by decide) ?_
  refine loop_0 (fun n i (s : Int32 × Int32 × (Nat → Int32) × (Nat → Int32)) => wY_largest_14 post (cp_md m) n s.1 (nI i) s.2.1 on s.2.2.1 s.2.2.2 nx) (fun i s => s.1 = nI (cp_mx m w i)) 64 (0, f, st, me) rfl ?_ ?_
  · rintro n ⟨r, f, st, me⟩ hr
    dsimp only at hr ⊢
    subst hr
    exact br_t cp_64 (h f st me)
  · rintro n i ⟨r, f, st, me⟩ hi hr k
    dsimp only at hr ⊢
    subst hr
    have l1 := cp_mx_le m w i
    have l2 := cp_ct_le (cp_b (cp_C m w i)) 64
    refine br_f (nI_ge (b := 64) hi (by decide)) ⟨vp_in_nI hi (by decide), ?_⟩
    rw [nI_clamp (show i < 2 ^ 31 by omega), hR i hi]
    refine cp_Ib (fun e => ?_) (fun e => ?_)
    · exact nm_r (nI_1 i) (k (_, f, st, me) (congrArg nI (by rw [cp_mx, e]; rfl)))
    · refine cy_walk hi (cp_WT hR hi e) (fun n' st' me' hF => ?_)
      have hn := cp_F_n hF
      subst hn
      refine pk_le (cp_ct (cp_b (cp_C m w i)) 64) (cp_mx m w i) (fun g => ?_) (fun g => ?_)
      · exact nm_r (nI_1 i) (k (_, _, st', me') (congrArg nI (by rw [cp_mx, if_pos e, if_pos g])))
      · exact nm_r (nI_1 i) (k (_, _, st', me') (congrArg nI (by rw [cp_mx, if_pos e, if_neg (by omega)])))
/-! the new picture, cell by cell -/
def cp_Nx (w' : Int64) (i : Nat) (s : Nat → Int32) : Prop := ∀ c, c < i → s c = cp_I (cp_b w' c)
theorem cp_Nxs {w' : Int64} {i : Nat} {s : Nat → Int32} {x : Int32} (h : cp_Nx w' i s) (hx : x = cp_I (cp_b w' i)) : cp_Nx w' (i + 1) (upd s i x) := by
  intro c hc
  by_cases e : c = i
  · subst e; rw [pk_us, hx]
  · rw [pk_un e]; exact h c (by omega)
theorem cp_Nxs2 {w' : Int64} {i : Nat} {s : Nat → Int32} {x y : Int32} (h : cp_Nx w' i s) (hx : x = cp_I (cp_b w' i)) : cp_Nx w' (i + 1) (upd (upd s i y) i x) := by
  intro c hc
  by_cases e : c = i
  · subst e; rw [pk_us, hx]
  · rw [pk_un e, pk_un e]; exact h c (by omega)
theorem cy_grow {post : Int32 → SY → Prop} {w w' : Int64} {f : Int32} {on st me nx : Nat → Int32} {m : Bool} (hR : cp_On w on) (hw : w' = w ||| cp_nr m w) (h : ∀ on' nx', cp_On w' on' → post (nI (cp_ct (cp_b (w ^^^ w')) 64)) (f, on', st, me, nx')) : wpY_grow post (f, on, st, me, nx) (cp_md m) := by
  unfold wpY_grow; dsimp only
  refine cy_modeT m ?_
  refine br_f (c := (1 : Int32) = 0) (by decide) ?_
  refine loop_0 (fun n i s => wY_grow_12 post (cp_md m) f n (nI i) on st me s) (fun i s => cp_Nx w' i s) 64 nx (fun c hc => absurd hc (by omega)) ?_ ?_
  · intro n s hs
    exact br_t cp_64 (cy_take hR hs (fun on' h' => h on' s h'))
  · intro n i s hi hs k
    have vi := vp_in_nI (N := 64) hi (by decide)
    have cl : (nI i).toNatClampNeg = i := nI_clamp (by omega)
    have hb : cp_b w' i = (cp_b w i || cp_b (cp_nr m w) i) := by rw [hw, cp_or]
    refine br_f (nI_ge (b := 64) hi (by decide)) ⟨vi, ?_⟩
    rw [cl, hR i hi]
    refine cp_Ib (fun e => cy_hasNear hR (wd := true) hi (cp_hn m w hi).symm (cp_Ib (fun z => ⟨vi, ?_⟩) (fun z => ⟨vi, ?_⟩))) (fun e => ⟨vi, ?_⟩)
    · rw [cp_nar0]; exact nm_e (nm_r (nI_1 i) (k _ (cp_Nxs hs (by rw [hb, e, z]; rfl))))
    · rw [cp_nar1]; exact nm_e (nm_r (nI_1 i) (k _ (cp_Nxs hs (by rw [hb, e, z]; rfl))))
    · rw [cp_nar1]; exact nm_e (nm_r (nI_1 i) (k _ (cp_Nxs hs (by rw [hb, e, Bool.true_or]))))
theorem cy_shrink {post : Int32 → SY → Prop} {w w' : Int64} {f : Int32} {on st me nx : Nat → Int32} {m : Bool} (hR : cp_On w on) (hw : w' = cp_sh m w) (h : ∀ on' nx', cp_On w' on' → post (nI (cp_ct (cp_b (w ^^^ w')) 64)) (f, on', st, me, nx')) : wpY_shrink post (f, on, st, me, nx) (cp_md m) := by
  unfold wpY_shrink; dsimp only
  refine cy_modeT m ?_
  refine br_f (c := (1 : Int32) = 0) (by decide) ?_
  refine loop_0 (fun n i s => wY_shrink_12 post (cp_md m) f n (nI i) on st me s) (fun i s => cp_Nx w' i s) 64 nx (fun c hc => absurd hc (by omega)) ?_ ?_
  · intro n s hs
    exact br_t cp_64 (cy_take hR hs (fun on' h' => h on' s h'))
  · intro n i s hi hs k
    have vi := vp_in_nI (N := 64) hi (by decide)
    have cl : (nI i).toNatClampNeg = i := nI_clamp (by omega)
    have hb : cp_b w' i = (cp_b w i && !(cp_b (cp_nr m (w ^^^ (-1))) i || cp_rim i)) := by rw [hw, cp_sh, cp_and, cp_not _ hi, cp_or, cp_Rim i hi]
    refine br_f (nI_ge (b := 64) hi (by decide)) ⟨vi, ?_⟩
    rw [cl, hR i hi]
    refine cp_Ib (fun e => ⟨vi, ?_⟩) (fun e => cy_hasNear hR (wd := false) (b := cp_b (cp_nr m (w ^^^ (-1))) i || cp_rim i) hi (by rw [Bool.or_eq_true]; exact (cp_hnF m w hi).symm) (cp_Ib (fun z => ⟨vi, ?_⟩) (fun z => ⟨vi, ?_⟩)))
    · rw [cp_nar0]; exact nm_e (nm_r (nI_1 i) (k _ (cp_Nxs hs (by rw [hb, e]; rfl))))
    · rw [cp_nar1]; exact nm_e (nm_r (nI_1 i) (k _ (cp_Nxs hs (by rw [hb, e, z]; rfl))))
    · rw [cp_nar0]; exact nm_e (nm_r (nI_1 i) (k _ (cp_Nxs hs (by rw [hb, e, z]; rfl))))
theorem cy_fill {post : Int32 → SY → Prop} {w w' : Int64} {f : Int32} {on st me nx : Nat → Int32} {m : Bool} (hR : cp_On w on) (hw : w' = w ||| cp_H m w) (h : ∀ f' on' st' me' nx', cp_On w' on' → post (nI (cp_ct (cp_b (w ^^^ w')) 64)) (f', on', st', me', nx')) : wpY_fill post (f, on, st, me, nx) (cp_md m) := by
  unfold wpY_fill; dsimp only
  refine cy_modeT m ?_
  refine br_f (c := (1 : Int32) = 0) (by decide) ?_
  refine loop_0 (fun n i (s : Int32 × (Nat → Int32) × (Nat → Int32) × (Nat → Int32)) => wY_fill_12 post (cp_md m) n (nI i) s.1 on s.2.1 s.2.2.1 s.2.2.2) (fun i s => cp_Nx w' i s.2.2.2) 64 (f, st, me, nx) (fun c hc => absurd hc (by omega)) ?_ ?_
  · rintro n ⟨f, st, me, nx⟩ hs
    exact br_t cp_64 (cy_take hR hs (fun on' h' => h f on' st me nx h'))
  · rintro n i ⟨f, st, me, nx⟩ hi hs k
    dsimp only at hs ⊢
    have vi := vp_in_nI (N := 64) hi (by decide)
    have cl : (nI i).toNatClampNeg = i := nI_clamp (by omega)
    have hb : cp_b w' i = (cp_b w i || (cp_b (cp_O w) i && cp_ins (cp_C (!m) (cp_O w) i))) := by rw [hw, cp_or, cp_Hbb m w hi]
    refine br_f (nI_ge (b := 64) hi (by decide)) ⟨vi, vi, ?_⟩
    rw [cl, hR i hi, cp_Inar, cp_md12]
    refine nm_e ⟨vi, cp_Ib (fun e => ?_) (fun e => ?_)⟩
    · have ho : cp_b (cp_O w) i = true := by rw [cp_Ob w hi, e]; rfl
      refine cy_walk hi (cp_WF hR hi e) (fun n' st' me' hF => ?_)
      refine cy_inside hF _ (cp_insI _) ⟨vi, ?_⟩
      rw [cp_Inar]
      exact nm_e (nm_r (nI_1 i) (k (_, st', me', _) (cp_Nxs2 hs (by rw [hb, e, ho]; rfl))))
    · exact nm_r (nI_1 i) (k (f, st, me, _) (cp_Nxs hs (by rw [hb, e]; rfl)))
theorem cy_clear {post : Int32 → SY → Prop} {w w' : Int64} {f : Int32} {on st me nx : Nat → Int32} {m : Bool} {q : Nat} (hq : q ≤ 64) (hR : cp_On w on) (hw : ∀ d, d < 64 → cp_b w' d = (cp_b w d && decide (q ≤ cp_ct (cp_b (cp_C m w d)) 64))) (h : ∀ f' on' st' me' nx', cp_On w' on' → post (nI (cp_ct (cp_b (w ^^^ w')) 64)) (f', on', st', me', nx')) : ∃ n, wY_clear_22 post (cp_md m) (nI q) n 0 f on st me nx := by
  refine loop_0 (fun n i (s : Int32 × (Nat → Int32) × (Nat → Int32) × (Nat → Int32)) => wY_clear_22 post (cp_md m) (nI q) n (nI i) s.1 on s.2.1 s.2.2.1 s.2.2.2) (fun i s => cp_Nx w' i s.2.2.2) 64 (f, st, me, nx) (fun c hc => absurd hc (by omega)) ?_ ?_
  · rintro n ⟨f, st, me, nx⟩ hs
    exact br_t cp_64 (cy_take hR hs (fun on' h' => h f on' st me nx h'))
  · rintro n i ⟨f, st, me, nx⟩ hi hs k
    dsimp only at hs ⊢
    have vi := vp_in_nI (N := 64) hi (by decide)
    have cl : (nI i).toNatClampNeg = i := nI_clamp (by omega)
    have hb := hw i hi
    have l2 := cp_ct_le (cp_b (cp_C m w i)) 64
    refine br_f (nI_ge (b := 64) hi (by decide)) ⟨vi, ?_⟩
    rw [cl, cp_nar0, cp_nar1, hR i hi]
    refine nm_e ⟨vi, cp_Ib (fun e => ?_) (fun e => ?_)⟩
    · exact nm_r (nI_1 i) (k (f, st, me, _) (cp_Nxs hs (by rw [hb, e]; rfl)))
    · refine cy_walk hi (cp_WT hR hi e) (fun n' st' me' hF => ?_)
      have hn := cp_F_n hF
      subst hn
      refine pk_lt (cp_ct (cp_b (cp_C m w i)) 64) q (fun g => ⟨vi, ?_⟩) (fun g => ⟨vi, ?_⟩)
      · exact nm_e (nm_r (nI_1 i) (k (_, st', me', _) (cp_Nxs2 hs (by rw [hb, e, decide_eq_false (by omega)]; rfl))))
      · exact nm_e (nm_r (nI_1 i) (k (_, st', me', _) (cp_Nxs2 hs (by rw [hb, e, decide_eq_true g]; rfl))))
