/-! the relation -/
def dk_R (g bd : Nat) (gl gr nl : Nat → Int32) : Prop := g ≤ 10 ∧ bd < 2 * (6 + g) ∧ (∀ j, j < g → (∃ a, a < 2 * (6 + j) ∧ gl (6 + j) = nI a) ∧ (∃ a, a < 2 * (6 + j) ∧ gr (6 + j) = nI a)) ∧ (∀ l, 1 ≤ l → l < 5 → ∃ a, a < 2 * (6 + g) ∧ nl l = nI a)
/-- the reference's circuit is the class's: the gates shifted by six, the rest one and the same; tables and scratch arrays are free -/
def i_Rel (_ : Nat) (u : SX) (v : SY) : Prop := ∃ (g bd : Nat) (gl gr nl bg sa ba sg st ip : Nat → Int32), u = (nI (6 + g), nI bd, gl, gr, nl, bg, sa, ba) ∧ v = (nI g, nI bd, (fun j => gl (6 + j)), (fun j => gr (6 + j)), nl, bg, sg, st, ip) ∧ dk_R g bd gl gr nl
theorem i_up {k : Nat} {u : SX} {v : SY} (h : i_Rel k u v) : i_Rel (k + 4) u v := h
theorem dk_rel {k g bd : Nat} {gl gr nl bg sa ba sg st ip : Nat → Int32} (h : dk_R g bd gl gr nl) : i_Rel k (nI (6 + g), nI bd, gl, gr, nl, bg, sa, ba) (nI g, nI bd, (fun j => gl (6 + j)), (fun j => gr (6 + j)), nl, bg, sg, st, ip) :=
  ⟨g, bd, gl, gr, nl, bg, sa, ba, sg, st, ip, rfl, rfl, h⟩
theorem dk_cl {x : Int32} {n : Nat} (hn : n < 2 ^ 31) (h : ∃ a, a < n ∧ x = nI a) : x.toNatClampNeg < n ∧ x = nI x.toNatClampNeg := by
  obtain ⟨a, ha, rfl⟩ := h
  rw [nI_clamp (by omega)]
  exact ⟨ha, rfl⟩
theorem dk_RH {g bd : Nat} {gl gr nl : Nat → Int32} (h : dk_R g bd gl gr nl) : ∃ L R N : Nat → Nat, dk_H g (fun j => gl (6 + j)) (fun j => gr (6 + j)) L R ∧ dk_HN g bd nl N := by
  obtain ⟨h1, h2, h3, h4⟩ := h
  refine ⟨fun j => (gl (6 + j)).toNatClampNeg, fun j => (gr (6 + j)).toNatClampNeg, fun l => (nl l).toNatClampNeg, ⟨h1, fun j hj => ⟨dk_cl (by omega) (h3 j hj).1, dk_cl (by omega) (h3 j hj).2⟩⟩, h2, fun l hl hl5 => dk_cl (by omega) (h4 l hl hl5)⟩
theorem dk_go {g bd : Nat} {gl gr nl : Nat → Int32} (h : dk_R g bd gl gr nl) : ∃ (B : Nat → Nat → Bool) (T : Nat → Nat → Nat),
    (∀ (post : SX → Prop) (bg sa ba : Nat → Int32), (∀ sa ba : Nat → Int32, dk_HX sa ba B T → post (nI (6 + g), nI bd, gl, gr, nl, bg, sa, ba)) → wpX_tabulateCircuit post (nI (6 + g), nI bd, gl, gr, nl, bg, sa, ba)) ∧
    ∀ bg : Nat → Int32, dk_HY g bd (fun j => gl (6 + j)) (fun j => gr (6 + j)) nl bg B T := by
  obtain ⟨L, R, N, hg, hN⟩ := dk_RH h
  refine ⟨dk_B g bd L R, dk_T g L R N, ?_, ?_⟩
  · intro post bg sa ba hp
    exact dk_tabX hg hN (fun sa ba hT => hp sa ba (dk_HTX (dk_Tlt g L R N) hT))
  · intro bg
    exact ⟨dk_Tlt g L R N, fun post sg st ip s x hs hx hp => dk_badY hg hN hs hx hp, fun post sg st ip s x hs hx hp => dk_stepY hg hN hs hx hp⟩
/-! a new object -/
theorem dk_u0 (k : Nat) : upd (fun _ => 0) k 0 = fun _ => 0 := funext (fun j => ite_self (c := j = k) 0)
theorem dk_R0 : dk_R 0 0 (fun _ => 0) (fun _ => 0) (upd (upd (upd (upd (fun _ => 0) (1 : Int32).toNatClampNeg (2 * 1)) (2 : Int32).toNatClampNeg (2 * 2)) (3 : Int32).toNatClampNeg (2 * 3)) (4 : Int32).toNatClampNeg (2 * 4)) := by
  refine ⟨by decide, by decide, fun j hj => absurd hj (by omega), ?_⟩
  intro l h1 h5
  have h : l = 1 ∨ l = 2 ∨ l = 3 ∨ l = 4 := by omega
  rcases h with rfl | rfl | rfl | rfl
  · exact ⟨2, by decide, by decide +kernel⟩
  · exact ⟨4, by decide, by decide +kernel⟩
  · exact ⟨6, by decide, by decide +kernel⟩
  · exact ⟨8, by decide, by decide +kernel⟩
theorem dk_i1 : (1 : Int32) + 1 = 2 := by decide
theorem dk_i2 : (2 : Int32) + 1 = 3 := by decide
theorem dk_i3 : (3 : Int32) + 1 = 4 := by decide
theorem dk_i4 : (4 : Int32) + 1 = 5 := by decide
theorem i_vc0 : wpX_init (fun u => wpY_init (fun v => i_Rel 0 u v)) := by
  have x1 : vp_in 1 6 := vp_in_iff.mpr (by decide)
  have x2 : vp_in 2 6 := vp_in_iff.mpr (by decide)
  have x3 : vp_in 3 6 := vp_in_iff.mpr (by decide)
  have x4 : vp_in 4 6 := vp_in_iff.mpr (by decide)
  have y1 : vp_in 1 5 := vp_in_iff.mpr (by decide)
  have y2 : vp_in 2 5 := vp_in_iff.mpr (by decide)
  have y3 : vp_in 3 5 := vp_in_iff.mpr (by decide)
  have y4 : vp_in 4 5 := vp_in_iff.mpr (by decide)
  refine Exists.intro 5 (br_f (by decide) ⟨x1, nm_e ⟨x1, nm_r (dk_u0 _) (nm_r dk_i1 ?_)⟩⟩)
  refine br_f (by decide) ⟨x2, nm_e ⟨x2, nm_r (dk_u0 _) (nm_r dk_i2 ?_)⟩⟩
  refine br_f (by decide) ⟨x3, nm_e ⟨x3, nm_r (dk_u0 _) (nm_r dk_i3 ?_)⟩⟩
  refine br_f (by decide) ⟨x4, nm_e ⟨x4, nm_r (dk_u0 _) (nm_r dk_i4 ?_)⟩⟩
  refine br_t (by decide) ?_
  refine Exists.intro 5 (br_f (by decide) ⟨y1, nm_e (nm_r dk_i1 ?_)⟩)
  refine br_f (by decide) ⟨y2, nm_e (nm_r dk_i2 ?_)⟩
  refine br_f (by decide) ⟨y3, nm_e (nm_r dk_i3 ?_)⟩
  refine br_f (by decide) ⟨y4, nm_e (nm_r dk_i4 ?_)⟩
  exact br_t (by decide) (dk_rel dk_R0)
/-! arguments -/
theorem dk_ge0 {x : Int32} {n : Nat} (hn : n < 2 ^ 31) (h : nI n ≤ x) : ¬ x < 0 := by
  have h0 := nI_pos' hn
  exact Int32.not_lt.mpr (Int32.le_trans h0 h)
theorem dk_lit {g bd : Nat} {gl gr nl bg sa ba fs ss sg st ip : Nat → Int32} (hg : g ≤ 10) (v : Int32) :
    (∃ a, a < 2 * (6 + g) ∧ v = nI a ∧ (∀ post : Int32 → Prop, post 1 → wpX_isLiteral post (nI (6 + g), nI bd, gl, gr, nl, bg, sa, ba) v) ∧ (∀ post : Int32 → Prop, post 0 → wpY_refused post (nI g, nI bd, fs, ss, nl, bg, sg, st, ip) v)) ∨
    ((∀ post : Int32 → Prop, post 0 → wpX_isLiteral post (nI (6 + g), nI bd, gl, gr, nl, bg, sa, ba) v) ∧ (∀ post : Int32 → Prop, post 1 → wpY_refused post (nI g, nI bd, fs, ss, nl, bg, sg, st, ip) v)) := by
  have eX : 2 * nI (6 + g) = nI (2 * (6 + g)) := pk_mul 2 (6 + g)
  have eY : 2 * (6 + nI g) = nI (2 * (6 + g)) := (congrArg (2 * ·) (nI_add 6 g)).trans eX
  rcases pk_ix v (n := 2 * (6 + g)) (by omega) with h | h | ⟨a, ha, rfl⟩
  · exact Or.inr ⟨fun post hp => br_t h hp, fun post hp => br_t h hp⟩
  · have h0 := dk_ge0 (by omega) h
    refine Or.inr ⟨fun post hp => br_f h0 (br_t (by rw [eX]; exact h) hp), fun post hp => br_f h0 (br_f (by rw [eY]; exact Int32.not_lt.mpr h) hp)⟩
  · have h0 := nI_pos (n := a) (by omega)
    refine Or.inl ⟨a, ha, rfl, fun post hp => br_f h0 (br_f (by rw [eX]; exact nI_ge ha (by omega)) hp), fun post hp => br_f h0 (br_t (by rw [eY]; exact nI_lt ha (by omega)) hp)⟩
theorem dk_latch (v : Int32) :
    (∃ l, 1 ≤ l ∧ l < 5 ∧ v = nI l ∧ (∀ post : Int32 → Prop, post 1 → wpX_isLatch post v) ∧ (∀ post : Int32 → Prop, post 0 → wpY_badLatch post v)) ∨
    ((∀ post : Int32 → Prop, post 0 → wpX_isLatch post v) ∧ (∀ post : Int32 → Prop, post 1 → wpY_badLatch post v)) := by
  by_cases h1 : v < 1
  · exact Or.inr ⟨fun post hp => br_t h1 hp, fun post hp => br_t h1 hp⟩
  · by_cases h4 : v ≤ 4
    · have h0 : ¬ v < 0 := fun z => h1 (Int32.lt_trans z (by decide))
      obtain ⟨l, hl, rfl⟩ := nI_of2 (x := v) (M := 4) (n := 4) (by decide) h0 h4
      have hl1 : 1 ≤ l := by
        cases l with
        | zero => exact absurd (by decide) h1
        | succ l => omega
      exact Or.inl ⟨l, hl1, by omega, rfl, fun post hp => br_f h1 (br_f (Int32.not_lt.mpr h4) hp), fun post hp => br_f h1 (br_t h4 hp)⟩
    · exact Or.inr ⟨fun post hp => br_f h1 (br_t (Int32.not_le.mp h4) hp), fun post hp => br_f h1 (br_f h4 hp)⟩
/-! gate, next, begin, bad -/
theorem dk_us (f : Nat → Int32) (g : Nat) (x : Int32) : upd (fun j => f (6 + j)) g x = fun j => upd f (6 + g) x (6 + j) := by
  funext j
  by_cases h : j = g
  · rw [h, pk_us, pk_us]
  · rw [pk_un h, pk_un (by omega)]
theorem dk_Rg {g bd a b : Nat} {gl gr nl : Nat → Int32} (h : dk_R g bd gl gr nl) (hg : g < 10) (ha : a < 2 * (6 + g)) (hb : b < 2 * (6 + g)) : dk_R (g + 1) bd (upd gl (6 + g) (nI a)) (upd gr (6 + g) (nI b)) nl := by
  obtain ⟨h1, h2, h3, h4⟩ := h
  refine ⟨by omega, by omega, ?_, ?_⟩
  · intro j hj
    by_cases e : j = g
    · rw [e, pk_us, pk_us]
      exact ⟨⟨a, ha, rfl⟩, ⟨b, hb, rfl⟩⟩
    · rw [pk_un (by omega), pk_un (by omega)]
      exact h3 j (by omega)
  · intro l hl hl5
    obtain ⟨c, hc, e⟩ := h4 l hl hl5
    exact ⟨c, by omega, e⟩
theorem i_vc_gate {k : Nat} {u : SX} {v : SY} (I : i_Rel k u v) (hk : k + 4 ≤ 2048) (v1 : Int32) (v2 : Int32) : wpX_gate (fun r u' => wpY_gate (fun r' v' => r' = r ∧ i_Rel (k + 4) u' v') v v1 v2) u v1 v2 := by
  obtain ⟨g, bd, gl, gr, nl, bg, sa, ba, sg, st, ip, rfl, rfl, hR⟩ := I
  have hg := hR.1
  unfold wpX_gate wpY_gate
  dsimp only
  rcases dk_lit (bd := bd) (gl := gl) (gr := gr) (nl := nl) (bg := bg) (sa := sa) (ba := ba) (fs := fun j => gl (6 + j)) (ss := fun j => gr (6 + j)) (sg := sg) (st := st) (ip := ip) hg v1 with ⟨a, ha, rfl, hX1, hY1⟩ | ⟨hX1, hY1⟩
  · refine hX1 _ (br_f (by decide) ?_)
    rcases dk_lit (bd := bd) (gl := gl) (gr := gr) (nl := nl) (bg := bg) (sa := sa) (ba := ba) (fs := fun j => gl (6 + j)) (ss := fun j => gr (6 + j)) (sg := sg) (st := st) (ip := ip) hg v2 with ⟨b, hb, rfl, hX2, hY2⟩ | ⟨hX2, hY2⟩
    · refine hX2 _ (br_f (by decide) (pk_lt (6 + g) 16 (fun h => ?_) (fun h => ?_)))
      · have hv : vp_in (nI (6 + g)) 16 := vp_in_nI (by omega) (by decide)
        have hw : vp_in (nI g) 10 := vp_in_nI (by omega) (by decide)
        have e5 : 5 + nI (g + 1) = nI (6 + g) := (nI_add 5 (g + 1)).trans (congrArg nI (by omega))
        rw [nI_clamp (n := 6 + g) (by omega)]
        refine ⟨hv, nm_e ⟨hv, nm_e (nm_r (nI_1 _) ?_)⟩⟩
        refine hY1 _ (br_t rfl (hY2 _ (br_t rfl (pk_eq g 10 (fun h2 => absurd h2 (by omega)) (fun h2 => ?_)))))
        rw [nI_clamp (n := g) (by omega)]
        refine ⟨hw, nm_r (dk_us gl g (nI a)) ⟨hw, nm_r (dk_us gr g (nI b)) (nm_r (nI_1 _) ⟨e5, dk_rel (dk_Rg hR (by omega) ha hb)⟩)⟩⟩
      · refine hY1 _ (br_t rfl (hY2 _ (br_t rfl (pk_eq g 10 (fun h2 => ⟨rfl, dk_rel hR⟩) (fun h2 => absurd (by omega) h2)))))
    · refine hX2 _ (br_t rfl ?_)
      exact hY1 _ (br_t rfl (hY2 _ (br_f (by decide) ⟨rfl, dk_rel hR⟩)))
  · refine hX1 _ (br_t rfl ?_)
    exact hY1 _ (br_f (by decide) ⟨rfl, dk_rel hR⟩)
theorem i_vc_next {k : Nat} {u : SX} {v : SY} (I : i_Rel k u v) (hk : k + 4 ≤ 2048) (v1 : Int32) (v2 : Int32) : wpX_next (fun r u' => wpY_next (fun r' v' => r' = r ∧ i_Rel (k + 4) u' v') v v1 v2) u v1 v2 := by
  obtain ⟨g, bd, gl, gr, nl, bg, sa, ba, sg, st, ip, rfl, rfl, hR⟩ := I
  have hg := hR.1
  unfold wpX_next wpY_next
  dsimp only
  rcases dk_latch v1 with ⟨l, hl, hl5, rfl, hX1, hY1⟩ | ⟨hX1, hY1⟩
  · refine hX1 _ (br_f (by decide) ?_)
    rcases dk_lit (bd := bd) (gl := gl) (gr := gr) (nl := nl) (bg := bg) (sa := sa) (ba := ba) (fs := fun j => gl (6 + j)) (ss := fun j => gr (6 + j)) (sg := sg) (st := st) (ip := ip) hg v2 with ⟨b, hb, rfl, hX2, hY2⟩ | ⟨hX2, hY2⟩
    · have hv : vp_in (nI l) 6 := vp_in_nI (by omega) (by decide)
      have hw : vp_in (nI l) 5 := vp_in_nI (by omega) (by decide)
      refine hX2 _ (br_f (by decide) ⟨hv, nm_e ⟨hv, nm_e ?_⟩⟩)
      refine hY1 _ (br_t rfl (hY2 _ (br_t rfl ⟨hw, nm_e ⟨hw, nm_e ⟨rfl, dk_rel ?_⟩⟩⟩)))
      rw [nI_clamp (n := l) (by omega)]
      refine ⟨hR.1, hR.2.1, hR.2.2.1, ?_⟩
      intro l' h1 h5
      by_cases e : l' = l
      · rw [e, pk_us]
        exact ⟨b, hb, rfl⟩
      · rw [pk_un e]
        exact hR.2.2.2 l' h1 h5
    · refine hX2 _ (br_t rfl ?_)
      exact hY1 _ (br_t rfl (hY2 _ (br_f (by decide) ⟨rfl, dk_rel hR⟩)))
  · refine hX1 _ (br_t rfl ?_)
    exact hY1 _ (br_f (by decide) ⟨rfl, dk_rel hR⟩)
theorem i_vc_begin {k : Nat} {u : SX} {v : SY} (I : i_Rel k u v) (hk : k + 4 ≤ 2048) (v1 : Int32) (v2 : Int32) : wpX_begin (fun r u' => wpY_begin (fun r' v' => r' = r ∧ i_Rel (k + 4) u' v') v v1 v2) u v1 v2 := by
  obtain ⟨g, bd, gl, gr, nl, bg, sa, ba, sg, st, ip, rfl, rfl, hR⟩ := I
  unfold wpX_begin wpY_begin
  dsimp only
  rcases dk_latch v1 with ⟨l, hl, hl5, rfl, hX1, hY1⟩ | ⟨hX1, hY1⟩
  · refine hX1 _ (br_f (by decide) ?_)
    have hv : vp_in (nI l) 6 := vp_in_nI (by omega) (by decide)
    have hw : vp_in (nI l) 5 := vp_in_nI (by omega) (by decide)
    by_cases h0 : v2 < 0
    · exact br_t h0 (hY1 _ (br_t rfl (br_t h0 ⟨rfl, dk_rel hR⟩)))
    · by_cases h2 : v2 ≤ 2
      · exact br_f h0 (br_t h2 ⟨hv, nm_e (hY1 _ (br_t rfl (br_f h0 (br_t h2 ⟨hw, nm_e ⟨rfl, dk_rel hR⟩⟩))))⟩)
      · exact br_f h0 (br_f h2 (hY1 _ (br_t rfl (br_f h0 (br_f h2 ⟨rfl, dk_rel hR⟩)))))
  · refine hX1 _ (br_t rfl ?_)
    exact hY1 _ (br_f (by decide) ⟨rfl, dk_rel hR⟩)
theorem i_vc_bad {k : Nat} {u : SX} {v : SY} (I : i_Rel k u v) (hk : k + 4 ≤ 2048) (v1 : Int32) : wpX_bad (fun r u' => wpY_bad (fun r' v' => r' = r ∧ i_Rel (k + 4) u' v') v v1) u v1 := by
  obtain ⟨g, bd, gl, gr, nl, bg, sa, ba, sg, st, ip, rfl, rfl, hR⟩ := I
  have hg := hR.1
  unfold wpX_bad wpY_bad
  dsimp only
  rcases dk_lit (bd := bd) (gl := gl) (gr := gr) (nl := nl) (bg := bg) (sa := sa) (ba := ba) (fs := fun j => gl (6 + j)) (ss := fun j => gr (6 + j)) (sg := sg) (st := st) (ip := ip) hg v1 with ⟨a, ha, rfl, hX1, hY1⟩ | ⟨hX1, hY1⟩
  · refine hX1 _ (br_f (by decide) (hY1 _ (br_t rfl ⟨rfl, dk_rel ⟨hR.1, ha, hR.2.2.1, hR.2.2.2⟩⟩)))
  · refine hX1 _ (br_t rfl ?_)
    exact hY1 _ (br_f (by decide) ⟨rfl, dk_rel hR⟩)
