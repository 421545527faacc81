/-! value, depth, holds, proof, witness, input -/
theorem i_vc_value {k : Nat} {u : SX} {v : SY} (I : i_Rel k u v) (hk : k + 4 ≤ 2048) (v1 : Int32) (v2 : Int32) (v3 : Int32) : wpX_value (fun r => wpY_value (fun r' v' => r' = r ∧ i_Rel (k + 4) u v') v v1 v2 v3) u v1 v2 v3 := by
  obtain ⟨g, bd, gl, gr, nl, bg, sa, ba, sg, st, ip, rfl, rfl, hR⟩ := I
  have hg := hR.1
  unfold wpX_value wpY_value
  dsimp only
  rcases dk_lit (bd := bd) (gl := gl) (gr := gr) (nl := nl) (bg := bg) (sa := sa) (ba := ba) (fs := fun j => gl (6 + j)) (ss := fun j => gr (6 + j)) (sg := sg) (st := st) (ip := ip) hg v1 with ⟨a, ha, rfl, hX1, hY1⟩ | ⟨hX1, hY1⟩
  · refine hX1 _ (br_f (by decide) ?_)
    rcases pk_ix v2 (n := 16) (by decide) with h | h | ⟨s, hs, rfl⟩
    · exact br_t h (hY1 _ (br_t rfl (br_t h ⟨rfl, dk_rel hR⟩)))
    · have h0 := dk_ge0 (n := 16) (by decide) h
      have h15 : ¬ v2 ≤ 15 := fun z => absurd (Int32.le_trans h z) (by decide)
      exact br_f h0 (br_f (Int32.not_lt.mpr h) (hY1 _ (br_t rfl (br_f h0 (br_f h15 ⟨rfl, dk_rel hR⟩)))))
    · obtain ⟨x, hx, ex⟩ := pk_andE v3 (m := 1) 1 (by decide)
      obtain ⟨L, R, N, hH, hN⟩ := dk_RH hR
      have h0 := nI_pos (n := s) (by omega)
      refine br_f h0 (br_t (nI_lt (b := 16) hs (by decide)) ?_)
      rw [ex]
      refine dk_sigX hH hs (by omega) ?_
      intro m hm
      refine dk_litX (by omega) ?_
      refine hY1 _ (br_t rfl (br_f h0 (br_t (nI_le (b := 15) (by omega) (by decide)) ?_)))
      refine dk_workY hH hs (x := x) (by omega) ex ?_
      intro sg' hsg
      refine dk_ofY (F := dk_sg L R s x g) (by omega) (hsg _ (by omega)) ⟨?_, dk_rel hR⟩
      exact congrArg dk_b (dk_l_eq (hm _ (by omega)).symm)
  · refine hX1 _ (br_t rfl ?_)
    exact hY1 _ (br_f (by decide) ⟨rfl, dk_rel hR⟩)
theorem dk_len (v : Int32) :
    (∃ l, l < 7 ∧ v = nI l ∧ ¬ v < 0 ∧ v ≤ 6 ∧ (∀ post : Int32 → Prop, post 1 → wpX_isLength post v)) ∨
    ((v < 0 ∨ (¬ v < 0 ∧ ¬ v ≤ 6)) ∧ (∀ post : Int32 → Prop, post 0 → wpX_isLength post v)) := by
  by_cases h0 : v < 0
  · exact Or.inr ⟨Or.inl h0, fun post hp => br_t h0 hp⟩
  · by_cases h6 : v ≤ 6
    · obtain ⟨l, hl, rfl⟩ := nI_of2 (x := v) (M := 6) (n := 6) (by decide) h0 h6
      exact Or.inl ⟨l, by omega, rfl, h0, h6, fun post hp => br_f h0 (br_f (Int32.not_lt.mpr h6) hp)⟩
    · exact Or.inr ⟨Or.inr ⟨h0, h6⟩, fun post hp => br_f h0 (br_t (Int32.not_le.mp h6) hp)⟩
theorem i_vc_depth {k : Nat} {u : SX} {v : SY} (I : i_Rel k u v) (hk : k + 4 ≤ 2048) (v1 : Int32) : wpX_depth (fun r u' => wpY_depth (fun r' v' => r' = r ∧ i_Rel (k + 4) u' v') v v1) u v1 := by
  obtain ⟨g, bd, gl, gr, nl, bg, sa, ba, sg, st, ip, rfl, rfl, hR⟩ := I
  obtain ⟨B, T, htab, hY⟩ := dk_go hR
  unfold wpX_depth wpY_depth
  dsimp only
  rcases dk_len v1 with ⟨l, hl, rfl, h0, h6, hX1⟩ | ⟨h, hX1⟩
  · refine hX1 _ (br_f (by decide) (htab _ _ _ _ ?_))
    intro sa' ba' hX
    refine dk_leX hX hl (br_f h0 (br_t h6 (dk_leY (hY bg) hl ?_)))
    intro sg' st' ip' _
    exact ⟨rfl, dk_rel hR⟩
  · refine hX1 _ (br_t rfl ?_)
    rcases h with h | ⟨h0, h6⟩
    · exact br_t h ⟨rfl, dk_rel hR⟩
    · exact br_f h0 (br_f h6 ⟨rfl, dk_rel hR⟩)
theorem i_vc_holds {k : Nat} {u : SX} {v : SY} (I : i_Rel k u v) (hk : k + 4 ≤ 2048) (v1 : Int32) : wpX_holds (fun r u' => wpY_holds (fun r' v' => r' = r ∧ i_Rel (k + 4) u' v') v v1) u v1 := by
  obtain ⟨g, bd, gl, gr, nl, bg, sa, ba, sg, st, ip, rfl, rfl, hR⟩ := I
  obtain ⟨B, T, htab, hY⟩ := dk_go hR
  unfold wpX_holds
  dsimp only
  rcases dk_len v1 with ⟨l, hl, rfl, h0, h6, hX1⟩ | ⟨h, hX1⟩
  · refine hX1 _ (br_f (by decide) (htab _ _ _ _ ?_))
    intro sa' ba' hX
    refine dk_hbX hX hl ?_
    cases hb : dk_hb B T l
    · refine br_t rfl (dk_hoY (hY bg) hl ?_)
      intro sg' st' ip'
      rw [hb]
      exact ⟨rfl, dk_rel hR⟩
    · refine br_f (by decide) (dk_hoY (hY bg) hl ?_)
      intro sg' st' ip'
      rw [hb]
      exact ⟨rfl, dk_rel hR⟩
  · refine hX1 _ (br_t rfl ?_)
    unfold wpY_holds
    dsimp only
    rcases h with h | ⟨h0, h6⟩
    · exact br_t h ⟨rfl, dk_rel hR⟩
    · exact br_f h0 (br_f h6 ⟨rfl, dk_rel hR⟩)
theorem i_vc_proof {k : Nat} {u : SX} {v : SY} (I : i_Rel k u v) (hk : k + 4 ≤ 2048) : wpX_proof (fun r u' => wpY_proof (fun r' v' => r' = r ∧ i_Rel (k + 4) u' v') v) u := by
  obtain ⟨g, bd, gl, gr, nl, bg, sa, ba, sg, st, ip, rfl, rfl, hR⟩ := I
  obtain ⟨B, T, htab, hY⟩ := dk_go hR
  unfold wpX_proof wpY_proof
  dsimp only
  refine htab _ _ _ _ ?_
  intro sa' ba' hX
  refine Exists.intro 8 (dk_prX6 hX 7 0 (by omega) ?_)
  refine Exists.intro 8 (dk_prY2 (hY bg) 7 0 sg st ip (by omega) ?_)
  intro sg' st' ip'
  refine ⟨congrArg dk_o ?_, dk_rel hR⟩
  exact (dk_pxy 7 0 (fun j hj => absurd hj (by omega))).symm
theorem dk_nm1 {j : Nat} (h : j < 2 ^ 31) : ¬ nI j ≤ -1 := by
  intro z
  exact nI_pos h (Int32.lt_of_le_of_lt z (by decide))
theorem i_vc_witness {k : Nat} {u : SX} {v : SY} (I : i_Rel k u v) (hk : k + 4 ≤ 2048) (v1 : Int32) : wpX_witness (fun r u' => wpY_witness (fun r' v' => r' = r ∧ i_Rel (k + 4) u' v') v v1) u v1 := by
  obtain ⟨g, bd, gl, gr, nl, bg, sa, ba, sg, st, ip, rfl, rfl, hR⟩ := I
  obtain ⟨B, T, htab, hY⟩ := dk_go hR
  unfold wpX_witness wpY_witness
  dsimp only
  refine htab _ _ _ _ ?_
  intro sa' ba' hX
  refine dk_leX (lim := 6) hX (by decide) ?_
  cases hle : dk_le bg B T 6 with
  | none =>
    refine br_t rfl (dk_leY (lim := 6) (hY bg) (by decide) ?_)
    intro sg' st' ip' _
    rw [hle]
    by_cases h0 : v1 < 0
    · exact br_t h0 ⟨rfl, dk_rel hR⟩
    · obtain ⟨j, hj, rfl⟩ := nI_of h0
      exact br_f h0 (br_f (dk_nm1 hj) ⟨rfl, dk_rel hR⟩)
  | some len =>
    have hs := dk_fS _ _ _ hle
    have hlen : len < 7 := by omega
    have h32 := dk_e32 hlen
    refine br_f (dk_om (by omega)) ?_
    by_cases h0 : v1 < 0
    · refine br_t h0 (dk_leY (lim := 6) (hY bg) (by decide) ?_)
      intro sg' st' ip' _
      exact br_t h0 ⟨rfl, dk_rel hR⟩
    · refine br_f h0 ?_
      obtain ⟨j, hj, rfl⟩ := nI_of h0
      refine pk_le j len (fun h => ?_) (fun h => ?_)
      · cases hf : dk_fb bg B T len with
        | none =>
          have hq := hs.2.2
          unfold dk_Q at hq
          rw [hf] at hq
          exact nomatch hq
        | some m =>
          have hm := (dk_fS _ _ _ hf).2.1
          refine dk_fbX hX hlen ?_
          rw [hf]
          refine dk_soX hX hlen (n := m) (by omega) h ?_
          refine dk_leY (lim := 6) (hY bg) (by decide) ?_
          intro sg' st' ip' hw
          have hw2 := hw len hle m hf j h
          rw [hle]
          refine br_f h0 (br_t (nI_le h (by omega)) ⟨vp_in_nI (by omega) (by decide), ?_, dk_rel hR⟩)
          rw [nI_clamp (by omega)]
          exact hw2.1
      · refine dk_leY (lim := 6) (hY bg) (by decide) ?_
        intro sg' st' ip' _
        rw [hle]
        exact br_f h0 (br_f (nI_ge h (by omega)) ⟨rfl, dk_rel hR⟩)
theorem i_vc_input {k : Nat} {u : SX} {v : SY} (I : i_Rel k u v) (hk : k + 4 ≤ 2048) (v1 : Int32) : wpX_input (fun r u' => wpY_input (fun r' v' => r' = r ∧ i_Rel (k + 4) u' v') v v1) u v1 := by
  obtain ⟨g, bd, gl, gr, nl, bg, sa, ba, sg, st, ip, rfl, rfl, hR⟩ := I
  obtain ⟨B, T, htab, hY⟩ := dk_go hR
  unfold wpX_input wpY_input
  dsimp only
  refine htab _ _ _ _ ?_
  intro sa' ba' hX
  refine dk_leX (lim := 6) hX (by decide) ?_
  cases hle : dk_le bg B T 6 with
  | none =>
    refine br_t rfl (dk_leY (lim := 6) (hY bg) (by decide) ?_)
    intro sg' st' ip' _
    rw [hle]
    by_cases h0 : v1 < 0
    · exact br_t h0 ⟨rfl, dk_rel hR⟩
    · obtain ⟨j, hj, rfl⟩ := nI_of h0
      exact br_f h0 (br_f (dk_nm1 hj) ⟨rfl, dk_rel hR⟩)
  | some len =>
    have hs := dk_fS _ _ _ hle
    have hlen : len < 7 := by omega
    have h32 := dk_e32 hlen
    refine br_f (dk_om (by omega)) ?_
    by_cases h0 : v1 < 0
    · refine br_t h0 (dk_leY (lim := 6) (hY bg) (by decide) ?_)
      intro sg' st' ip' _
      exact br_t h0 ⟨rfl, dk_rel hR⟩
    · refine br_f h0 ?_
      obtain ⟨j, hj, rfl⟩ := nI_of h0
      refine pk_le j len (fun h => ?_) (fun h => ?_)
      · cases hf : dk_fb bg B T len with
        | none =>
          have hq := hs.2.2
          unfold dk_Q at hq
          rw [hf] at hq
          exact nomatch hq
        | some m =>
          have hm := (dk_fS _ _ _ hf).2.1
          refine dk_fbX hX hlen ?_
          rw [hf]
          refine dk_inX hlen (n := m) (by omega) h ?_
          refine dk_leY (lim := 6) (hY bg) (by decide) ?_
          intro sg' st' ip' hw
          have hw2 := hw len hle m hf j h
          rw [hle]
          refine br_f h0 (br_t (nI_le h (by omega)) ⟨vp_in_nI (by omega) (by decide), ?_, dk_rel hR⟩)
          rw [nI_clamp (by omega)]
          exact hw2.2
      · refine dk_leY (lim := 6) (hY bg) (by decide) ?_
        intro sg' st' ip' _
        rw [hle]
        exact br_f h0 (br_f (nI_ge h (by omega)) ⟨rfl, dk_rel hR⟩)
