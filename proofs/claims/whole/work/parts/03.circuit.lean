/-! bad and step: the class's two tables, the reference's isBad and step -/
def dk_HN (g bd : Nat) (nl : Nat → Int32) (N : Nat → Nat) : Prop := bd < 2 * (6 + g) ∧ ∀ l, 1 ≤ l → l < 5 → N l < 2 * (6 + g) ∧ nl l = nI (N l)
def dk_n4 (p q r t : Bool) : Nat := p.toNat + 2 * q.toNat + 4 * r.toNat + 8 * t.toNat
theorem dk_n4lt (p q r t : Bool) : dk_n4 p q r t < 16 := by cases p <;> cases q <;> cases r <;> cases t <;> decide
def dk_ac (P : Nat → Bool) : Nat → Int32
  | 0 => 0
  | l + 1 => dk_ac P l ||| (dk_b (P (l + 1)) <<< ((nI (l + 1) - 1) &&& 31))
theorem dk_or4 : ∀ p q r t : Bool, ((((0 ||| (dk_b p <<< ((nI 1 - 1) &&& 31))) ||| (dk_b q <<< ((nI 2 - 1) &&& 31))) ||| (dk_b r <<< ((nI 3 - 1) &&& 31))) ||| (dk_b t <<< ((nI 4 - 1) &&& 31))) = nI (dk_n4 p q r t) := by decide +kernel
theorem dk_ac4 (P : Nat → Bool) : dk_ac P 4 = nI (dk_n4 (P 1) (P 2) (P 3) (P 4)) := dk_or4 (P 1) (P 2) (P 3) (P 4)
def dk_T (g : Nat) (L R N : Nat → Nat) (s x : Nat) : Nat := dk_n4 (dk_l (dk_sg L R s x g) (N 1)) (dk_l (dk_sg L R s x g) (N 2)) (dk_l (dk_sg L R s x g) (N 3)) (dk_l (dk_sg L R s x g) (N 4))
def dk_B (g bd : Nat) (L R : Nat → Nat) (s x : Nat) : Bool := dk_l (dk_sg L R s x g) bd
theorem dk_Tlt (g : Nat) (L R N : Nat → Nat) (s x : Nat) : dk_T g L R N s x < 16 := dk_n4lt _ _ _ _
theorem dk_reX4 {post : Int32 → Prop} {g bd : Nat} {m : Int32} {F : Nat → Bool} {N : Nat → Nat} {gl gr nl bg sa ba : Nat → Int32} (hg : g ≤ 10) (hN : dk_HN g bd nl N) (hm : ∀ j, j < 32 → bt m j = F j)
    (hp : post (dk_ac (fun l => dk_l F (N l)) 4)) :
    ∀ d l, l + d = 4 → wX_stateReached_4 post m (nI (6 + g)) (nI bd) gl gr nl bg sa ba (d + 1) (dk_ac (fun l => dk_l F (N l)) l) (nI (l + 1)) := by
  intro d
  induction d with
  | zero =>
    intro l hl
    have e : l = 4 := by omega
    subst e
    exact br_t (by decide) hp
  | succ d ih =>
    intro l hl
    have hcl : (nI (l + 1)).toNatClampNeg = l + 1 := nI_clamp (by omega)
    obtain ⟨h1, h2⟩ := hN.2 (l + 1) (by omega) (by omega)
    refine br_f (nI_nlt (a := 4) (by omega) (by omega)) ⟨vp_in_nI (by omega) (by decide), ?_⟩
    rw [hcl, h2]
    refine dk_litX (by omega) (nm_e (nm_r (nI_1 _) ?_))
    have e : dk_l (bt m) (N (l + 1)) = dk_l F (N (l + 1)) := dk_l_eq (hm _ (by omega))
    rw [e]
    exact ih (l + 1) (by omega)
theorem dk_reX {post : Int32 → Prop} {g bd : Nat} {m : Int32} {F : Nat → Bool} {N : Nat → Nat} {gl gr nl bg sa ba : Nat → Int32} (hg : g ≤ 10) (hN : dk_HN g bd nl N) (hm : ∀ j, j < 32 → bt m j = F j)
    (hp : post (nI (dk_n4 (dk_l F (N 1)) (dk_l F (N 2)) (dk_l F (N 3)) (dk_l F (N 4))))) : wpX_stateReached post (nI (6 + g), nI bd, gl, gr, nl, bg, sa, ba) m := by
  refine Exists.intro 5 (dk_reX4 (F := F) hg hN hm ?_ 4 0 (by omega))
  rw [dk_ac4]
  exact hp
theorem dk_nar (c : Bool) : vp_nar .boolean (dk_b c) = dk_b c := by cases c <;> rfl
def dk_HT (sa ba : Nat → Int32) (T : Nat → Nat → Nat) (B : Nat → Nat → Bool) (p : Nat) : Prop := ∀ q, q < p → sa q = nI (T (q / 2) (q % 2)) ∧ ba q = dk_b (B (q / 2) (q % 2))
theorem dk_tabX2 {post : SX → Prop} {g bd : Nat} {L R N : Nat → Nat} {gl gr nl bg : Nat → Int32} (hg : dk_H g (fun j => gl (6 + j)) (fun j => gr (6 + j)) L R) (hN : dk_HN g bd nl N)
    (hp : ∀ sa ba : Nat → Int32, dk_HT sa ba (dk_T g L R N) (dk_B g bd L R) 32 → post (nI (6 + g), nI bd, gl, gr, nl, bg, sa, ba)) :
    ∀ d p (sa ba : Nat → Int32), p + d = 32 → dk_HT sa ba (dk_T g L R N) (dk_B g bd L R) p → wX_tabulateCircuit_2 post (nI (6 + g)) (nI bd) (d + 1) (nI p) gl gr nl bg sa ba := by
  have hg1 := hg.1
  have hbd := hN.1
  intro d
  induction d with
  | zero =>
    intro p sa ba hd hT
    have e : p = 32 := by omega
    subst e
    exact br_t (by decide) (hp sa ba hT)
  | succ d ih =>
    intro p sa ba hd hT
    have e1 : nI p >>> ((1 : Int32) &&& 31) = nI (p / 2) := pk_shrN (by omega) _ 1 (by decide)
    have e2 : nI p &&& 1 = nI (p % 2) := pk_andN (by omega) 1 (by decide)
    have hcl : (nI p).toNatClampNeg = p := nI_clamp (by omega)
    have hin : vp_in (nI p) 32 := vp_in_nI (by omega) (by decide)
    refine br_f (nI_ge (b := 32) (by omega) (by decide)) ?_
    rw [e1, e2]
    refine dk_sigX hg (by omega) (by omega) ?_
    intro m hm
    refine dk_litX (by omega) ?_
    have eB : dk_l (bt m) bd = dk_B g bd L R (p / 2) (p % 2) := dk_l_eq (hm _ (by omega))
    rw [eB]
    have key : ∀ z, z = dk_b (dk_B g bd L R (p / 2) (p % 2)) → wX_tabulateCircuit_41 post (wX_tabulateCircuit_2 post (nI (6 + g)) (nI bd) (d + 1)) (nI p) m z (nI p) (nI (6 + g)) (nI bd) gl gr nl bg sa ba := by
      intro z ez
      refine And.intro hin ?_
      rw [ez, dk_nar, hcl]
      refine nm_e ?_
      refine dk_reX hg1 hN hm ⟨hin, nm_e (nm_r (nI_1 _) ?_)⟩
      refine ih (p + 1) _ _ (by omega) ?_
      intro q hq
      by_cases h : q = p
      · rw [h, pk_us, pk_us]
        exact ⟨rfl, rfl⟩
      · rw [pk_un h, pk_un h]
        exact hT q (by omega)
    cases hb : dk_B g bd L R (p / 2) (p % 2)
    · rw [hb] at key
      exact br_f (by decide) (key 0 rfl)
    · rw [hb] at key
      exact br_t rfl (key 1 rfl)
theorem dk_tabX {post : SX → Prop} {g bd : Nat} {L R N : Nat → Nat} {gl gr nl bg sa ba : Nat → Int32} (hg : dk_H g (fun j => gl (6 + j)) (fun j => gr (6 + j)) L R) (hN : dk_HN g bd nl N)
    (hp : ∀ sa ba : Nat → Int32, dk_HT sa ba (dk_T g L R N) (dk_B g bd L R) 32 → post (nI (6 + g), nI bd, gl, gr, nl, bg, sa, ba)) : wpX_tabulateCircuit post (nI (6 + g), nI bd, gl, gr, nl, bg, sa, ba) :=
  Exists.intro 33 (dk_tabX2 hg hN hp 32 0 sa ba (by omega) (fun q hq => absurd hq (by omega)))
theorem dk_badY {post : Int32 → SY → Prop} {g bd s x : Nat} {L R N : Nat → Nat} {fs ss nl bg sg st ip : Nat → Int32} (hg : dk_H g fs ss L R) (hN : dk_HN g bd nl N) (hs : s < 16) (hx : x < 2)
    (hp : ∀ sg : Nat → Int32, post (dk_b (dk_B g bd L R s x)) (nI g, nI bd, fs, ss, nl, bg, sg, st, ip)) : wpY_isBad post (nI g, nI bd, fs, ss, nl, bg, sg, st, ip) (nI s) (nI x) := by
  have hg1 := hg.1
  have hbd := hN.1
  have ex : nI x &&& 1 = nI x := (pk_andN (by omega) 1 (by decide)).trans (congrArg nI (Nat.mod_eq_of_lt hx))
  unfold wpY_isBad
  dsimp only
  refine dk_workY hg hs hx ex ?_
  intro sg' hsg
  refine dk_ofY (F := dk_sg L R s x g) (by omega) (hsg _ (by omega)) ?_
  have h := hp sg'
  unfold dk_B at h
  cases hb : dk_l (dk_sg L R s x g) bd
  · rw [hb] at h
    exact br_f (by decide) h
  · rw [hb] at h
    exact br_t rfl h
theorem dk_stepY11 {post : Int32 → SY → Prop} {g bd : Nat} {F : Nat → Bool} {N : Nat → Nat} {fs ss nl bg sg st ip : Nat → Int32} (hg : g ≤ 10) (hN : dk_HN g bd nl N) (hm : ∀ j, j < 6 + g → sg j = dk_b (F j))
    (hp : post (dk_ac (fun l => dk_l F (N l)) 4) (nI g, nI bd, fs, ss, nl, bg, sg, st, ip)) :
    ∀ d l, l + d = 4 → wY_step_11 post (nI g) (nI bd) fs ss nl bg sg st ip (d + 1) (dk_ac (fun l => dk_l F (N l)) l) (nI (l + 1)) := by
  intro d
  induction d with
  | zero =>
    intro l hl
    have e : l = 4 := by omega
    subst e
    exact br_t (by decide) hp
  | succ d ih =>
    intro l hl
    have hcl : (nI (l + 1)).toNatClampNeg = l + 1 := nI_clamp (by omega)
    obtain ⟨h1, h2⟩ := hN.2 (l + 1) (by omega) (by omega)
    refine br_f (nI_ge (b := 5) (by omega) (by decide)) ⟨vp_in_nI (by omega) (by decide), ?_⟩
    rw [hcl, h2]
    refine dk_ofY (F := F) (by omega) (hm _ (by omega)) (nm_e (nm_r (nI_1 _) ?_))
    exact ih (l + 1) (by omega)
theorem dk_stepY {post : Int32 → SY → Prop} {g bd s x : Nat} {L R N : Nat → Nat} {fs ss nl bg sg st ip : Nat → Int32} (hg : dk_H g fs ss L R) (hN : dk_HN g bd nl N) (hs : s < 16) (hx : x < 2)
    (hp : ∀ sg : Nat → Int32, post (nI (dk_T g L R N s x)) (nI g, nI bd, fs, ss, nl, bg, sg, st, ip)) : wpY_step post (nI g, nI bd, fs, ss, nl, bg, sg, st, ip) (nI s) (nI x) := by
  have ex : nI x &&& 1 = nI x := (pk_andN (by omega) 1 (by decide)).trans (congrArg nI (Nat.mod_eq_of_lt hx))
  unfold wpY_step
  dsimp only
  refine dk_workY hg hs hx ex ?_
  intro sg' hsg
  refine Exists.intro 5 (dk_stepY11 (F := dk_sg L R s x g) hg.1 hN hsg ?_ 4 0 (by omega))
  rw [dk_ac4]
  exact hp sg'
