/-! the signals: the class's mask and the reference's array against one function to Bool -/
def dk_b (c : Bool) : Int32 := if c then 1 else 0
theorem dk_1 (i : Nat) : bt 1 i = decide (i = 0) := by
  rcases Nat.lt_or_ge i 32 with h | h
  · exact (by decide +kernel : ∀ i, i < 32 → bt 1 i = decide (i = 0)) i h
  · rw [b_big h, decide_eq_false (by omega)]
theorem dk_bb (c : Bool) (i : Nat) : bt (dk_b c) i = (c && decide (i = 0)) := by
  cases c
  · exact b_0 i
  · exact (dk_1 i).trans (by simp)
theorem dk_bit (m : Int32) (k : Nat) (hk : k < 32) : (m >>> (nI k &&& 31)) &&& 1 = dk_b (bt m k) := by
  apply b_ext
  intro i hi
  rw [b_and, dk_1, dk_bb, b_sshr k hk m hi]
  by_cases h : i = 0
  · subst h
    simp [hk]
  · simp [h]
def dk_l (f : Nat → Bool) (a : Nat) : Bool := f (a / 2) ^^ decide (a % 2 = 1)
theorem dk_l_eq {f h : Nat → Bool} {a : Nat} (e : f (a / 2) = h (a / 2)) : dk_l f a = dk_l h a := by
  unfold dk_l
  rw [e]
theorem dk_x01 (c : Bool) (a : Nat) (h : a < 2) : dk_b c ^^^ nI a = dk_b (c ^^ decide (a = 1)) := by
  have h2 : a = 0 ∨ a = 1 := by omega
  rcases h2 with rfl | rfl <;> cases c <;> decide
theorem dk_not (c : Bool) : 1 - dk_b c = dk_b (!c) := by cases c <;> decide
theorem dk_mul (c d : Bool) : dk_b c * dk_b d = dk_b (c && d) := by cases c <;> cases d <;> decide
theorem dk_litX {post : Int32 → Prop} {a : Nat} {m : Int32} (ha : a < 32) (h : post (dk_b (dk_l (bt m) a))) : wpX_literalValue post (nI a) m := by
  have e1 : nI a >>> ((1 : Int32) &&& 31) = nI (a / 2) := pk_shrN (by omega) _ 1 (by decide)
  have e2 : nI a &&& 1 = nI (a % 2) := pk_andN (by omega) 1 (by decide)
  unfold wpX_literalValue
  rw [e1, e2, dk_bit m (a / 2) (by omega)]
  intro x ex
  rw [ex, dk_x01 _ _ (by omega)]
  exact h
theorem dk_ofY {post : Int32 → Prop} {q0 q1 : Int32} {fs ss nl bg sg st ip : Nat → Int32} {F : Nat → Bool} {a : Nat} (ha : a < 32) (hF : sg (a / 2) = dk_b (F (a / 2))) (h : post (dk_b (dk_l F a))) : wpY_of post (q0, q1, fs, ss, nl, bg, sg, st, ip) (nI a) := by
  have e1 : nI a - nI a / 2 * 2 = nI (a % 2) := pk_rem (d := 2) (by omega) (by decide) (by decide)
  have e2 : nI a / 2 = nI (a / 2) := pk_div (d := 2) (by omega) (by decide) (by decide)
  have hi : vp_in (nI (a / 2)) 16 := vp_in_nI (by omega) (by decide)
  unfold wpY_of
  dsimp only
  rw [e1, e2, nI_clamp (by omega), hF]
  refine ⟨by decide, pk_eq (a % 2) 0 (fun z => ⟨by decide, hi, ?_⟩) (fun z => ⟨by decide, hi, ?_⟩)⟩
  · have e : dk_l F a = F (a / 2) := by simp [dk_l, z]
    rw [← e]
    exact h
  · have z1 : a % 2 = 1 := by omega
    have e : dk_l F a = !F (a / 2) := by simp [dk_l, z1]
    rw [dk_not, ← e]
    exact h
def dk_s0 (s x : Nat) (j : Nat) : Bool := if j = 5 then x.testBit 0 else (decide (1 ≤ j) && (decide (j < 5) && s.testBit (j - 1)))
theorem dk_s0X : ∀ s, s < 16 → ∀ x, x < 2 → ∀ j, j < 32 → bt ((nI s <<< ((1 : Int32) &&& 31)) ||| (nI x <<< ((5 : Int32) &&& 31))) j = dk_s0 s x j := by decide +kernel
theorem dk_s0Y : ∀ s, s < 16 → ∀ x, x < 2 → ∀ l, l < 5 → 1 ≤ l → (nI s >>> ((nI l - 1) &&& 31)) &&& 1 = dk_b (dk_s0 s x l) := by decide +kernel
theorem dk_s0Y5 : ∀ s, s < 16 → ∀ x, x < 2 → nI x = dk_b (dk_s0 s x 5) := by decide +kernel
theorem dk_s0Y0 (s x : Nat) : 0 = dk_b (dk_s0 s x 0) := rfl
def dk_sg (L R : Nat → Nat) (s x : Nat) : Nat → Nat → Bool
  | 0 => dk_s0 s x
  | g + 1 => fun j => if j = 6 + g then dk_l (dk_sg L R s x g) (L g) && dk_l (dk_sg L R s x g) (R g) else dk_sg L R s x g j
theorem dk_sgHi {L R : Nat → Nat} {s x : Nat} : ∀ g j, 6 + g ≤ j → dk_sg L R s x g j = false := by
  intro g
  induction g with
  | zero =>
    intro j hj
    show dk_s0 s x j = false
    unfold dk_s0
    rw [if_neg (by omega), decide_eq_false (p := j < 5) (by omega)]
    simp
  | succ g ih =>
    intro j hj
    show (if j = 6 + g then _ else _) = false
    rw [if_neg (by omega)]
    exact ih j (by omega)
def dk_H (g : Nat) (A B : Nat → Int32) (L R : Nat → Nat) : Prop := g ≤ 10 ∧ ∀ j, j < g → (L j < 2 * (6 + j) ∧ A j = nI (L j)) ∧ (R j < 2 * (6 + j) ∧ B j = nI (R j))
theorem dk_sigX12 {post : Int32 → Prop} {g bd s x : Nat} {L R : Nat → Nat} {gl gr nl bg sa ba : Nat → Int32} (hg : dk_H g (fun j => gl (6 + j)) (fun j => gr (6 + j)) L R)
    (hp : ∀ m, (∀ j, j < 32 → bt m j = dk_sg L R s x g j) → post m) :
    ∀ d i m, i + d = g → (∀ j, j < 32 → bt m j = dk_sg L R s x i j) → wX_signalValues_12 post (nI (6 + g)) (nI bd) gl gr nl bg sa ba (d + 1) m (nI (6 + i)) := by
  have hg1 := hg.1
  intro d
  induction d with
  | zero =>
    intro i m hi hm
    have e : i = g := by omega
    subst e
    exact br_t (nI_le (Nat.le_refl _) (by omega)) (hp m hm)
  | succ d ih =>
    intro i m hi hm
    have hin : vp_in (nI (6 + i)) 16 := vp_in_nI (by omega) (by decide)
    have hL1 : L i < 2 * (6 + i) := (hg.2 i (by omega)).1.1
    have hL2 : gl (6 + i) = nI (L i) := (hg.2 i (by omega)).1.2
    have hR1 : R i < 2 * (6 + i) := (hg.2 i (by omega)).2.1
    have hR2 : gr (6 + i) = nI (R i) := (hg.2 i (by omega)).2.2
    have hcl : (nI (6 + i)).toNatClampNeg = 6 + i := nI_clamp (by omega)
    refine br_f (nI_ge (by omega) (by omega)) ⟨hin, ?_⟩
    rw [hcl, hL2]
    refine dk_litX (by omega) ⟨hin, ?_⟩
    rw [hR2]
    refine dk_litX (by omega) (nm_e (nm_r (nI_1 _) ?_))
    refine ih (i + 1) _ (by omega) ?_
    intro j hj
    have el : dk_l (bt m) (L i) = dk_l (dk_sg L R s x i) (L i) := dk_l_eq (hm _ (by omega))
    have er : dk_l (bt m) (R i) = dk_l (dk_sg L R s x i) (R i) := dk_l_eq (hm _ (by omega))
    rw [b_or, b_shl (6 + i) (by omega) _ hj, b_and, dk_bb, dk_bb, hm j hj, el, er]
    show _ = if j = 6 + i then _ else _
    by_cases h : j = 6 + i
    · subst h
      rw [dk_sgHi i _ (Nat.le_refl _), if_pos rfl]
      simp
    · rw [if_neg h]
      by_cases h3 : 6 + i ≤ j
      · rw [decide_eq_false (p := j - (6 + i) = 0) (by omega)]
        simp
      · rw [decide_eq_false h3]
        simp
theorem dk_sigX {post : Int32 → Prop} {g bd s x : Nat} {L R : Nat → Nat} {gl gr nl bg sa ba : Nat → Int32} (hg : dk_H g (fun j => gl (6 + j)) (fun j => gr (6 + j)) L R) (hs : s < 16) (hx : x < 2)
    (hp : ∀ m, (∀ j, j < 32 → bt m j = dk_sg L R s x g j) → post m) : wpX_signalValues post (nI (6 + g), nI bd, gl, gr, nl, bg, sa, ba) (nI s) (nI x) :=
  nm_e (Exists.intro (g + 1) (dk_sigX12 hg hp g 0 _ (by omega) (dk_s0X s hs x hx)))
theorem dk_workY44 {post : SY → Prop} {g bd s x : Nat} {L R : Nat → Nat} {fs ss nl bg st ip : Nat → Int32} (hg : dk_H g fs ss L R)
    (hp : ∀ sg : Nat → Int32, (∀ j, j < 6 + g → sg j = dk_b (dk_sg L R s x g j)) → post (nI g, nI bd, fs, ss, nl, bg, sg, st, ip)) :
    ∀ d i (sg : Nat → Int32), i + d = g → (∀ j, j < 6 + i → sg j = dk_b (dk_sg L R s x i j)) → wY_work_44 post (nI g) (nI bd) (d + 1) (nI i) fs ss nl bg sg st ip := by
  have hg1 := hg.1
  intro d
  induction d with
  | zero =>
    intro i sg hi hm
    have e : i = g := by omega
    subst e
    exact br_t (nI_le (Nat.le_refl _) (by omega)) (hp sg hm)
  | succ d ih =>
    intro i sg hi hm
    have hin : vp_in (nI i) 10 := vp_in_nI (by omega) (by decide)
    obtain ⟨⟨hL1, hL2⟩, hR1, hR2⟩ := hg.2 i (by omega)
    have hcl : (nI i).toNatClampNeg = i := nI_clamp (by omega)
    have e6 : 6 + nI i = nI (6 + i) := nI_add 6 i
    have hc6 : (nI (6 + i)).toNatClampNeg = 6 + i := nI_clamp (by omega)
    refine br_f (nI_ge (by omega) (by omega)) ⟨hin, ?_⟩
    rw [hcl, hL2]
    refine dk_ofY (F := dk_sg L R s x i) (by omega) (hm _ (by omega)) ⟨hin, ?_⟩
    rw [hR2]
    refine dk_ofY (F := dk_sg L R s x i) (by omega) (hm _ (by omega)) ?_
    rw [e6, hc6, dk_mul]
    refine ⟨vp_in_nI (by omega) (by decide), nm_e (nm_r (nI_1 _) ?_)⟩
    refine ih (i + 1) _ (by omega) ?_
    intro j hj
    show _ = dk_b (if j = 6 + i then _ else _)
    by_cases h : j = 6 + i
    · rw [h, pk_us, if_pos rfl]
    · rw [pk_un h, if_neg h]
      exact hm j (by omega)
theorem dk_workY9 {post : SY → Prop} {g bd s x : Nat} {p : Int32} {L R : Nat → Nat} {fs ss nl bg st ip : Nat → Int32} (hg : dk_H g fs ss L R) (hs : s < 16) (hx : x < 2) (hpx : p &&& 1 = nI x)
    (hp : ∀ sg : Nat → Int32, (∀ j, j < 6 + g → sg j = dk_b (dk_sg L R s x g j)) → post (nI g, nI bd, fs, ss, nl, bg, sg, st, ip)) :
    ∀ d l (sg : Nat → Int32), l + d = 5 → 1 ≤ l → (∀ j, j < l → sg j = dk_b (dk_s0 s x j)) → wY_work_9 post (nI s) p (nI g) (nI bd) (d + 1) (nI l) fs ss nl bg sg st ip := by
  intro d
  induction d with
  | zero =>
    intro l sg hi h1 hm
    have e : l = 5 := by omega
    subst e
    refine br_t (by decide) ?_
    rw [hpx]
    refine nm_e (Exists.intro (g + 1) (dk_workY44 hg hp g 0 _ (by omega) ?_))
    intro j hj
    show _ = dk_b (dk_s0 s x j)
    by_cases h : j = 5
    · rw [h, pk_us]
      exact dk_s0Y5 s hs x hx
    · rw [pk_un h]
      exact hm j (by omega)
  | succ d ih =>
    intro l sg hi h1 hm
    have hcl : (nI l).toNatClampNeg = l := nI_clamp (by omega)
    refine br_f (nI_ge (b := 5) (by omega) (by decide)) ⟨vp_in_nI (by omega) (by decide), ?_⟩
    rw [hcl, dk_s0Y s hs x hx l (by omega) h1]
    refine nm_e (nm_r (nI_1 _) ?_)
    refine ih (l + 1) _ (by omega) (by omega) ?_
    intro j hj
    by_cases h : j = l
    · rw [h, pk_us]
    · rw [pk_un h]
      exact hm j (by omega)
theorem dk_workY {post : SY → Prop} {g bd s x : Nat} {p : Int32} {L R : Nat → Nat} {fs ss nl bg sg st ip : Nat → Int32} (hg : dk_H g fs ss L R) (hs : s < 16) (hx : x < 2) (hpx : p &&& 1 = nI x)
    (hp : ∀ sg : Nat → Int32, (∀ j, j < 6 + g → sg j = dk_b (dk_sg L R s x g j)) → post (nI g, nI bd, fs, ss, nl, bg, sg, st, ip)) : wpY_work post (nI g, nI bd, fs, ss, nl, bg, sg, st, ip) (nI s) p := by
  refine nm_e (Exists.intro 5 (dk_workY9 hg hs hx hpx hp 4 1 _ (by omega) (by omega) ?_))
  intro j hj
  have e : j = 0 := by omega
  rw [e, pk_us]
  exact dk_s0Y0 s x
