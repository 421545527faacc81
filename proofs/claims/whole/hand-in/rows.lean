section
/-! rows of the kit, pasted -/
def bt (x : Int32) (i : Nat) : Bool := x.toBitVec.getLsbD i
theorem b_ext {x y : Int32} (h : ∀ i, i < 32 → bt x i = bt y i) : x = y := Int32.toBitVec_inj.mp (BitVec.eq_of_getLsbD_eq (fun i hi => h i hi))
theorem b_or (x y : Int32) (i : Nat) : bt (x ||| y) i = (bt x i || bt y i) := by unfold bt; rw [Int32.toBitVec_or, BitVec.getLsbD_or]
theorem b_and (x y : Int32) (i : Nat) : bt (x &&& y) i = (bt x i && bt y i) := by unfold bt; rw [Int32.toBitVec_and, BitVec.getLsbD_and]
theorem b_big {x : Int32} {i : Nat} (h : 32 ≤ i) : bt x i = false := BitVec.getLsbD_of_ge _ _ h
theorem b_0 (i : Nat) : bt 0 i = false := BitVec.getLsbD_zero
theorem s_l : ∀ n, n < 32 → ((nI n &&& 31).toBitVec.smod 32).toNat = n := by decide +kernel
theorem b_shl (n : Nat) (hn : n < 32) (x : Int32) {i : Nat} (hi : i < 32) : bt (x <<< (nI n &&& 31)) i = (decide (n ≤ i) && bt x (i - n)) := by
  unfold bt
  rw [Int32.toBitVec_shiftLeft]
  show (x.toBitVec <<< ((nI n &&& 31).toBitVec.smod 32).toNat).getLsbD i = _
  rw [s_l n hn, BitVec.getLsbD_shiftLeft]
  rcases Nat.lt_or_ge i n with h | h
  · simp [h, Nat.not_le.mpr h]
  · simp [hi, h, Nat.not_lt.mpr h]
theorem b_sshr (n : Nat) (hn : n < 32) (x : Int32) {i : Nat} (hi : i < 32) : bt (x >>> (nI n &&& 31)) i = if n + i < 32 then bt x (n + i) else bt x 31 := by
  unfold bt
  rw [Int32.toBitVec_shiftRight]
  show (x.toBitVec.sshiftRight ((nI n &&& 31).toBitVec.smod 32).toNat).getLsbD i = _
  rw [s_l n hn, BitVec.getLsbD_sshiftRight, BitVec.msb_eq_getLsbD_last]
  simp [hi]
theorem pk_us {f : Nat → Int32} {k : Nat} {x : Int32} : upd f k x k = x := if_pos rfl
theorem pk_un {f : Nat → Int32} {k j : Nat} {x : Int32} (h : j ≠ k) : upd f k x j = f j := if_neg h
theorem pk_sub {a b : Nat} (h : b ≤ a) : nI a - nI b = nI (a - b) := by
  obtain ⟨c, rfl⟩ : ∃ c, a = c + b := ⟨a - b, by omega⟩
  rw [← nI_add, Int32.add_sub_cancel, Nat.add_sub_cancel]
theorem pk_mul (a b : Nat) : nI a * nI b = nI (a * b) := (Int32.ofNat_mul a b).symm
theorem pk_div {a d : Nat} (ha : a < 2 ^ 31) (h0 : 0 < d) (hd : d < 2 ^ 31) : nI a / nI d = nI (a / d) := by
  apply Int32.toInt_inj.mp
  rw [lg_idiv_nonneg (by rw [nI_toInt ha]; omega) (by rw [nI_toInt hd]; omega), nI_toInt ha, nI_toInt hd, nI_toInt (Nat.lt_of_le_of_lt (Nat.div_le_self a d) ha)]
  first | rfl | exact (Int.natCast_ediv _ _).symm
theorem pk_rem {a d : Nat} (ha : a < 2 ^ 31) (h0 : 0 < d) (hd : d < 2 ^ 31) : nI a - nI a / nI d * nI d = nI (a % d) := by
  rw [pk_div ha h0 hd, pk_mul, pk_sub (Nat.div_mul_le_self a d)]
  exact congrArg nI (by have := Nat.div_add_mod' a d; omega)
theorem pk_ix (x : Int32) {n : Nat} (hn : n < 2 ^ 31) : x < 0 ∨ nI n ≤ x ∨ ∃ j : Nat, j < n ∧ x = nI j := by
  by_cases h : x < 0
  · exact Or.inl h
  · obtain ⟨j, hj, rfl⟩ := nI_of h
    by_cases h2 : j < n
    · exact Or.inr (Or.inr ⟨j, h2, rfl⟩)
    · exact Or.inr (Or.inl (nI_le (by omega) hj))
theorem pk_le {x y : Int32} {A B : Prop} (a b : Nat) (f : a ≤ b → A) (g : b < a → B) (hx : x = nI a := by rfl) (hy : y = nI b := by rfl) (ha : a < 2 ^ 31 := by omega) (hb : b < 2 ^ 31 := by omega) : (x ≤ y → A) ∧ (¬ x ≤ y → B) := by
  subst hx hy
  rw [nI_leI ha hb]
  exact ⟨f, fun z => g (by omega)⟩
theorem pk_lt {x y : Int32} {A B : Prop} (a b : Nat) (f : a < b → A) (g : b ≤ a → B) (hx : x = nI a := by rfl) (hy : y = nI b := by rfl) (ha : a < 2 ^ 31 := by omega) (hb : b < 2 ^ 31 := by omega) : (x < y → A) ∧ (¬ x < y → B) := by
  subst hx hy
  rw [nI_ltI ha hb]
  exact ⟨f, fun z => g (by omega)⟩
theorem pk_eq {x y : Int32} {A B : Prop} (a b : Nat) (f : a = b → A) (g : a ≠ b → B) (hx : x = nI a := by rfl) (hy : y = nI b := by rfl) (ha : a < 2 ^ 31 := by omega) (hb : b < 2 ^ 31 := by omega) : (x = y → A) ∧ (¬ x = y → B) := by
  subst hx hy
  rw [nI_eq ha hb]
  exact ⟨f, g⟩
theorem pk_in {x : Int32} (n N : Nat) (h : n < N) (hx : x = nI n := by rfl) (hN : N < 2 ^ 31 := by omega) : vp_in x N := by
  subst hx
  exact vp_in_nI h hN
theorem pk_cl {x : Int32} (n : Nat) (hx : x = nI n := by rfl) (h : n < 2 ^ 31 := by omega) : x.toNatClampNeg = n := by
  subst hx
  exact nI_clamp h
theorem pk_tn {n : Nat} (h : n < 2 ^ 32) : (nI n).toBitVec.toNat = n := Nat.mod_eq_of_lt h
theorem pk_and (x : Int32) {m : Int32} (k : Nat) (hm : m.toBitVec.toNat = 2 ^ k - 1) : x &&& m = nI (x.toBitVec.toNat % 2 ^ k) := by
  apply Int32.toBitVec_inj.mp
  apply BitVec.eq_of_toNat_eq
  rw [Int32.toBitVec_and, BitVec.toNat_and, hm, Nat.and_two_pow_sub_one_eq_mod]
  show _ = (BitVec.ofNat 32 _).toNat
  rw [BitVec.toNat_ofNat]
  exact (Nat.mod_eq_of_lt (Nat.lt_of_le_of_lt (Nat.mod_le _ _) x.toBitVec.isLt)).symm
theorem pk_andN {n : Nat} (h : n < 2 ^ 32) {m : Int32} (k : Nat) (hm : m.toBitVec.toNat = 2 ^ k - 1) : nI n &&& m = nI (n % 2 ^ k) := by
  rw [pk_and _ k hm, pk_tn h]
theorem pk_andE (x : Int32) {m : Int32} (k : Nat) (hm : m.toBitVec.toNat = 2 ^ k - 1) : ∃ j : Nat, j < 2 ^ k ∧ x &&& m = nI j := ⟨_, Nat.mod_lt _ (Nat.two_pow_pos k), pk_and x k hm⟩
theorem pk_shl (a s : Int32) (k : Nat) (hs : (s.toBitVec.smod 32).toNat = k) : (a <<< s).toBitVec.toNat = a.toBitVec.toNat * 2 ^ k % 2 ^ 32 := by
  show (a.toBitVec <<< (s.toBitVec.smod 32).toNat).toNat = _
  rw [hs, BitVec.toNat_shiftLeft, Nat.shiftLeft_eq]
theorem pk_shlN {n : Nat} (s : Int32) (k : Nat) (hs : (s.toBitVec.smod 32).toNat = k) (h : n * 2 ^ k < 2 ^ 32) : nI n <<< s = nI (n * 2 ^ k) := by
  apply Int32.toBitVec_inj.mp
  apply BitVec.eq_of_toNat_eq
  have hn : n < 2 ^ 32 := Nat.lt_of_le_of_lt (Nat.le_mul_of_pos_right n (Nat.two_pow_pos k)) h
  rw [pk_shl _ _ k hs, pk_tn hn, pk_tn h, Nat.mod_eq_of_lt h]
theorem pk_shr (a s : Int32) (k : Nat) (hs : (s.toBitVec.smod 32).toNat = k) : (a >>> s).toInt = a.toInt >>> k := by
  show (a.toBitVec.sshiftRight (s.toBitVec.smod 32).toNat).toInt = _
  rw [hs, BitVec.toInt_sshiftRight]
  rfl
theorem pk_shrN {n : Nat} (h : n < 2 ^ 31) (s : Int32) (k : Nat) (hs : (s.toBitVec.smod 32).toNat = k) : nI n >>> s = nI (n / 2 ^ k) := by
  apply Int32.toInt_inj.mp
  have h2 : n / 2 ^ k ≤ n := Nat.div_le_self _ _
  rw [pk_shr _ _ k hs, nI_toInt h, nI_toInt (by omega), Int.shiftRight_eq_div_pow]
  rfl
end
section
/-! the signals: the class's mask and the reference's array against one function to Bool -/
def dk_b (c : Bool) : Int32 := if c then 1 else 0
theorem dk_1 (i : Nat) : bt 1 i = decide (i = 0) := by
  rcases Nat.lt_or_ge i 32 with h | h
  · exact (by decide +kernel : ∀ i, i < 32 → bt 1 i = decide (i = 0)) i h
  · rw [b_big h, decide_eq_false (by omega)]
theorem dk_bb (c : Bool) (i : Nat) : bt (dk_b c) i = (c && decide (i = 0)) := by
  cases c
  · exact b_0 i
  · exact (dk_1 i).trans (by simp)
theorem dk_bit (m : Int32) (k : Nat) (hk : k < 32) : (m >>> (nI k &&& 31)) &&& 1 = dk_b (bt m k) := by
  apply b_ext
  intro i hi
  rw [b_and, dk_1, dk_bb, b_sshr k hk m hi]
  by_cases h : i = 0
  · subst h
    simp [hk]
  · simp [h]
def dk_l (f : Nat → Bool) (a : Nat) : Bool := f (a / 2) ^^ decide (a % 2 = 1)
theorem dk_l_eq {f h : Nat → Bool} {a : Nat} (e : f (a / 2) = h (a / 2)) : dk_l f a = dk_l h a := by
  unfold dk_l
  rw [e]
theorem dk_x01 (c : Bool) (a : Nat) (h : a < 2) : dk_b c ^^^ nI a = dk_b (c ^^ decide (a = 1)) := by
  have h2 : a = 0 ∨ a = 1 := by omega
  rcases h2 with rfl | rfl <;> cases c <;> decide
theorem dk_not (c : Bool) : 1 - dk_b c = dk_b (!c) := by cases c <;> decide
theorem dk_mul (c d : Bool) : dk_b c * dk_b d = dk_b (c && d) := by cases c <;> cases d <;> decide
theorem dk_litX {post : Int32 → Prop} {a : Nat} {m : Int32} (ha : a < 32) (h : post (dk_b (dk_l (bt m) a))) : wpX_literalValue post (nI a) m := by
  have e1 : nI a >>> ((1 : Int32) &&& 31) = nI (a / 2) := pk_shrN (by omega) _ 1 (by decide)
  have e2 : nI a &&& 1 = nI (a % 2) := pk_andN (by omega) 1 (by decide)
  unfold wpX_literalValue
  rw [e1, e2, dk_bit m (a / 2) (by omega)]
  intro x ex
  rw [ex, dk_x01 _ _ (by omega)]
  exact h
theorem dk_ofY {post : Int32 → Prop} {q0 q1 : Int32} {fs ss nl bg sg st ip : Nat → Int32} {F : Nat → Bool} {a : Nat} (ha : a < 32) (hF : sg (a / 2) = dk_b (F (a / 2))) (h : post (dk_b (dk_l F a))) : wpY_of post (q0, q1, fs, ss, nl, bg, sg, st, ip) (nI a) := by
  have e1 : nI a - nI a / 2 * 2 = nI (a % 2) := pk_rem (d := 2) (by omega) (by decide) (by decide)
  have e2 : nI a / 2 = nI (a / 2) := pk_div (d := 2) (by omega) (by decide) (by decide)
  have hi : vp_in (nI (a / 2)) 16 := vp_in_nI (by omega) (by decide)
  unfold wpY_of
  dsimp only
  rw [e1, e2, nI_clamp (by omega), hF]
  refine ⟨by decide, pk_eq (a % 2) 0 (fun z => ⟨by decide, hi, ?_⟩) (fun z => ⟨by decide, hi, ?_⟩)⟩
  · have e : dk_l F a = F (a / 2) := by simp [dk_l, z]
    rw [← e]
    exact h
  · have z1 : a % 2 = 1 := by omega
    have e : dk_l F a = !F (a / 2) := by simp [dk_l, z1]
    rw [dk_not, ← e]
    exact h
def dk_s0 (s x : Nat) (j : Nat) : Bool := if j = 5 then x.testBit 0 else (decide (1 ≤ j) && (decide (j < 5) && s.testBit (j - 1)))
theorem dk_s0X : ∀ s, s < 16 → ∀ x, x < 2 → ∀ j, j < 32 → bt ((nI s <<< ((1 : Int32) &&& 31)) ||| (nI x <<< ((5 : Int32) &&& 31))) j = dk_s0 s x j := by decide +kernel
theorem dk_s0Y : ∀ s, s < 16 → ∀ x, x < 2 → ∀ l, l < 5 → 1 ≤ l → (nI s >>> ((nI l - 1) &&& 31)) &&& 1 = dk_b (dk_s0 s x l) := by decide +kernel
theorem dk_s0Y5 : ∀ s, s < 16 → ∀ x, x < 2 → nI x = dk_b (dk_s0 s x 5) := by decide +kernel
theorem dk_s0Y0 (s x : Nat) : 0 = dk_b (dk_s0 s x 0) := rfl
def dk_sg (L R : Nat → Nat) (s x : Nat) : Nat → Nat → Bool
  | 0 => dk_s0 s x
  | g + 1 => fun j => if j = 6 + g then dk_l (dk_sg L R s x g) (L g) && dk_l (dk_sg L R s x g) (R g) else dk_sg L R s x g j
theorem dk_sgHi {L R : Nat → Nat} {s x : Nat} : ∀ g j, 6 + g ≤ j → dk_sg L R s x g j = false := by
  intro g
  induction g with
  | zero =>
    intro j hj
    show dk_s0 s x j = false
    unfold dk_s0
    rw [if_neg (by omega), decide_eq_false (p := j < 5) (by omega)]
    simp
  | succ g ih =>
    intro j hj
    show (if j = 6 + g then _ else _) = false
    rw [if_neg (by omega)]
    exact ih j (by omega)
def dk_H (g : Nat) (A B : Nat → Int32) (L R : Nat → Nat) : Prop := g ≤ 10 ∧ ∀ j, j < g → (L j < 2 * (6 + j) ∧ A j = nI (L j)) ∧ (R j < 2 * (6 + j) ∧ B j = nI (R j))
theorem dk_sigX12 {post : Int32 → Prop} {g bd s x : Nat} {L R : Nat → Nat} {gl gr nl bg sa ba : Nat → Int32} (hg : dk_H g (fun j => gl (6 + j)) (fun j => gr (6 + j)) L R)
    (hp : ∀ m, (∀ j, j < 32 → bt m j = dk_sg L R s x g j) → post m) :
    ∀ d i m, i + d = g → (∀ j, j < 32 → bt m j = dk_sg L R s x i j) → wX_signalValues_12 post (nI (6 + g)) (nI bd) gl gr nl bg sa ba (d + 1) m (nI (6 + i)) := by
  have hg1 := hg.1
  intro d
  induction d with
  | zero =>
    intro i m hi hm
    have e : i = g := by omega
    subst e
    exact br_t (nI_le (Nat.le_refl _) (by omega)) (hp m hm)
  | succ d ih =>
    intro i m hi hm
    have hin : vp_in (nI (6 + i)) 16 := vp_in_nI (by omega) (by decide)
    have hL1 : L i < 2 * (6 + i) := (hg.2 i (by omega)).1.1
    have hL2 : gl (6 + i) = nI (L i) := (hg.2 i (by omega)).1.2
    have hR1 : R i < 2 * (6 + i) := (hg.2 i (by omega)).2.1
    have hR2 : gr (6 + i) = nI (R i) := (hg.2 i (by omega)).2.2
    have hcl : (nI (6 + i)).toNatClampNeg = 6 + i := nI_clamp (by omega)
    refine br_f (nI_ge (by omega) (by omega)) ⟨hin, ?_⟩
    rw [hcl, hL2]
    refine dk_litX (by omega) ⟨hin, ?_⟩
    rw [hR2]
    refine dk_litX (by omega) (nm_e (nm_r (nI_1 _) ?_))
    refine ih (i + 1) _ (by omega) ?_
    intro j hj
    have el : dk_l (bt m) (L i) = dk_l (dk_sg L R s x i) (L i) := dk_l_eq (hm _ (by omega))
    have er : dk_l (bt m) (R i) = dk_l (dk_sg L R s x i) (R i) := dk_l_eq (hm _ (by omega))
    rw [b_or, b_shl (6 + i) (by omega) _ hj, b_and, dk_bb, dk_bb, hm j hj, el, er]
    show _ = if j = 6 + i then _ else _
    by_cases h : j = 6 + i
    · subst h
      rw [dk_sgHi i _ (Nat.le_refl _), if_pos rfl]
      simp
    · rw [if_neg h]
      by_cases h3 : 6 + i ≤ j
      · rw [decide_eq_false (p := j - (6 + i) = 0) (by omega)]
        simp
      · rw [decide_eq_false h3]
        simp
theorem dk_sigX {post : Int32 → Prop} {g bd s x : Nat} {L R : Nat → Nat} {gl gr nl bg sa ba : Nat → Int32} (hg : dk_H g (fun j => gl (6 + j)) (fun j => gr (6 + j)) L R) (hs : s < 16) (hx : x < 2)
    (hp : ∀ m, (∀ j, j < 32 → bt m j = dk_sg L R s x g j) → post m) : wpX_signalValues post (nI (6 + g), nI bd, gl, gr, nl, bg, sa, ba) (nI s) (nI x) :=
  nm_e (Exists.intro (g + 1) (dk_sigX12 hg hp g 0 _ (by omega) (dk_s0X s hs x hx)))
theorem dk_workY44 {post : SY → Prop} {g bd s x : Nat} {L R : Nat → Nat} {fs ss nl bg st ip : Nat → Int32} (hg : dk_H g fs ss L R)
    (hp : ∀ sg : Nat → Int32, (∀ j, j < 6 + g → sg j = dk_b (dk_sg L R s x g j)) → post (nI g, nI bd, fs, ss, nl, bg, sg, st, ip)) :
    ∀ d i (sg : Nat → Int32), i + d = g → (∀ j, j < 6 + i → sg j = dk_b (dk_sg L R s x i j)) → wY_work_44 post (nI g) (nI bd) (d + 1) (nI i) fs ss nl bg sg st ip := by
  have hg1 := hg.1
  intro d
  induction d with
  | zero =>
    intro i sg hi hm
    have e : i = g := by omega
    subst e
    exact br_t (nI_le (Nat.le_refl _) (by omega)) (hp sg hm)
  | succ d ih =>
    intro i sg hi hm
    have hin : vp_in (nI i) 10 := vp_in_nI (by omega) (by decide)
    obtain ⟨⟨hL1, hL2⟩, hR1, hR2⟩ := hg.2 i (by omega)
    have hcl : (nI i).toNatClampNeg = i := nI_clamp (by omega)
    have e6 : 6 + nI i = nI (6 + i) := nI_add 6 i
    have hc6 : (nI (6 + i)).toNatClampNeg = 6 + i := nI_clamp (by omega)
    refine br_f (nI_ge (by omega) (by omega)) ⟨hin, ?_⟩
    rw [hcl, hL2]
    refine dk_ofY (F := dk_sg L R s x i) (by omega) (hm _ (by omega)) ⟨hin, ?_⟩
    rw [hR2]
    refine dk_ofY (F := dk_sg L R s x i) (by omega) (hm _ (by omega)) ?_
    rw [e6, hc6, dk_mul]
    refine ⟨vp_in_nI (by omega) (by decide), nm_e (nm_r (nI_1 _) ?_)⟩
    refine ih (i + 1) _ (by omega) ?_
    intro j hj
    show _ = dk_b (if j = 6 + i then _ else _)
    by_cases h : j = 6 + i
    · rw [h, pk_us, if_pos rfl]
    · rw [pk_un h, if_neg h]
      exact hm j (by omega)
theorem dk_workY9 {post : SY → Prop} {g bd s x : Nat} {p : Int32} {L R : Nat → Nat} {fs ss nl bg st ip : Nat → Int32} (hg : dk_H g fs ss L R) (hs : s < 16) (hx : x < 2) (hpx : p &&& 1 = nI x)
    (hp : ∀ sg : Nat → Int32, (∀ j, j < 6 + g → sg j = dk_b (dk_sg L R s x g j)) → post (nI g, nI bd, fs, ss, nl, bg, sg, st, ip)) :
    ∀ d l (sg : Nat → Int32), l + d = 5 → 1 ≤ l → (∀ j, j < l → sg j = dk_b (dk_s0 s x j)) → wY_work_9 post (nI s) p (nI g) (nI bd) (d + 1) (nI l) fs ss nl bg sg st ip := by
  intro d
  induction d with
  | zero =>
    intro l sg hi h1 hm
    have e : l = 5 := by omega
    subst e
    refine br_t (by decide) ?_
    rw [hpx]
    refine nm_e (Exists.intro (g + 1) (dk_workY44 hg hp g 0 _ (by omega) ?_))
    intro j hj
    show _ = dk_b (dk_s0 s x j)
    by_cases h : j = 5
    · rw [h, pk_us]
      exact dk_s0Y5 s hs x hx
    · rw [pk_un h]
      exact hm j (by omega)
  | succ d ih =>
    intro l sg hi h1 hm
    have hcl : (nI l).toNatClampNeg = l := nI_clamp (by omega)
    refine br_f (nI_ge (b := 5) (by omega) (by decide)) ⟨vp_in_nI (by omega) (by decide), ?_⟩
    rw [hcl, dk_s0Y s hs x hx l (by omega) h1]
    refine nm_e (nm_r (nI_1 _) ?_)
    refine ih (l + 1) _ (by omega) (by omega) ?_
    intro j hj
    by_cases h : j = l
    · rw [h, pk_us]
    · rw [pk_un h]
      exact hm j (by omega)
theorem dk_workY {post : SY → Prop} {g bd s x : Nat} {p : Int32} {L R : Nat → Nat} {fs ss nl bg sg st ip : Nat → Int32} (hg : dk_H g fs ss L R) (hs : s < 16) (hx : x < 2) (hpx : p &&& 1 = nI x)
    (hp : ∀ sg : Nat → Int32, (∀ j, j < 6 + g → sg j = dk_b (dk_sg L R s x g j)) → post (nI g, nI bd, fs, ss, nl, bg, sg, st, ip)) : wpY_work post (nI g, nI bd, fs, ss, nl, bg, sg, st, ip) (nI s) p := by
  refine nm_e (Exists.intro 5 (dk_workY9 hg hs hx hpx hp 4 1 _ (by omega) (by omega) ?_))
  intro j hj
  have e : j = 0 := by omega
  rw [e, pk_us]
  exact dk_s0Y0 s x
end
section
/-! bad and step: the class's two tables, the reference's isBad and step -/
def dk_HN (g bd : Nat) (nl : Nat → Int32) (N : Nat → Nat) : Prop := bd < 2 * (6 + g) ∧ ∀ l, 1 ≤ l → l < 5 → N l < 2 * (6 + g) ∧ nl l = nI (N l)
def dk_n4 (p q r t : Bool) : Nat := p.toNat + 2 * q.toNat + 4 * r.toNat + 8 * t.toNat
theorem dk_n4lt (p q r t : Bool) : dk_n4 p q r t < 16 := by cases p <;> cases q <;> cases r <;> cases t <;> decide
def dk_ac (P : Nat → Bool) : Nat → Int32
  | 0 => 0
  | l + 1 => dk_ac P l ||| (dk_b (P (l + 1)) <<< ((nI (l + 1) - 1) &&& 31))
theorem dk_or4 : ∀ p q r t : Bool, ((((0 ||| (dk_b p <<< ((nI 1 - 1) &&& 31))) ||| (dk_b q <<< ((nI 2 - 1) &&& 31))) ||| (dk_b r <<< ((nI 3 - 1) &&& 31))) ||| (dk_b t <<< ((nI 4 - 1) &&& 31))) = nI (dk_n4 p q r t) := by decide +kernel
theorem dk_ac4 (P : Nat → Bool) : dk_ac P 4 = nI (dk_n4 (P 1) (P 2) (P 3) (P 4)) := dk_or4 (P 1) (P 2) (P 3) (P 4)
def dk_T (g : Nat) (L R N : Nat → Nat) (s x : Nat) : Nat := dk_n4 (dk_l (dk_sg L R s x g) (N 1)) (dk_l (dk_sg L R s x g) (N 2)) (dk_l (dk_sg L R s x g) (N 3)) (dk_l (dk_sg L R s x g) (N 4))
def dk_B (g bd : Nat) (L R : Nat → Nat) (s x : Nat) : Bool := dk_l (dk_sg L R s x g) bd
theorem dk_Tlt (g : Nat) (L R N : Nat → Nat) (s x : Nat) : dk_T g L R N s x < 16 := dk_n4lt _ _ _ _
theorem dk_reX4 {post : Int32 → Prop} {g bd : Nat} {m : Int32} {F : Nat → Bool} {N : Nat → Nat} {gl gr nl bg sa ba : Nat → Int32} (hg : g ≤ 10) (hN : dk_HN g bd nl N) (hm : ∀ j, j < 32 → bt m j = F j)
    (hp : post (dk_ac (fun l => dk_l F (N l)) 4)) :
    ∀ d l, l + d = 4 → wX_stateReached_4 post m (nI (6 + g)) (nI bd) gl gr nl bg sa ba (d + 1) (dk_ac (fun l => dk_l F (N l)) l) (nI (l + 1)) := by
  intro d
  induction d with
  | zero =>
    intro l hl
    have e : l = 4 := by omega
    subst e
    exact br_t (by decide) hp
  | succ d ih =>
    intro l hl
    have hcl : (nI (l + 1)).toNatClampNeg = l + 1 := nI_clamp (by omega)
    obtain ⟨h1, h2⟩ := hN.2 (l + 1) (by omega) (by omega)
    refine br_f (nI_nlt (a := 4) (by omega) (by omega)) ⟨vp_in_nI (by omega) (by decide), ?_⟩
    rw [hcl, h2]
    refine dk_litX (by omega) (nm_e (nm_r (nI_1 _) ?_))
    have e : dk_l (bt m) (N (l + 1)) = dk_l F (N (l + 1)) := dk_l_eq (hm _ (by omega))
    rw [e]
    exact ih (l + 1) (by omega)
theorem dk_reX {post : Int32 → Prop} {g bd : Nat} {m : Int32} {F : Nat → Bool} {N : Nat → Nat} {gl gr nl bg sa ba : Nat → Int32} (hg : g ≤ 10) (hN : dk_HN g bd nl N) (hm : ∀ j, j < 32 → bt m j = F j)
    (hp : post (nI (dk_n4 (dk_l F (N 1)) (dk_l F (N 2)) (dk_l F (N 3)) (dk_l F (N 4))))) : wpX_stateReached post (nI (6 + g), nI bd, gl, gr, nl, bg, sa, ba) m := by
  refine Exists.intro 5 (dk_reX4 (F := F) hg hN hm ?_ 4 0 (by omega))
  rw [dk_ac4]
  exact hp
theorem dk_nar (c : Bool) : vp_nar .boolean (dk_b c) = dk_b c := by cases c <;> rfl
def dk_HT (sa ba : Nat → Int32) (T : Nat → Nat → Nat) (B : Nat → Nat → Bool) (p : Nat) : Prop := ∀ q, q < p → sa q = nI (T (q / 2) (q % 2)) ∧ ba q = dk_b (B (q / 2) (q % 2))
theorem dk_tabX2 {post : SX → Prop} {g bd : Nat} {L R N : Nat → Nat} {gl gr nl bg : Nat → Int32} (hg : dk_H g (fun j => gl (6 + j)) (fun j => gr (6 + j)) L R) (hN : dk_HN g bd nl N)
    (hp : ∀ sa ba : Nat → Int32, dk_HT sa ba (dk_T g L R N) (dk_B g bd L R) 32 → post (nI (6 + g), nI bd, gl, gr, nl, bg, sa, ba)) :
    ∀ d p (sa ba : Nat → Int32), p + d = 32 → dk_HT sa ba (dk_T g L R N) (dk_B g bd L R) p → wX_tabulateCircuit_2 post (nI (6 + g)) (nI bd) (d + 1) (nI p) gl gr nl bg sa ba := by
  have hg1 := hg.1
  have hbd := hN.1
  intro d
  induction d with
  | zero =>
    intro p sa ba hd hT
    have e : p = 32 := by omega
    subst e
    exact br_t (by decide) (hp sa ba hT)
  | succ d ih =>
    intro p sa ba hd hT
    have e1 : nI p >>> ((1 : Int32) &&& 31) = nI (p / 2) := pk_shrN (by omega) _ 1 (by decide)
    have e2 : nI p &&& 1 = nI (p % 2) := pk_andN (by omega) 1 (by decide)
    have hcl : (nI p).toNatClampNeg = p := nI_clamp (by omega)
    have hin : vp_in (nI p) 32 := vp_in_nI (by omega) (by decide)
    refine br_f (nI_ge (b := 32) (by omega) (by decide)) ?_
    rw [e1, e2]
    refine dk_sigX hg (by omega) (by omega) ?_
    intro m hm
    refine dk_litX (by omega) ?_
    have eB : dk_l (bt m) bd = dk_B g bd L R (p / 2) (p % 2) := dk_l_eq (hm _ (by omega))
    rw [eB]
    have key : ∀ z, z = dk_b (dk_B g bd L R (p / 2) (p % 2)) → wX_tabulateCircuit_41 post (wX_tabulateCircuit_2 post (nI (6 + g)) (nI bd) (d + 1)) (nI p) m z (nI p) (nI (6 + g)) (nI bd) gl gr nl bg sa ba := by
      intro z ez
      refine And.intro hin ?_
      rw [ez, dk_nar, hcl]
      refine nm_e ?_
      refine dk_reX hg1 hN hm ⟨hin, nm_e (nm_r (nI_1 _) ?_)⟩
      refine ih (p + 1) _ _ (by omega) ?_
      intro q hq
      by_cases h : q = p
      · rw [h, pk_us, pk_us]
        exact ⟨rfl, rfl⟩
      · rw [pk_un h, pk_un h]
        exact hT q (by omega)
    cases hb : dk_B g bd L R (p / 2) (p % 2)
    · rw [hb] at key
      exact br_f (by decide) (key 0 rfl)
    · rw [hb] at key
      exact br_t rfl (key 1 rfl)
theorem dk_tabX {post : SX → Prop} {g bd : Nat} {L R N : Nat → Nat} {gl gr nl bg sa ba : Nat → Int32} (hg : dk_H g (fun j => gl (6 + j)) (fun j => gr (6 + j)) L R) (hN : dk_HN g bd nl N)
    (hp : ∀ sa ba : Nat → Int32, dk_HT sa ba (dk_T g L R N) (dk_B g bd L R) 32 → post (nI (6 + g), nI bd, gl, gr, nl, bg, sa, ba)) : wpX_tabulateCircuit post (nI (6 + g), nI bd, gl, gr, nl, bg, sa, ba) :=
  Exists.intro 33 (dk_tabX2 hg hN hp 32 0 sa ba (by omega) (fun q hq => absurd hq (by omega)))
theorem dk_badY {post : Int32 → SY → Prop} {g bd s x : Nat} {L R N : Nat → Nat} {fs ss nl bg sg st ip : Nat → Int32} (hg : dk_H g fs ss L R) (hN : dk_HN g bd nl N) (hs : s < 16) (hx : x < 2)
    (hp : ∀ sg : Nat → Int32, post (dk_b (dk_B g bd L R s x)) (nI g, nI bd, fs, ss, nl, bg, sg, st, ip)) : wpY_isBad post (nI g, nI bd, fs, ss, nl, bg, sg, st, ip) (nI s) (nI x) := by
  have hg1 := hg.1
  have hbd := hN.1
  have ex : nI x &&& 1 = nI x := (pk_andN (by omega) 1 (by decide)).trans (congrArg nI (Nat.mod_eq_of_lt hx))
  unfold wpY_isBad
  dsimp only
  refine dk_workY hg hs hx ex ?_
  intro sg' hsg
  refine dk_ofY (F := dk_sg L R s x g) (by omega) (hsg _ (by omega)) ?_
  have h := hp sg'
  unfold dk_B at h
  cases hb : dk_l (dk_sg L R s x g) bd
  · rw [hb] at h
    exact br_f (by decide) h
  · rw [hb] at h
    exact br_t rfl h
theorem dk_stepY11 {post : Int32 → SY → Prop} {g bd : Nat} {F : Nat → Bool} {N : Nat → Nat} {fs ss nl bg sg st ip : Nat → Int32} (hg : g ≤ 10) (hN : dk_HN g bd nl N) (hm : ∀ j, j < 6 + g → sg j = dk_b (F j))
    (hp : post (dk_ac (fun l => dk_l F (N l)) 4) (nI g, nI bd, fs, ss, nl, bg, sg, st, ip)) :
    ∀ d l, l + d = 4 → wY_step_11 post (nI g) (nI bd) fs ss nl bg sg st ip (d + 1) (dk_ac (fun l => dk_l F (N l)) l) (nI (l + 1)) := by
  intro d
  induction d with
  | zero =>
    intro l hl
    have e : l = 4 := by omega
    subst e
    exact br_t (by decide) hp
  | succ d ih =>
    intro l hl
    have hcl : (nI (l + 1)).toNatClampNeg = l + 1 := nI_clamp (by omega)
    obtain ⟨h1, h2⟩ := hN.2 (l + 1) (by omega) (by omega)
    refine br_f (nI_ge (b := 5) (by omega) (by decide)) ⟨vp_in_nI (by omega) (by decide), ?_⟩
    rw [hcl, h2]
    refine dk_ofY (F := F) (by omega) (hm _ (by omega)) (nm_e (nm_r (nI_1 _) ?_))
    exact ih (l + 1) (by omega)
theorem dk_stepY {post : Int32 → SY → Prop} {g bd s x : Nat} {L R N : Nat → Nat} {fs ss nl bg sg st ip : Nat → Int32} (hg : dk_H g fs ss L R) (hN : dk_HN g bd nl N) (hs : s < 16) (hx : x < 2)
    (hp : ∀ sg : Nat → Int32, post (nI (dk_T g L R N s x)) (nI g, nI bd, fs, ss, nl, bg, sg, st, ip)) : wpY_step post (nI g, nI bd, fs, ss, nl, bg, sg, st, ip) (nI s) (nI x) := by
  have ex : nI x &&& 1 = nI x := (pk_andN (by omega) 1 (by decide)).trans (congrArg nI (Nat.mod_eq_of_lt hx))
  unfold wpY_step
  dsimp only
  refine dk_workY hg hs hx ex ?_
  intro sg' hsg
  refine Exists.intro 5 (dk_stepY11 (F := dk_sg L R s x g) hg.1 hN hsg ?_ 4 0 (by omega))
  rw [dk_ac4]
  exact hp sg'
end
section
/-! runs by their number -/
def dk_in (len n i : Nat) : Nat := n / 2 ^ (len - i) % 2
theorem dk_inlt (len n i : Nat) : dk_in len n i < 2 := Nat.mod_lt _ (by decide)
def dk_st (T : Nat → Nat → Nat) (len n : Nat) : Nat → Nat
  | 0 => n / 2 ^ (len + 1)
  | i + 1 => T (dk_st T len n i) (dk_in len n i)
theorem dk_stlt {T : Nat → Nat → Nat} (hT : ∀ s x, T s x < 16) {len n : Nat} (hn : n < 32 * 2 ^ len) : ∀ i, dk_st T len n i < 16 := by
  intro i
  cases i with
  | zero =>
    refine Nat.div_lt_of_lt_mul ?_
    rw [Nat.pow_succ]
    omega
  | succ i => exact hT _ _
def dk_nb (B : Nat → Nat → Bool) (T : Nat → Nat → Nat) (len n : Nat) : Nat → Bool
  | 0 => true
  | i + 1 => dk_nb B T len n i && !B (dk_st T len n i) (dk_in len n i)
theorem dk_nbF {B : Nat → Nat → Bool} {T : Nat → Nat → Nat} {len n i : Nat} (h : dk_nb B T len n i = false) : ∀ k, dk_nb B T len n (i + k) = false := by
  intro k
  induction k with
  | zero => exact h
  | succ k ih =>
    show (dk_nb B T len n (i + k) && _) = false
    rw [ih]
    rfl
def dk_run (B : Nat → Nat → Bool) (T : Nat → Nat → Nat) (len n : Nat) : Bool := dk_nb B T len n len && B (dk_st T len n len) (dk_in len n len)
theorem dk_e32 {len : Nat} (hl : len < 7) : 32 * 2 ^ len ≤ 2048 := by
  have h : 2 ^ len ≤ 2 ^ 6 := Nat.pow_le_pow_right (by decide) (by omega)
  omega
theorem dk_sh {len n : Nat} (hl : len < 7) (hn : n < 2048) : nI n >>> ((nI len + 1) &&& 31) = nI (n / 2 ^ (len + 1)) := by
  rw [nI_1]
  exact pk_shrN (by omega) _ (len + 1) (s_l _ (by omega))
theorem dk_inI {len n i : Nat} (hl : len < 7) (hn : n < 2048) (hi : i ≤ len) : (nI n >>> ((nI len - nI i) &&& 31)) &&& 1 = nI (dk_in len n i) := by
  have h : n / 2 ^ (len - i) ≤ n := Nat.div_le_self _ _
  rw [pk_sub hi, pk_shrN (by omega) _ (len - i) (s_l _ (by omega))]
  exact pk_andN (by omega) 1 (by decide)
theorem dk_inX {post : Int32 → Prop} {len n i : Nat} (hl : len < 7) (hn : n < 2048) (hi : i ≤ len) (h : post (nI (dk_in len n i))) : wpX_inputOfRun post (nI n) (nI len) (nI i) := by
  unfold wpX_inputOfRun
  rw [dk_inI hl hn hi]
  exact h
theorem dk_inMod {len n i : Nat} (hi : i ≤ len) : dk_in len (n % 2 ^ (len + 1)) i = dk_in len n i := by
  unfold dk_in
  have e : 2 ^ (len + 1) = 2 ^ (len - i) * 2 ^ (i + 1) := by
    rw [← Nat.pow_add]
    exact congrArg (2 ^ ·) (by omega)
  rw [e, Nat.mod_mul_right_div_self]
  exact Nat.mod_mod_of_dvd _ ⟨2 ^ i, by rw [Nat.pow_succ, Nat.mul_comm]⟩
theorem dk_pl (s x : Nat) : 2 * nI s + nI x = nI (2 * s + x) := by
  rw [show (2 : Int32) = nI 2 from rfl, pk_mul, nI_add]
theorem dk_narw (c : Bool) : narrow .boolean (.int (dk_b c)) = .int (dk_b c) := by cases c <;> rfl
/-! the class -/
def dk_HX (sa ba : Nat → Int32) (B : Nat → Nat → Bool) (T : Nat → Nat → Nat) : Prop := (∀ s x, T s x < 16) ∧ ∀ s x, s < 16 → x < 2 → sa (2 * s + x) = nI (T s x) ∧ ba (2 * s + x) = dk_b (B s x)
theorem dk_HTX {sa ba : Nat → Int32} {B : Nat → Nat → Bool} {T : Nat → Nat → Nat} (hT : ∀ s x, T s x < 16) (h : dk_HT sa ba T B 32) : dk_HX sa ba B T := by
  refine ⟨hT, ?_⟩
  intro s x hs hx
  have h2 := h (2 * s + x) (by omega)
  rw [show (2 * s + x) / 2 = s by omega, show (2 * s + x) % 2 = x by omega] at h2
  exact h2
theorem dk_soX10 {post : Int32 → Prop} {g bd len n k : Nat} {B : Nat → Nat → Bool} {T : Nat → Nat → Nat} {gl gr nl bg sa ba : Nat → Int32} (hX : dk_HX sa ba B T) (hl : len < 7) (hn : n < 32 * 2 ^ len) (hk : k ≤ len)
    (hp : post (nI (dk_st T len n k))) :
    ∀ d i, i + d = k → wX_stateOfRun_10 post (nI n) (nI len) (nI k) (nI (6 + g)) (nI bd) gl gr nl bg sa ba (d + 1) (nI (dk_st T len n i)) (nI i) := by
  have hn2 : n < 2048 := Nat.lt_of_lt_of_le hn (dk_e32 hl)
  intro d
  induction d with
  | zero =>
    intro i hi
    have e : i = k := by omega
    subst e
    exact br_t (nI_le (Nat.le_refl _) (by omega)) hp
  | succ d ih =>
    intro i hi
    have hs := dk_stlt hX.1 hn i
    have hx := dk_inlt len n i
    refine br_f (nI_ge (by omega) (by omega)) (dk_inX hl hn2 (by omega) ?_)
    rw [dk_pl, nI_clamp (by omega), (hX.2 _ _ hs hx).1]
    exact ⟨vp_in_nI (by omega) (by decide), nm_e (nm_r (nI_1 _) (ih (i + 1) (by omega)))⟩
theorem dk_soX {post : Int32 → Prop} {g bd len n k : Nat} {B : Nat → Nat → Bool} {T : Nat → Nat → Nat} {gl gr nl bg sa ba : Nat → Int32} (hX : dk_HX sa ba B T) (hl : len < 7) (hn : n < 32 * 2 ^ len) (hk : k ≤ len)
    (hp : post (nI (dk_st T len n k))) : wpX_stateOfRun post (nI (6 + g), nI bd, gl, gr, nl, bg, sa, ba) (nI n) (nI len) (nI k) :=
  nm_r (dk_sh hl (Nat.lt_of_lt_of_le hn (dk_e32 hl))) (Exists.intro (k + 1) (dk_soX10 hX hl hn hk hp k 0 (by omega)))
theorem dk_brX9 {post : Int32 → Prop} {g bd len n : Nat} {B : Nat → Nat → Bool} {T : Nat → Nat → Nat} {gl gr nl bg sa ba : Nat → Int32} (hX : dk_HX sa ba B T) (hl : len < 7) (hn : n < 32 * 2 ^ len)
    (hp : post (dk_b (dk_run B T len n))) :
    ∀ d i, i + d = len → dk_nb B T len n i = true → wX_isBadRun_9 post (nI n) (nI len) (nI (6 + g)) (nI bd) gl gr nl bg sa ba (d + 1) (nI (dk_st T len n i)) (nI i) := by
  have hn2 : n < 2048 := Nat.lt_of_lt_of_le hn (dk_e32 hl)
  intro d
  induction d with
  | zero =>
    intro i hi hb
    have e : i = len := by omega
    subst e
    have hs := dk_stlt hX.1 hn i
    have hx := dk_inlt i n i
    have e : dk_run B T i n = B (dk_st T i n i) (dk_in i n i) := by
      unfold dk_run
      rw [hb, Bool.true_and]
    refine br_t (nI_le (Nat.le_refl _) (by omega)) (dk_inX hl hn2 (by omega) ?_)
    rw [dk_pl, nI_clamp (by omega), (hX.2 _ _ hs hx).2, ← e]
    exact ⟨vp_in_nI (by omega) (by decide), dk_narw _, hp⟩
  | succ d ih =>
    intro i hi hb
    have hs := dk_stlt hX.1 hn i
    have hx := dk_inlt len n i
    have hv : vp_in (nI (2 * dk_st T len n i + dk_in len n i)) 32 := vp_in_nI (by omega) (by decide)
    refine br_f (nI_ge (by omega) (by omega)) (dk_inX hl hn2 (by omega) (nm_r (dk_pl _ _) ⟨hv, ?_⟩))
    rw [nI_clamp (by omega), (hX.2 _ _ hs hx).1, (hX.2 _ _ hs hx).2]
    cases hB : B (dk_st T len n i) (dk_in len n i)
    · refine br_t rfl ⟨hv, nm_e (nm_r (nI_1 _) (ih (i + 1) (by omega) ?_))⟩
      show (dk_nb B T len n i && !B (dk_st T len n i) (dk_in len n i)) = true
      rw [hb, hB]
      rfl
    · refine br_f (by decide) ?_
      have h1 : dk_nb B T len n (i + 1) = false := by
        show (dk_nb B T len n i && !B (dk_st T len n i) (dk_in len n i)) = false
        rw [hb, hB]
        rfl
      have h2 : dk_nb B T len n len = false := by
        have h3 := dk_nbF h1 d
        rw [show i + 1 + d = len by omega] at h3
        exact h3
      have h4 : dk_run B T len n = false := by
        unfold dk_run
        rw [h2]
        rfl
      rw [h4] at hp
      exact hp
theorem dk_brX {post : Int32 → Prop} {g bd len n : Nat} {B : Nat → Nat → Bool} {T : Nat → Nat → Nat} {gl gr nl bg sa ba : Nat → Int32} (hX : dk_HX sa ba B T) (hl : len < 7) (hn : n < 32 * 2 ^ len)
    (hp : post (dk_b (dk_run B T len n))) : wpX_isBadRun post (nI (6 + g), nI bd, gl, gr, nl, bg, sa, ba) (nI n) (nI len) :=
  nm_r (dk_sh hl (Nat.lt_of_lt_of_le hn (dk_e32 hl))) (Exists.intro (len + 1) (dk_brX9 hX hl hn hp len 0 (by omega) rfl))
def dk_df (f : Nat → Nat) : Nat → Int32 → Nat → Bool
  | 0, _, _ => true
  | d + 1, m, i => if ((m >>> (nI (f i) &&& 31)) &&& 1) = 1 then false else dk_df f d (m ||| ((1 : Int32) <<< (nI (f i) &&& 31))) (i + 1)
theorem dk_hdX5 {post : Int32 → Prop} {g bd len n : Nat} {B : Nat → Nat → Bool} {T : Nat → Nat → Nat} {gl gr nl bg sa ba : Nat → Int32} (hX : dk_HX sa ba B T) (hl : len < 7) (hn : n < 32 * 2 ^ len) :
    ∀ d m i, i + d = len + 1 → post (dk_b (dk_df (dk_st T len n) d m i)) → wX_hasDifferentStates_5 post (nI n) (nI len) (nI (6 + g)) (nI bd) gl gr nl bg sa ba (d + 1) m (nI i) := by
  intro d
  induction d with
  | zero =>
    intro m i hi hp
    exact br_t (nI_lt (by omega) (by omega)) hp
  | succ d ih =>
    intro m i hi hp
    refine br_f (nI_nlt (by omega) (by omega)) (dk_soX hX hl hn (by omega) ?_)
    unfold dk_df at hp
    by_cases h : ((m >>> (nI (dk_st T len n i) &&& 31)) &&& 1) = 1
    · rw [if_pos h] at hp
      exact br_t h hp
    · rw [if_neg h] at hp
      exact br_f h (nm_e (nm_r (nI_1 _) (ih _ (i + 1) (by omega) hp)))
def dk_dif (T : Nat → Nat → Nat) (len n : Nat) : Bool := dk_df (dk_st T len n) (len + 1) 0 0
theorem dk_hdX {post : Int32 → Prop} {g bd len n : Nat} {B : Nat → Nat → Bool} {T : Nat → Nat → Nat} {gl gr nl bg sa ba : Nat → Int32} (hX : dk_HX sa ba B T) (hl : len < 7) (hn : n < 32 * 2 ^ len)
    (hp : post (dk_b (dk_dif T len n))) : wpX_hasDifferentStates post (nI (6 + g), nI bd, gl, gr, nl, bg, sa, ba) (nI n) (nI len) :=
  Exists.intro (len + 2) (dk_hdX5 hX hl hn (len + 1) 0 0 (by omega) hp)
/-! the reference -/
def dk_HY (g bd : Nat) (fs ss nl bg : Nat → Int32) (B : Nat → Nat → Bool) (T : Nat → Nat → Nat) : Prop :=
  (∀ s x, T s x < 16) ∧
  (∀ (post : Int32 → SY → Prop) (sg st ip : Nat → Int32) (s x : Nat), s < 16 → x < 2 → (∀ sg : Nat → Int32, post (dk_b (B s x)) (nI g, nI bd, fs, ss, nl, bg, sg, st, ip)) → wpY_isBad post (nI g, nI bd, fs, ss, nl, bg, sg, st, ip) (nI s) (nI x)) ∧
  (∀ (post : Int32 → SY → Prop) (sg st ip : Nat → Int32) (s x : Nat), s < 16 → x < 2 → (∀ sg : Nat → Int32, post (nI (T s x)) (nI g, nI bd, fs, ss, nl, bg, sg, st, ip)) → wpY_step post (nI g, nI bd, fs, ss, nl, bg, sg, st, ip) (nI s) (nI x))
theorem dk_run68 {post : Int32 → SY → Prop} {J9 : Int32 → Int32 → Int32 → Int32 → Int32 → (Nat → Int32) → (Nat → Int32) → (Nat → Int32) → (Nat → Int32) → (Nat → Int32) → (Nat → Int32) → (Nat → Int32) → Prop} {x1 x3 x4 : Int32} {g bd s x i : Nat} {B : Nat → Nat → Bool} {T : Nat → Nat → Nat} {fs ss nl bg sg st ip : Nat → Int32} (hY : dk_HY g bd fs ss nl bg B T) (hs : s < 16) (hx : x < 2)
    (h : ∀ sg : Nat → Int32, J9 x4 (nI (T s x)) (nI (i + 1)) (nI g) (nI bd) fs ss nl bg sg st ip) : wY_run_68 post J9 x1 x3 x4 (nI s) (nI i) (nI x) (nI g) (nI bd) fs ss nl bg sg st ip := by
  unfold wY_run_68
  refine hY.2.2 _ _ _ _ _ _ hs hx ?_
  intro sg'
  exact nm_r (nI_1 _) (h sg')
theorem dk_run62 {post : Int32 → SY → Prop} {J9 : Int32 → Int32 → Int32 → Int32 → Int32 → (Nat → Int32) → (Nat → Int32) → (Nat → Int32) → (Nat → Int32) → (Nat → Int32) → (Nat → Int32) → (Nat → Int32) → Prop} {x1 x3 : Int32} {g bd s x i : Nat} {B : Nat → Nat → Bool} {T : Nat → Nat → Nat} {fs ss nl bg sg st ip : Nat → Int32} (hY : dk_HY g bd fs ss nl bg B T) (hs : s < 16) (hx : x < 2) (c p q : Bool)
    (h : ∀ sg : Nat → Int32, J9 (dk_b (c && (p == q))) (nI (T s x)) (nI (i + 1)) (nI g) (nI bd) fs ss nl bg sg st ip) : wY_run_62 post J9 x1 x3 (dk_b c) (nI s) (nI i) (nI x) (dk_b q) (dk_b p) (nI g) (nI bd) fs ss nl bg sg st ip := by
  have ht : (c && true) = c := Bool.and_true c
  have hf : (c && false) = false := Bool.and_false c
  cases p <;> cases q
  · rw [show (false == false) = true from rfl, ht] at h
    exact br_t rfl (dk_run68 hY hs hx h)
  · rw [show (false == true) = false from rfl, hf] at h
    exact br_f (by decide) (dk_run68 hY hs hx h)
  · rw [show (true == false) = false from rfl, hf] at h
    exact br_f (by decide) (dk_run68 hY hs hx h)
  · rw [show (true == true) = true from rfl, ht] at h
    exact br_t rfl (dk_run68 hY hs hx h)
theorem dk_run9 {post : Int32 → SY → Prop} {g bd len w s i f : Nat} {B : Nat → Nat → Bool} {T : Nat → Nat → Nat} {fs ss nl bg sg st ip : Nat → Int32} (hY : dk_HY g bd fs ss nl bg B T) (hl : len < 7) (hw : w < 2048) (hi : i ≤ len) (hs : s < 16) (c : Bool)
    (h : ∀ sg : Nat → Int32, wY_run_9 post (nI len) (nI w) f (dk_b (c && (B s (dk_in len w i) == decide (i = len)))) (nI (T s (dk_in len w i))) (nI (i + 1)) (nI g) (nI bd) fs ss nl bg sg (upd st i (nI s)) (upd ip i (nI (dk_in len w i)))) :
    wY_run_9 post (nI len) (nI w) (f + 1) (dk_b c) (nI s) (nI i) (nI g) (nI bd) fs ss nl bg sg st ip := by
  have hv : vp_in (nI i) 7 := vp_in_nI (by omega) (by decide)
  have hcl : (nI i).toNatClampNeg = i := nI_clamp (by omega)
  have hx := dk_inlt len w i
  refine br_f (nI_nlt (by omega) (by omega)) (nm_r (dk_inI hl hw hi) ⟨hv, ?_⟩)
  rw [hcl]
  refine nm_e ⟨hv, nm_e ?_⟩
  refine hY.2.1 _ _ _ _ _ _ hs hx ?_
  intro sg'
  refine pk_eq i len (fun e => ?_) (fun e => ?_)
  · rw [decide_eq_true e] at h
    exact dk_run62 hY hs hx c _ true h
  · rw [decide_eq_false e] at h
    exact dk_run62 hY hs hx c _ false h
theorem dk_runY9 {post : Int32 → SY → Prop} {g bd len n : Nat} {B : Nat → Nat → Bool} {T : Nat → Nat → Nat} {fs ss nl bg : Nat → Int32} (hY : dk_HY g bd fs ss nl bg B T) (hl : len < 7) (hn : n < 32 * 2 ^ len)
    (hp : ∀ sg st ip : Nat → Int32, (∀ j, j ≤ len → st j = nI (dk_st T len n j) ∧ ip j = nI (dk_in len n j)) → post (dk_b (dk_run B T len n)) (nI g, nI bd, fs, ss, nl, bg, sg, st, ip)) :
    ∀ d i (sg st ip : Nat → Int32), i + d = len → (∀ j, j < i → st j = nI (dk_st T len n j) ∧ ip j = nI (dk_in len n j)) → wY_run_9 post (nI len) (nI (n % 2 ^ (len + 1))) (d + 2) (dk_b (dk_nb B T len n i)) (nI (dk_st T len n i)) (nI i) (nI g) (nI bd) fs ss nl bg sg st ip := by
  have hn2 : n < 2048 := Nat.lt_of_lt_of_le hn (dk_e32 hl)
  have hw : n % 2 ^ (len + 1) < 2048 := Nat.lt_of_le_of_lt (Nat.mod_le _ _) hn2
  have key : ∀ (i : Nat) (st ip : Nat → Int32), (∀ j, j < i → st j = nI (dk_st T len n j) ∧ ip j = nI (dk_in len n j)) → ∀ j, j < i + 1 → upd st i (nI (dk_st T len n i)) j = nI (dk_st T len n j) ∧ upd ip i (nI (dk_in len n i)) j = nI (dk_in len n j) := by
    intro i st ip h j hj
    by_cases e : j = i
    · rw [e, pk_us, pk_us]
      exact ⟨rfl, rfl⟩
    · rw [pk_un e, pk_un e]
      exact h j (by omega)
  intro d
  induction d with
  | zero =>
    intro i sg st ip hi h
    have e : i = len := by omega
    subst e
    refine dk_run9 hY hl hw (Nat.le_refl _) (dk_stlt hY.1 hn i) _ ?_
    intro sg'
    rw [dk_inMod (Nat.le_refl _), decide_eq_true rfl]
    refine br_t (nI_lt (by omega) (by omega)) ⟨dk_narw _, ?_⟩
    have e2 : (dk_nb B T i n i && (B (dk_st T i n i) (dk_in i n i) == true)) = dk_run B T i n := by
      unfold dk_run
      cases B (dk_st T i n i) (dk_in i n i) <;> rfl
    rw [e2]
    exact hp _ _ _ (fun j hj => key i st ip h j (by omega))
  | succ d ih =>
    intro i sg st ip hi h
    refine dk_run9 hY hl hw (by omega) (dk_stlt hY.1 hn i) _ ?_
    intro sg'
    rw [dk_inMod (by omega), decide_eq_false (by omega)]
    have e2 : (dk_nb B T len n i && (B (dk_st T len n i) (dk_in len n i) == false)) = dk_nb B T len n (i + 1) := by
      show _ = (dk_nb B T len n i && !B (dk_st T len n i) (dk_in len n i))
      cases B (dk_st T len n i) (dk_in len n i) <;> rfl
    rw [e2]
    exact ih (i + 1) _ _ _ (by omega) (key i st ip h)
theorem dk_runY {post : Int32 → SY → Prop} {g bd len n : Nat} {B : Nat → Nat → Bool} {T : Nat → Nat → Nat} {fs ss nl bg sg st ip : Nat → Int32} (hY : dk_HY g bd fs ss nl bg B T) (hl : len < 7) (hn : n < 32 * 2 ^ len)
    (hp : ∀ sg st ip : Nat → Int32, (∀ j, j ≤ len → st j = nI (dk_st T len n j) ∧ ip j = nI (dk_in len n j)) → post (dk_b (dk_run B T len n)) (nI g, nI bd, fs, ss, nl, bg, sg, st, ip)) :
    wpY_run post (nI g, nI bd, fs, ss, nl, bg, sg, st, ip) (nI len) (nI (n / 2 ^ (len + 1))) (nI (n % 2 ^ (len + 1))) :=
  Exists.intro (len + 2) (dk_runY9 hY hl hn hp len 0 sg st ip (by omega) (fun j hj => absurd hj (by omega)))
theorem dk_difY4 {post : Int32 → Prop} {g bd len : Nat} {f : Nat → Nat} {fs ss nl bg sg st ip : Nat → Int32} (hl : len < 7) (hst : ∀ j, j ≤ len → st j = nI (f j)) :
    ∀ d m i, i + d = len + 1 → post (dk_b (dk_df f d m i)) → wY_different_4 post (nI len) (nI g) (nI bd) fs ss nl bg sg st ip (d + 1) m (nI i) := by
  intro d
  induction d with
  | zero =>
    intro m i hi hp
    exact br_t (nI_lt (by omega) (by omega)) hp
  | succ d ih =>
    intro m i hi hp
    have hv : vp_in (nI i) 7 := vp_in_nI (by omega) (by decide)
    have hcl : (nI i).toNatClampNeg = i := nI_clamp (by omega)
    refine br_f (nI_nlt (by omega) (by omega)) ⟨hv, ?_⟩
    rw [hcl, hst i (by omega)]
    unfold dk_df at hp
    by_cases h : ((m >>> (nI (f i) &&& 31)) &&& 1) = 1
    · rw [if_pos h] at hp
      exact br_t h hp
    · rw [if_neg h] at hp
      exact br_f h ⟨hv, nm_e (nm_r (nI_1 _) (ih _ (i + 1) (by omega) hp))⟩
theorem dk_difY {post : Int32 → Prop} {g bd len n : Nat} {T : Nat → Nat → Nat} {fs ss nl bg sg st ip : Nat → Int32} (hl : len < 7) (hst : ∀ j, j ≤ len → st j = nI (dk_st T len n j))
    (hp : post (dk_b (dk_dif T len n))) : wpY_different post (nI g, nI bd, fs, ss, nl, bg, sg, st, ip) (nI len) :=
  Exists.intro (len + 2) (dk_difY4 hl hst (len + 1) 0 0 (by omega) hp)
end
section
/-! beginnings -/
def dk_bg (b : Nat → Int32) (z : Int32) : Nat → Bool
  | 0 => true
  | d + 1 => (decide (b (4 - d) = 2) || decide (b (4 - d) = (z >>> ((nI (4 - d) - 1) &&& 31)) &&& 1)) && dk_bg b z d
theorem dk_begX2 {post : Int32 → Prop} {g bd : Nat} {z : Int32} {gl gr nl bg sa ba : Nat → Int32} :
    ∀ d l, l + d = 5 → 1 ≤ l → post (dk_b (dk_bg bg z d)) → wX_isBeginningState_2 post z (nI (6 + g)) (nI bd) gl gr nl bg sa ba (d + 1) (nI l) := by
  intro d
  induction d with
  | zero =>
    intro l hl h1 hp
    have e : l = 5 := by omega
    subst e
    exact br_t (by decide) hp
  | succ d ih =>
    intro l hl h1 hp
    have hv : vp_in (nI l) 6 := vp_in_nI (by omega) (by decide)
    have hcl : (nI l).toNatClampNeg = l := nI_clamp (by omega)
    unfold dk_bg at hp
    rw [show 4 - d = l by omega] at hp
    refine br_f (nI_nlt (a := 4) (by omega) (by omega)) (nm_e ⟨hv, ?_⟩)
    rw [hcl]
    by_cases h2 : bg l = 2
    · rw [decide_eq_true h2, Bool.true_or, Bool.true_and] at hp
      exact br_t h2 (nm_r (nI_1 _) (ih (l + 1) (by omega) (by omega) hp))
    · refine br_f h2 ⟨hv, ?_⟩
      rw [decide_eq_false h2, Bool.false_or] at hp
      by_cases h3 : bg l = (z >>> ((nI l - 1) &&& 31)) &&& 1
      · rw [decide_eq_true h3, Bool.true_and] at hp
        exact br_t h3 (nm_r (nI_1 _) (ih (l + 1) (by omega) (by omega) hp))
      · rw [decide_eq_false h3, Bool.false_and] at hp
        exact br_f h3 hp
theorem dk_begX {post : Int32 → Prop} {g bd : Nat} {z : Int32} {gl gr nl bg sa ba : Nat → Int32} (hp : post (dk_b (dk_bg bg z 4))) : wpX_isBeginningState post (nI (6 + g), nI bd, gl, gr, nl, bg, sa, ba) z :=
  Exists.intro 5 (dk_begX2 4 1 (by omega) (by omega) hp)
theorem dk_begY2 {post : Int32 → Prop} {g bd : Nat} {z : Int32} {fs ss nl bg sg st ip : Nat → Int32} :
    ∀ d l, l + d = 5 → 1 ≤ l → post (dk_b (dk_bg bg z d)) → wY_beginning_2 post z (nI g) (nI bd) fs ss nl bg sg st ip (d + 1) (nI l) := by
  intro d
  induction d with
  | zero =>
    intro l hl h1 hp
    have e : l = 5 := by omega
    subst e
    exact br_t (by decide) hp
  | succ d ih =>
    intro l hl h1 hp
    have hv : vp_in (nI l) 5 := vp_in_nI (by omega) (by decide)
    have hcl : (nI l).toNatClampNeg = l := nI_clamp (by omega)
    unfold dk_bg at hp
    rw [show 4 - d = l by omega] at hp
    refine br_f (nI_ge (b := 5) (by omega) (by decide)) ⟨hv, ?_⟩
    rw [hcl]
    by_cases h2 : bg l = 2
    · rw [decide_eq_true h2, Bool.true_or, Bool.true_and] at hp
      exact br_t h2 (nm_r (nI_1 _) (ih (l + 1) (by omega) (by omega) hp))
    · refine br_f h2 ⟨hv, ?_⟩
      rw [decide_eq_false h2, Bool.false_or] at hp
      by_cases h3 : bg l = (z >>> ((nI l - 1) &&& 31)) &&& 1
      · rw [decide_eq_true h3, Bool.true_and] at hp
        exact br_t h3 (nm_r (nI_1 _) (ih (l + 1) (by omega) (by omega) hp))
      · rw [decide_eq_false h3, Bool.false_and] at hp
        exact br_f h3 hp
theorem dk_begY {post : Int32 → Prop} {g bd : Nat} {z : Int32} {fs ss nl bg sg st ip : Nat → Int32} (hp : post (dk_b (dk_bg bg z 4))) : wpY_beginning post (nI g, nI bd, fs, ss, nl, bg, sg, st, ip) z :=
  Exists.intro 5 (dk_begY2 4 1 (by omega) (by omega) hp)
/-! the first number that does -/
def dk_f (P : Nat → Bool) : Nat → Nat → Option Nat
  | 0, _ => none
  | d + 1, i => if P i = true then some i else dk_f P d (i + 1)
theorem dk_ft {P : Nat → Bool} {d i : Nat} (h : P i = true) : dk_f P (d + 1) i = some i := if_pos h
theorem dk_ff {P : Nat → Bool} {d i : Nat} (h : P i = false) : dk_f P (d + 1) i = dk_f P d (i + 1) := if_neg (by rw [h]; decide)
theorem dk_fS {P : Nat → Bool} : ∀ d i m, dk_f P d i = some m → i ≤ m ∧ m < i + d ∧ P m = true := by
  intro d
  induction d with
  | zero => exact fun i m h => nomatch h
  | succ d ih =>
    intro i m h
    cases hP : P i
    · rw [dk_ff hP] at h
      have h2 := ih (i + 1) m h
      exact ⟨by omega, by omega, h2.2.2⟩
    · rw [dk_ft hP] at h
      cases h
      exact ⟨by omega, by omega, hP⟩
theorem dk_fN {P : Nat → Bool} : ∀ d i, (∀ j, i ≤ j → j < i + d → P j = false) → dk_f P d i = none := by
  intro d
  induction d with
  | zero => exact fun i h => rfl
  | succ d ih =>
    intro i h
    rw [dk_ff (h i (by omega) (by omega))]
    exact ih (i + 1) (fun j h1 h2 => h j (by omega) (by omega))
theorem dk_fI {P : Nat → Bool} : ∀ d i j, i ≤ j → j < i + d → P j = true → dk_f P d i ≠ none := by
  intro d
  induction d with
  | zero => exact fun i j h1 h2 => absurd h2 (by omega)
  | succ d ih =>
    intro i j h1 h2 h3
    cases hP : P i
    · rw [dk_ff hP]
      have h4 : i ≠ j := by
        intro e
        rw [e, h3] at hP
        exact nomatch hP
      exact ih (i + 1) j (by omega) (by omega) h3
    · rw [dk_ft hP]
      exact fun e => nomatch e
def dk_o : Option Nat → Int32
  | none => -1
  | some n => nI n
theorem dk_om {m : Nat} (h : m < 2 ^ 31) : ¬ nI m = -1 := by
  intro e
  have h2 := nI_pos h
  rw [e] at h2
  exact h2 (by decide)
def dk_P (b : Nat → Int32) (B : Nat → Nat → Bool) (T : Nat → Nat → Nat) (len n : Nat) : Bool := dk_bg b (nI (n / 2 ^ (len + 1))) 4 && dk_run B T len n
def dk_fb (b : Nat → Int32) (B : Nat → Nat → Bool) (T : Nat → Nat → Nat) (len : Nat) : Option Nat := dk_f (dk_P b B T len) (32 * 2 ^ len) 0
def dk_Q (b : Nat → Int32) (B : Nat → Nat → Bool) (T : Nat → Nat → Nat) (len : Nat) : Bool := (dk_fb b B T len).isSome
def dk_P2 (B : Nat → Nat → Bool) (T : Nat → Nat → Nat) (len n : Nat) : Bool := dk_run B T len n && dk_dif T len n
def dk_hb (B : Nat → Nat → Bool) (T : Nat → Nat → Nat) (len : Nat) : Bool := (dk_f (dk_P2 B T len) (32 * 2 ^ len) 0).isSome
theorem dk_e16 : ∀ len, len < 7 → (16 : Int32) <<< ((nI len + 1) &&& 31) = nI (32 * 2 ^ len) := by decide +kernel
theorem dk_e32l : ∀ len, len < 7 → (32 : Int32) <<< (nI len &&& 31) = nI (32 * 2 ^ len) := by decide +kernel
theorem dk_mk : ∀ len, len < 7 → (((2 : Int32) <<< (nI len &&& 31)) - 1).toBitVec.toNat = 2 ^ (len + 1) - 1 := by decide +kernel
theorem dk_fbX7 {post : Int32 → Prop} {g bd len : Nat} {B : Nat → Nat → Bool} {T : Nat → Nat → Nat} {gl gr nl bg sa ba : Nat → Int32} (hX : dk_HX sa ba B T) (hl : len < 7) :
    ∀ d i, i + d = 32 * 2 ^ len → post (dk_o (dk_f (dk_P bg B T len) d i)) → wX_firstBadRunFromBeginning_7 post (nI len) (nI (32 * 2 ^ len)) (nI (6 + g)) (nI bd) gl gr nl bg sa ba (d + 1) (nI i) := by
  have h32 := dk_e32 hl
  intro d
  induction d with
  | zero =>
    intro i hi hp
    exact br_t (nI_le (by omega) (by omega)) hp
  | succ d ih =>
    intro i hi hp
    refine br_f (nI_ge (by omega) (by omega)) (dk_soX hX hl (k := 0) (by omega) (Nat.zero_le _) (dk_begX ?_))
    cases hb : dk_bg bg (nI (dk_st T len i 0)) 4
    · have e : dk_P bg B T len i = false := by
        show (dk_bg bg (nI (dk_st T len i 0)) 4 && _) = false
        rw [hb, Bool.false_and]
      rw [dk_ff e] at hp
      exact br_t rfl (nm_r (nI_1 _) (ih (i + 1) (by omega) hp))
    · refine br_f (by decide) (dk_brX hX hl (by omega) ?_)
      have e : dk_P bg B T len i = dk_run B T len i := by
        show (dk_bg bg (nI (dk_st T len i 0)) 4 && _) = _
        rw [hb, Bool.true_and]
      cases hr : dk_run B T len i
      · rw [hr] at e
        rw [dk_ff e] at hp
        exact br_t rfl (nm_r (nI_1 _) (ih (i + 1) (by omega) hp))
      · rw [hr] at e
        rw [dk_ft e] at hp
        exact br_f (by decide) hp
theorem dk_fbX {post : Int32 → Prop} {g bd len : Nat} {B : Nat → Nat → Bool} {T : Nat → Nat → Nat} {gl gr nl bg sa ba : Nat → Int32} (hX : dk_HX sa ba B T) (hl : len < 7)
    (hp : post (dk_o (dk_fb bg B T len))) : wpX_firstBadRunFromBeginning post (nI (6 + g), nI bd, gl, gr, nl, bg, sa, ba) (nI len) := by
  unfold wpX_firstBadRunFromBeginning wpX_runsOfLength
  dsimp only
  rw [dk_e16 len hl]
  exact Exists.intro _ (dk_fbX7 hX hl _ 0 (by omega) hp)
theorem dk_leX2 {post : Int32 → Prop} {g bd lim : Nat} {B : Nat → Nat → Bool} {T : Nat → Nat → Nat} {gl gr nl bg sa ba : Nat → Int32} (hX : dk_HX sa ba B T) (hl : lim < 7) :
    ∀ d i, i + d = lim + 1 → post (dk_o (dk_f (dk_Q bg B T) d i)) → wX_leastBadLength_2 post (nI lim) (nI (6 + g)) (nI bd) gl gr nl bg sa ba (d + 1) (nI i) := by
  intro d
  induction d with
  | zero =>
    intro i hi hp
    exact br_t (nI_lt (by omega) (by omega)) hp
  | succ d ih =>
    intro i hi hp
    have h32 := dk_e32 (len := i) (by omega)
    refine br_f (nI_nlt (by omega) (by omega)) (dk_fbX hX (by omega) ?_)
    cases hf : dk_fb bg B T i with
    | none =>
      have e : dk_Q bg B T i = false := by
        unfold dk_Q
        rw [hf]
        rfl
      rw [dk_ff e] at hp
      exact br_t rfl (nm_r (nI_1 _) (ih (i + 1) (by omega) hp))
    | some m =>
      have e : dk_Q bg B T i = true := by
        unfold dk_Q
        rw [hf]
        rfl
      rw [dk_ft e] at hp
      have hm := (dk_fS _ _ _ hf).2.1
      exact br_f (dk_om (by omega)) hp
def dk_le (b : Nat → Int32) (B : Nat → Nat → Bool) (T : Nat → Nat → Nat) (lim : Nat) : Option Nat := dk_f (dk_Q b B T) (lim + 1) 0
theorem dk_leX {post : Int32 → Prop} {g bd lim : Nat} {B : Nat → Nat → Bool} {T : Nat → Nat → Nat} {gl gr nl bg sa ba : Nat → Int32} (hX : dk_HX sa ba B T) (hl : lim < 7)
    (hp : post (dk_o (dk_le bg B T lim))) : wpX_leastBadLength post (nI (6 + g), nI bd, gl, gr, nl, bg, sa, ba) (nI lim) :=
  Exists.intro _ (dk_leX2 hX hl (lim + 1) 0 (by omega) hp)
theorem dk_hbX7 {post : Int32 → Prop} {g bd len : Nat} {B : Nat → Nat → Bool} {T : Nat → Nat → Nat} {gl gr nl bg sa ba : Nat → Int32} (hX : dk_HX sa ba B T) (hl : len < 7) :
    ∀ d i, i + d = 32 * 2 ^ len → post (dk_b (dk_f (dk_P2 B T len) d i).isSome) → wX_hasBadRunOfDifferentStates_7 post (nI len) (nI (32 * 2 ^ len)) (nI (6 + g)) (nI bd) gl gr nl bg sa ba (d + 1) (nI i) := by
  have h32 := dk_e32 hl
  intro d
  induction d with
  | zero =>
    intro i hi hp
    exact br_t (nI_le (by omega) (by omega)) hp
  | succ d ih =>
    intro i hi hp
    refine br_f (nI_ge (by omega) (by omega)) (dk_brX hX hl (by omega) ?_)
    cases hb : dk_run B T len i
    · have e : dk_P2 B T len i = false := by
        unfold dk_P2
        rw [hb, Bool.false_and]
      rw [dk_ff e] at hp
      exact br_t rfl (nm_r (nI_1 _) (ih (i + 1) (by omega) hp))
    · refine br_f (by decide) (dk_hdX hX hl (by omega) ?_)
      have e : dk_P2 B T len i = dk_dif T len i := by
        unfold dk_P2
        rw [hb, Bool.true_and]
      cases hr : dk_dif T len i
      · rw [hr] at e
        rw [dk_ff e] at hp
        exact br_t rfl (nm_r (nI_1 _) (ih (i + 1) (by omega) hp))
      · rw [hr] at e
        rw [dk_ft e] at hp
        exact br_f (by decide) hp
theorem dk_hbX {post : Int32 → Prop} {g bd len : Nat} {B : Nat → Nat → Bool} {T : Nat → Nat → Nat} {gl gr nl bg sa ba : Nat → Int32} (hX : dk_HX sa ba B T) (hl : len < 7)
    (hp : post (dk_b (dk_hb B T len))) : wpX_hasBadRunOfDifferentStates post (nI (6 + g), nI bd, gl, gr, nl, bg, sa, ba) (nI len) := by
  unfold wpX_hasBadRunOfDifferentStates wpX_runsOfLength
  dsimp only
  rw [dk_e16 len hl]
  exact Exists.intro _ (dk_hbX7 hX hl _ 0 (by omega) hp)
/-! the reference's searches -/
def dk_W (T : Nat → Nat → Nat) (len m : Nat) (st ip : Nat → Int32) : Prop := ∀ j, j ≤ len → st j = nI (dk_st T len m j) ∧ ip j = nI (dk_in len m j)
theorem dk_fbY2 {post : Int32 → SY → Prop} {g bd len : Nat} {B : Nat → Nat → Bool} {T : Nat → Nat → Nat} {fs ss nl bg : Nat → Int32} (hY : dk_HY g bd fs ss nl bg B T) (hl : len < 7) :
    ∀ d i (sg st ip : Nat → Int32), i + d = 32 * 2 ^ len → (∀ sg st ip : Nat → Int32, (∀ m, dk_f (dk_P bg B T len) d i = some m → dk_W T len m st ip) → post (dk_b (dk_f (dk_P bg B T len) d i).isSome) (nI g, nI bd, fs, ss, nl, bg, sg, st, ip)) → wY_found_2 post (nI len) (d + 1) (nI i) (nI g) (nI bd) fs ss nl bg sg st ip := by
  have h32 := dk_e32 hl
  have e32 := dk_e32l len hl
  intro d
  induction d with
  | zero =>
    intro i sg st ip hi hp
    refine br_t ?_ (hp sg st ip (fun m h => nomatch h))
    rw [e32]
    exact nI_le (by omega) (by omega)
  | succ d ih =>
    intro i sg st ip hi hp
    refine br_f ?_ (nm_r (dk_sh hl (by omega)) (dk_begY ?_))
    · rw [e32]
      exact nI_ge (by omega) (by omega)
    cases hb : dk_bg bg (nI (i / 2 ^ (len + 1))) 4
    · have e : dk_P bg B T len i = false := by
        unfold dk_P
        rw [hb, Bool.false_and]
      rw [dk_ff e] at hp
      exact br_t rfl (nm_r (nI_1 _) (ih (i + 1) sg st ip (by omega) hp))
    · refine br_f (by decide) ?_
      rw [pk_andN (by omega) (len + 1) (dk_mk len hl)]
      refine dk_runY hY hl (by omega) ?_
      intro sg' st' ip' hst
      have e : dk_P bg B T len i = dk_run B T len i := by
        unfold dk_P
        rw [hb, Bool.true_and]
      cases hr : dk_run B T len i
      · rw [hr] at e
        rw [dk_ff e] at hp
        exact br_t rfl (nm_r (nI_1 _) (ih (i + 1) sg' st' ip' (by omega) hp))
      · rw [hr] at e
        rw [dk_ft e] at hp
        refine br_f (by decide) (hp sg' st' ip' ?_)
        intro m hm
        cases hm
        exact hst
theorem dk_fbY {post : Int32 → SY → Prop} {g bd len : Nat} {B : Nat → Nat → Bool} {T : Nat → Nat → Nat} {fs ss nl bg sg st ip : Nat → Int32} (hY : dk_HY g bd fs ss nl bg B T) (hl : len < 7)
    (hp : ∀ sg st ip : Nat → Int32, (∀ m, dk_fb bg B T len = some m → dk_W T len m st ip) → post (dk_b (dk_Q bg B T len)) (nI g, nI bd, fs, ss, nl, bg, sg, st, ip)) : wpY_found post (nI g, nI bd, fs, ss, nl, bg, sg, st, ip) (nI len) :=
  Exists.intro _ (dk_fbY2 hY hl (32 * 2 ^ len) 0 sg st ip (by omega) hp)
theorem dk_leY2 {post : Int32 → SY → Prop} {g bd lim : Nat} {B : Nat → Nat → Bool} {T : Nat → Nat → Nat} {fs ss nl bg : Nat → Int32} (hY : dk_HY g bd fs ss nl bg B T) (hl : lim < 7) :
    ∀ d i (sg st ip : Nat → Int32), i + d = lim + 1 → (∀ sg st ip : Nat → Int32, (∀ len, dk_f (dk_Q bg B T) d i = some len → ∀ m, dk_fb bg B T len = some m → dk_W T len m st ip) → post (dk_o (dk_f (dk_Q bg B T) d i)) (nI g, nI bd, fs, ss, nl, bg, sg, st, ip)) → wY_least_2 post (nI lim) (d + 1) (nI i) (nI g) (nI bd) fs ss nl bg sg st ip := by
  intro d
  induction d with
  | zero =>
    intro i sg st ip hi hp
    exact br_t (nI_lt (by omega) (by omega)) (hp sg st ip (fun m h => nomatch h))
  | succ d ih =>
    intro i sg st ip hi hp
    refine br_f (nI_nlt (by omega) (by omega)) (dk_fbY hY (by omega) ?_)
    intro sg' st' ip' hw
    cases hq : dk_Q bg B T i
    · rw [dk_ff hq] at hp
      exact br_t rfl (nm_r (nI_1 _) (ih (i + 1) sg' st' ip' (by omega) hp))
    · rw [dk_ft hq] at hp
      refine br_f (by decide) (hp sg' st' ip' ?_)
      intro len hlen
      cases hlen
      exact hw
theorem dk_leY {post : Int32 → SY → Prop} {g bd lim : Nat} {B : Nat → Nat → Bool} {T : Nat → Nat → Nat} {fs ss nl bg sg st ip : Nat → Int32} (hY : dk_HY g bd fs ss nl bg B T) (hl : lim < 7)
    (hp : ∀ sg st ip : Nat → Int32, (∀ len, dk_le bg B T lim = some len → ∀ m, dk_fb bg B T len = some m → dk_W T len m st ip) → post (dk_o (dk_le bg B T lim)) (nI g, nI bd, fs, ss, nl, bg, sg, st, ip)) : wpY_least post (nI g, nI bd, fs, ss, nl, bg, sg, st, ip) (nI lim) :=
  Exists.intro _ (dk_leY2 hY hl (lim + 1) 0 sg st ip (by omega) hp)
theorem dk_hoY14 {post : Int32 → SY → Prop} {g bd len : Nat} {B : Nat → Nat → Bool} {T : Nat → Nat → Nat} {fs ss nl bg : Nat → Int32} (hY : dk_HY g bd fs ss nl bg B T) (hl : len < 7) :
    ∀ d i (sg st ip : Nat → Int32), i + d = 32 * 2 ^ len → (∀ sg st ip : Nat → Int32, post (dk_b (!(dk_f (dk_P2 B T len) d i).isSome)) (nI g, nI bd, fs, ss, nl, bg, sg, st, ip)) → wY_holds_14 post (nI len) (d + 1) (nI i) (nI g) (nI bd) fs ss nl bg sg st ip := by
  have h32 := dk_e32 hl
  have e32 := dk_e32l len hl
  intro d
  induction d with
  | zero =>
    intro i sg st ip hi hp
    refine br_t ?_ (hp sg st ip)
    rw [e32]
    exact nI_le (by omega) (by omega)
  | succ d ih =>
    intro i sg st ip hi hp
    refine br_f ?_ (nm_r (dk_sh hl (by omega)) ?_)
    · rw [e32]
      exact nI_ge (by omega) (by omega)
    rw [pk_andN (by omega) (len + 1) (dk_mk len hl)]
    refine dk_runY hY hl (by omega) ?_
    intro sg' st' ip' hst
    cases hb : dk_run B T len i
    · have e : dk_P2 B T len i = false := by
        unfold dk_P2
        rw [hb, Bool.false_and]
      rw [dk_ff e] at hp
      exact br_t rfl (nm_r (nI_1 _) (ih (i + 1) sg' st' ip' (by omega) hp))
    · refine br_f (by decide) (dk_difY hl (fun j hj => (hst j hj).1) ?_)
      have e : dk_P2 B T len i = dk_dif T len i := by
        unfold dk_P2
        rw [hb, Bool.true_and]
      cases hr : dk_dif T len i
      · rw [hr] at e
        rw [dk_ff e] at hp
        exact br_t rfl (nm_r (nI_1 _) (ih (i + 1) sg' st' ip' (by omega) hp))
      · rw [hr] at e
        rw [dk_ft e] at hp
        exact br_f (by decide) (hp sg' st' ip')
theorem dk_hoY {post : Int32 → SY → Prop} {g bd len : Nat} {B : Nat → Nat → Bool} {T : Nat → Nat → Nat} {fs ss nl bg sg st ip : Nat → Int32} (hY : dk_HY g bd fs ss nl bg B T) (hl : len < 7)
    (hp : ∀ sg st ip : Nat → Int32, post (dk_b (!dk_hb B T len)) (nI g, nI bd, fs, ss, nl, bg, sg, st, ip)) : wpY_holds post (nI g, nI bd, fs, ss, nl, bg, sg, st, ip) (nI len) :=
  br_f (nI_pos (by omega)) (br_t (nI_le (b := 6) (by omega) (by decide)) (Exists.intro _ (dk_hoY14 hY hl (32 * 2 ^ len) 0 sg st ip (by omega) hp)))
/-! proof -/
def dk_px (H F : Nat → Bool) : Nat → Nat → Option Nat
  | 0, _ => none
  | d + 1, k => if H k = false then some k else if F k = true then none else dk_px H F d (k + 1)
def dk_py (H F : Nat → Bool) : Nat → Nat → Option Nat
  | 0, _ => none
  | d + 1, k => if H k = false ∧ dk_f F k 0 = none then some k else dk_py H F d (k + 1)
theorem dk_pyN {H F : Nat → Bool} : ∀ d k, (∃ j, j < k ∧ F j = true) → dk_py H F d k = none := by
  intro d
  induction d with
  | zero => exact fun k h => rfl
  | succ d ih =>
    intro k h
    obtain ⟨j, h1, h2⟩ := h
    unfold dk_py
    rw [if_neg (fun z => dk_fI k 0 j (by omega) (by omega) h2 z.2)]
    exact ih (k + 1) ⟨j, by omega, h2⟩
theorem dk_pxy {H F : Nat → Bool} : ∀ d k, (∀ j, j < k → F j = false) → dk_px H F d k = dk_py H F d k := by
  intro d
  induction d with
  | zero => exact fun k h => rfl
  | succ d ih =>
    intro k h
    have hn : dk_f F k 0 = none := dk_fN k 0 (fun j h1 h2 => h j (by omega))
    unfold dk_px dk_py
    by_cases hH : H k = false
    · rw [if_pos hH, if_pos ⟨hH, hn⟩]
    · have hne : ¬ (H k = false ∧ dk_f F k 0 = none) := fun z => hH z.1
      rw [if_neg hH, if_neg hne]
      by_cases hF : F k = true
      · rw [if_pos hF]
        exact (dk_pyN d (k + 1) ⟨k, by omega, hF⟩).symm
      · rw [if_neg hF]
        refine ih (k + 1) ?_
        intro j hj
        by_cases e : j = k
        · rw [e]
          exact Bool.eq_false_iff.mpr hF
        · exact h j (by omega)
theorem dk_prX6 {post : Int32 → SX → Prop} {g bd : Nat} {B : Nat → Nat → Bool} {T : Nat → Nat → Nat} {gl gr nl bg sa ba : Nat → Int32} (hX : dk_HX sa ba B T) :
    ∀ d k, k + d = 7 → post (dk_o (dk_px (dk_hb B T) (dk_Q bg B T) d k)) (nI (6 + g), nI bd, gl, gr, nl, bg, sa, ba) → wX_proof_6 post (nI (6 + g)) (nI bd) gl gr nl bg sa ba (d + 1) (nI k) := by
  intro d
  induction d with
  | zero =>
    intro k hk hp
    have e : k = 7 := by omega
    subst e
    exact br_t (by decide) hp
  | succ d ih =>
    intro k hk hp
    have h32 := dk_e32 (len := k) (by omega)
    refine br_f (nI_nlt (a := 6) (by omega) (by omega)) (dk_hbX hX (by omega) ?_)
    unfold dk_px at hp
    cases hH : dk_hb B T k
    · rw [if_pos hH] at hp
      exact br_t rfl hp
    · rw [if_neg (by rw [hH]; decide)] at hp
      refine br_f (by decide) (dk_fbX hX (by omega) ?_)
      cases hf : dk_fb bg B T k with
      | none =>
        have e : dk_Q bg B T k = false := by
          unfold dk_Q
          rw [hf]
          rfl
        rw [if_neg (by rw [e]; decide)] at hp
        exact br_t rfl (nm_r (nI_1 _) (ih (k + 1) (by omega) hp))
      | some m =>
        have e : dk_Q bg B T k = true := by
          unfold dk_Q
          rw [hf]
          rfl
        rw [if_pos e] at hp
        have hm := (dk_fS _ _ _ hf).2.1
        exact br_f (dk_om (by omega)) hp
theorem dk_prY2 {post : Int32 → SY → Prop} {g bd : Nat} {B : Nat → Nat → Bool} {T : Nat → Nat → Nat} {fs ss nl bg : Nat → Int32} (hY : dk_HY g bd fs ss nl bg B T) :
    ∀ d k (sg st ip : Nat → Int32), k + d = 7 → (∀ sg st ip : Nat → Int32, post (dk_o (dk_py (dk_hb B T) (dk_Q bg B T) d k)) (nI g, nI bd, fs, ss, nl, bg, sg, st, ip)) → wY_proof_2 post (d + 1) (nI k) (nI g) (nI bd) fs ss nl bg sg st ip := by
  intro d
  induction d with
  | zero =>
    intro k sg st ip hk hp
    have e : k = 7 := by omega
    subst e
    exact br_t (by decide) (hp sg st ip)
  | succ d ih =>
    intro k sg st ip hk hp
    refine br_f (nI_nlt (a := 6) (by omega) (by omega)) (dk_hoY hY (by omega) ?_)
    intro sg' st' ip'
    unfold dk_py at hp
    cases hH : dk_hb B T k
    · refine br_t rfl ?_
      cases k with
      | zero =>
        rw [if_pos ⟨hH, rfl⟩] at hp
        exact br_t rfl (hp sg' st' ip')
      | succ k =>
        refine br_f (nI_ne0 (by omega) (by omega)) ?_
        rw [nI_pred]
        refine dk_leY hY (by omega) ?_
        intro sg2 st2 ip2 _
        cases hle : dk_le bg B T k with
        | none =>
          rw [if_pos ⟨hH, hle⟩] at hp
          exact br_f (by decide) (hp sg2 st2 ip2)
        | some m =>
          have hm := (dk_fS _ _ _ hle).2.1
          have hne : ¬ (dk_hb B T (k + 1) = false ∧ dk_f (dk_Q bg B T) (k + 1) 0 = none) := by
            intro z
            have z2 : dk_le bg B T k = none := z.2
            rw [hle] at z2
            exact nomatch z2
          rw [if_neg hne] at hp
          exact br_t (nI_pos' (by omega)) (nm_r (nI_1 _) (ih (k + 1 + 1) sg2 st2 ip2 (by omega) hp))
    · rw [if_neg (fun z => by rw [hH] at z; exact nomatch z.1)] at hp
      exact br_f (by decide) (nm_r (nI_1 _) (ih (k + 1) sg' st' ip' (by omega) hp))
end
section
/-! the relation -/
def dk_R (g bd : Nat) (gl gr nl : Nat → Int32) : Prop := g ≤ 10 ∧ bd < 2 * (6 + g) ∧ (∀ j, j < g → (∃ a, a < 2 * (6 + j) ∧ gl (6 + j) = nI a) ∧ (∃ a, a < 2 * (6 + j) ∧ gr (6 + j) = nI a)) ∧ (∀ l, 1 ≤ l → l < 5 → ∃ a, a < 2 * (6 + g) ∧ nl l = nI a)
/-- the reference's circuit is the class's: the gates shifted by six, the rest one and the same; tables and scratch arrays are free -/
def i_Rel (_ : Nat) (u : SX) (v : SY) : Prop := ∃ (g bd : Nat) (gl gr nl bg sa ba sg st ip : Nat → Int32), u = (nI (6 + g), nI bd, gl, gr, nl, bg, sa, ba) ∧ v = (nI g, nI bd, (fun j => gl (6 + j)), (fun j => gr (6 + j)), nl, bg, sg, st, ip) ∧ dk_R g bd gl gr nl
theorem i_up {k : Nat} {u : SX} {v : SY} (h : i_Rel k u v) : i_Rel (k + 4) u v := h
theorem dk_rel {k g bd : Nat} {gl gr nl bg sa ba sg st ip : Nat → Int32} (h : dk_R g bd gl gr nl) : i_Rel k (nI (6 + g), nI bd, gl, gr, nl, bg, sa, ba) (nI g, nI bd, (fun j => gl (6 + j)), (fun j => gr (6 + j)), nl, bg, sg, st, ip) :=
  ⟨g, bd, gl, gr, nl, bg, sa, ba, sg, st, ip, rfl, rfl, h⟩
theorem dk_cl {x : Int32} {n : Nat} (hn : n < 2 ^ 31) (h : ∃ a, a < n ∧ x = nI a) : x.toNatClampNeg < n ∧ x = nI x.toNatClampNeg := by
  obtain ⟨a, ha, rfl⟩ := h
  rw [nI_clamp (by omega)]
  exact ⟨ha, rfl⟩
theorem dk_RH {g bd : Nat} {gl gr nl : Nat → Int32} (h : dk_R g bd gl gr nl) : ∃ L R N : Nat → Nat, dk_H g (fun j => gl (6 + j)) (fun j => gr (6 + j)) L R ∧ dk_HN g bd nl N := by
  obtain ⟨h1, h2, h3, h4⟩ := h
  refine ⟨fun j => (gl (6 + j)).toNatClampNeg, fun j => (gr (6 + j)).toNatClampNeg, fun l => (nl l).toNatClampNeg, ⟨h1, fun j hj => ⟨dk_cl (by omega) (h3 j hj).1, dk_cl (by omega) (h3 j hj).2⟩⟩, h2, fun l hl hl5 => dk_cl (by omega) (h4 l hl hl5)⟩
theorem dk_go {g bd : Nat} {gl gr nl : Nat → Int32} (h : dk_R g bd gl gr nl) : ∃ (B : Nat → Nat → Bool) (T : Nat → Nat → Nat),
    (∀ (post : SX → Prop) (bg sa ba : Nat → Int32), (∀ sa ba : Nat → Int32, dk_HX sa ba B T → post (nI (6 + g), nI bd, gl, gr, nl, bg, sa, ba)) → wpX_tabulateCircuit post (nI (6 + g), nI bd, gl, gr, nl, bg, sa, ba)) ∧
    ∀ bg : Nat → Int32, dk_HY g bd (fun j => gl (6 + j)) (fun j => gr (6 + j)) nl bg B T := by
  obtain ⟨L, R, N, hg, hN⟩ := dk_RH h
  refine ⟨dk_B g bd L R, dk_T g L R N, ?_, ?_⟩
  · intro post bg sa ba hp
    exact dk_tabX hg hN (fun sa ba hT => hp sa ba (dk_HTX (dk_Tlt g L R N) hT))
  · intro bg
    exact ⟨dk_Tlt g L R N, fun post sg st ip s x hs hx hp => dk_badY hg hN hs hx hp, fun post sg st ip s x hs hx hp => dk_stepY hg hN hs hx hp⟩
/-! a new object -/
theorem dk_u0 (k : Nat) : upd (fun _ => 0) k 0 = fun _ => 0 := funext (fun j => ite_self (c := j = k) 0)
theorem dk_R0 : dk_R 0 0 (fun _ => 0) (fun _ => 0) (upd (upd (upd (upd (fun _ => 0) (1 : Int32).toNatClampNeg (2 * 1)) (2 : Int32).toNatClampNeg (2 * 2)) (3 : Int32).toNatClampNeg (2 * 3)) (4 : Int32).toNatClampNeg (2 * 4)) := by
  refine ⟨by decide, by decide, fun j hj => absurd hj (by omega), ?_⟩
  intro l h1 h5
  have h : l = 1 ∨ l = 2 ∨ l = 3 ∨ l = 4 := by omega
  rcases h with rfl | rfl | rfl | rfl
  · exact ⟨2, by decide, by decide +kernel⟩
  · exact ⟨4, by decide, by decide +kernel⟩
  · exact ⟨6, by decide, by decide +kernel⟩
  · exact ⟨8, by decide, by decide +kernel⟩
theorem dk_i1 : (1 : Int32) + 1 = 2 := by decide
theorem dk_i2 : (2 : Int32) + 1 = 3 := by decide
theorem dk_i3 : (3 : Int32) + 1 = 4 := by decide
theorem dk_i4 : (4 : Int32) + 1 = 5 := by decide
theorem i_vc0 : wpX_init (fun u => wpY_init (fun v => i_Rel 0 u v)) := by
  have x1 : vp_in 1 6 := vp_in_iff.mpr (by decide)
  have x2 : vp_in 2 6 := vp_in_iff.mpr (by decide)
  have x3 : vp_in 3 6 := vp_in_iff.mpr (by decide)
  have x4 : vp_in 4 6 := vp_in_iff.mpr (by decide)
  have y1 : vp_in 1 5 := vp_in_iff.mpr (by decide)
  have y2 : vp_in 2 5 := vp_in_iff.mpr (by decide)
  have y3 : vp_in 3 5 := vp_in_iff.mpr (by decide)
  have y4 : vp_in 4 5 := vp_in_iff.mpr (by decide)
  refine Exists.intro 5 (br_f (by decide) ⟨x1, nm_e ⟨x1, nm_r (dk_u0 _) (nm_r dk_i1 ?_)⟩⟩)
  refine br_f (by decide) ⟨x2, nm_e ⟨x2, nm_r (dk_u0 _) (nm_r dk_i2 ?_)⟩⟩
  refine br_f (by decide) ⟨x3, nm_e ⟨x3, nm_r (dk_u0 _) (nm_r dk_i3 ?_)⟩⟩
  refine br_f (by decide) ⟨x4, nm_e ⟨x4, nm_r (dk_u0 _) (nm_r dk_i4 ?_)⟩⟩
  refine br_t (by decide) ?_
  refine Exists.intro 5 (br_f (by decide) ⟨y1, nm_e (nm_r dk_i1 ?_)⟩)
  refine br_f (by decide) ⟨y2, nm_e (nm_r dk_i2 ?_)⟩
  refine br_f (by decide) ⟨y3, nm_e (nm_r dk_i3 ?_)⟩
  refine br_f (by decide) ⟨y4, nm_e (nm_r dk_i4 ?_)⟩
  exact br_t (by decide) (dk_rel dk_R0)
/-! arguments -/
theorem dk_ge0 {x : Int32} {n : Nat} (hn : n < 2 ^ 31) (h : nI n ≤ x) : ¬ x < 0 := by
  have h0 := nI_pos' hn
  exact Int32.not_lt.mpr (Int32.le_trans h0 h)
theorem dk_lit {g bd : Nat} {gl gr nl bg sa ba fs ss sg st ip : Nat → Int32} (hg : g ≤ 10) (v : Int32) :
    (∃ a, a < 2 * (6 + g) ∧ v = nI a ∧ (∀ post : Int32 → Prop, post 1 → wpX_isLiteral post (nI (6 + g), nI bd, gl, gr, nl, bg, sa, ba) v) ∧ (∀ post : Int32 → Prop, post 0 → wpY_refused post (nI g, nI bd, fs, ss, nl, bg, sg, st, ip) v)) ∨
    ((∀ post : Int32 → Prop, post 0 → wpX_isLiteral post (nI (6 + g), nI bd, gl, gr, nl, bg, sa, ba) v) ∧ (∀ post : Int32 → Prop, post 1 → wpY_refused post (nI g, nI bd, fs, ss, nl, bg, sg, st, ip) v)) := by
  have eX : 2 * nI (6 + g) = nI (2 * (6 + g)) := pk_mul 2 (6 + g)
  have eY : 2 * (6 + nI g) = nI (2 * (6 + g)) := (congrArg (2 * ·) (nI_add 6 g)).trans eX
  rcases pk_ix v (n := 2 * (6 + g)) (by omega) with h | h | ⟨a, ha, rfl⟩
  · exact Or.inr ⟨fun post hp => br_t h hp, fun post hp => br_t h hp⟩
  · have h0 := dk_ge0 (by omega) h
    refine Or.inr ⟨fun post hp => br_f h0 (br_t (by rw [eX]; exact h) hp), fun post hp => br_f h0 (br_f (by rw [eY]; exact Int32.not_lt.mpr h) hp)⟩
  · have h0 := nI_pos (n := a) (by omega)
    refine Or.inl ⟨a, ha, rfl, fun post hp => br_f h0 (br_f (by rw [eX]; exact nI_ge ha (by omega)) hp), fun post hp => br_f h0 (br_t (by rw [eY]; exact nI_lt ha (by omega)) hp)⟩
theorem dk_latch (v : Int32) :
    (∃ l, 1 ≤ l ∧ l < 5 ∧ v = nI l ∧ (∀ post : Int32 → Prop, post 1 → wpX_isLatch post v) ∧ (∀ post : Int32 → Prop, post 0 → wpY_badLatch post v)) ∨
    ((∀ post : Int32 → Prop, post 0 → wpX_isLatch post v) ∧ (∀ post : Int32 → Prop, post 1 → wpY_badLatch post v)) := by
  by_cases h1 : v < 1
  · exact Or.inr ⟨fun post hp => br_t h1 hp, fun post hp => br_t h1 hp⟩
  · by_cases h4 : v ≤ 4
    · have h0 : ¬ v < 0 := fun z => h1 (Int32.lt_trans z (by decide))
      obtain ⟨l, hl, rfl⟩ := nI_of2 (x := v) (M := 4) (n := 4) (by decide) h0 h4
      have hl1 : 1 ≤ l := by
        cases l with
        | zero => exact absurd (by decide) h1
        | succ l => omega
      exact Or.inl ⟨l, hl1, by omega, rfl, fun post hp => br_f h1 (br_f (Int32.not_lt.mpr h4) hp), fun post hp => br_f h1 (br_t h4 hp)⟩
    · exact Or.inr ⟨fun post hp => br_f h1 (br_t (Int32.not_le.mp h4) hp), fun post hp => br_f h1 (br_f h4 hp)⟩
/-! gate, next, begin, bad -/
theorem dk_us (f : Nat → Int32) (g : Nat) (x : Int32) : upd (fun j => f (6 + j)) g x = fun j => upd f (6 + g) x (6 + j) := by
  funext j
  by_cases h : j = g
  · rw [h, pk_us, pk_us]
  · rw [pk_un h, pk_un (by omega)]
theorem dk_Rg {g bd a b : Nat} {gl gr nl : Nat → Int32} (h : dk_R g bd gl gr nl) (hg : g < 10) (ha : a < 2 * (6 + g)) (hb : b < 2 * (6 + g)) : dk_R (g + 1) bd (upd gl (6 + g) (nI a)) (upd gr (6 + g) (nI b)) nl := by
  obtain ⟨h1, h2, h3, h4⟩ := h
  refine ⟨by omega, by omega, ?_, ?_⟩
  · intro j hj
    by_cases e : j = g
    · rw [e, pk_us, pk_us]
      exact ⟨⟨a, ha, rfl⟩, ⟨b, hb, rfl⟩⟩
    · rw [pk_un (by omega), pk_un (by omega)]
      exact h3 j (by omega)
  · intro l hl hl5
    obtain ⟨c, hc, e⟩ := h4 l hl hl5
    exact ⟨c, by omega, e⟩
theorem i_vc_gate {k : Nat} {u : SX} {v : SY} (I : i_Rel k u v) (hk : k + 4 ≤ 2048) (v1 : Int32) (v2 : Int32) : wpX_gate (fun r u' => wpY_gate (fun r' v' => r' = r ∧ i_Rel (k + 4) u' v') v v1 v2) u v1 v2 := by
  obtain ⟨g, bd, gl, gr, nl, bg, sa, ba, sg, st, ip, rfl, rfl, hR⟩ := I
  have hg := hR.1
  unfold wpX_gate wpY_gate
  dsimp only
  rcases dk_lit (bd := bd) (gl := gl) (gr := gr) (nl := nl) (bg := bg) (sa := sa) (ba := ba) (fs := fun j => gl (6 + j)) (ss := fun j => gr (6 + j)) (sg := sg) (st := st) (ip := ip) hg v1 with ⟨a, ha, rfl, hX1, hY1⟩ | ⟨hX1, hY1⟩
  · refine hX1 _ (br_f (by decide) ?_)
    rcases dk_lit (bd := bd) (gl := gl) (gr := gr) (nl := nl) (bg := bg) (sa := sa) (ba := ba) (fs := fun j => gl (6 + j)) (ss := fun j => gr (6 + j)) (sg := sg) (st := st) (ip := ip) hg v2 with ⟨b, hb, rfl, hX2, hY2⟩ | ⟨hX2, hY2⟩
    · refine hX2 _ (br_f (by decide) (pk_lt (6 + g) 16 (fun h => ?_) (fun h => ?_)))
      · have hv : vp_in (nI (6 + g)) 16 := vp_in_nI (by omega) (by decide)
        have hw : vp_in (nI g) 10 := vp_in_nI (by omega) (by decide)
        have e5 : 5 + nI (g + 1) = nI (6 + g) := (nI_add 5 (g + 1)).trans (congrArg nI (by omega))
        rw [nI_clamp (n := 6 + g) (by omega)]
        refine ⟨hv, nm_e ⟨hv, nm_e (nm_r (nI_1 _) ?_)⟩⟩
        refine hY1 _ (br_t rfl (hY2 _ (br_t rfl (pk_eq g 10 (fun h2 => absurd h2 (by omega)) (fun h2 => ?_)))))
        rw [nI_clamp (n := g) (by omega)]
        refine ⟨hw, nm_r (dk_us gl g (nI a)) ⟨hw, nm_r (dk_us gr g (nI b)) (nm_r (nI_1 _) ⟨e5, dk_rel (dk_Rg hR (by omega) ha hb)⟩)⟩⟩
      · refine hY1 _ (br_t rfl (hY2 _ (br_t rfl (pk_eq g 10 (fun h2 => ⟨rfl, dk_rel hR⟩) (fun h2 => absurd (by omega) h2)))))
    · refine hX2 _ (br_t rfl ?_)
      exact hY1 _ (br_t rfl (hY2 _ (br_f (by decide) ⟨rfl, dk_rel hR⟩)))
  · refine hX1 _ (br_t rfl ?_)
    exact hY1 _ (br_f (by decide) ⟨rfl, dk_rel hR⟩)
theorem i_vc_next {k : Nat} {u : SX} {v : SY} (I : i_Rel k u v) (hk : k + 4 ≤ 2048) (v1 : Int32) (v2 : Int32) : wpX_next (fun r u' => wpY_next (fun r' v' => r' = r ∧ i_Rel (k + 4) u' v') v v1 v2) u v1 v2 := by
  obtain ⟨g, bd, gl, gr, nl, bg, sa, ba, sg, st, ip, rfl, rfl, hR⟩ := I
  have hg := hR.1
  unfold wpX_next wpY_next
  dsimp only
  rcases dk_latch v1 with ⟨l, hl, hl5, rfl, hX1, hY1⟩ | ⟨hX1, hY1⟩
  · refine hX1 _ (br_f (by decide) ?_)
    rcases dk_lit (bd := bd) (gl := gl) (gr := gr) (nl := nl) (bg := bg) (sa := sa) (ba := ba) (fs := fun j => gl (6 + j)) (ss := fun j => gr (6 + j)) (sg := sg) (st := st) (ip := ip) hg v2 with ⟨b, hb, rfl, hX2, hY2⟩ | ⟨hX2, hY2⟩
    · have hv : vp_in (nI l) 6 := vp_in_nI (by omega) (by decide)
      have hw : vp_in (nI l) 5 := vp_in_nI (by omega) (by decide)
      refine hX2 _ (br_f (by decide) ⟨hv, nm_e ⟨hv, nm_e ?_⟩⟩)
      refine hY1 _ (br_t rfl (hY2 _ (br_t rfl ⟨hw, nm_e ⟨hw, nm_e ⟨rfl, dk_rel ?_⟩⟩⟩)))
      rw [nI_clamp (n := l) (by omega)]
      refine ⟨hR.1, hR.2.1, hR.2.2.1, ?_⟩
      intro l' h1 h5
      by_cases e : l' = l
      · rw [e, pk_us]
        exact ⟨b, hb, rfl⟩
      · rw [pk_un e]
        exact hR.2.2.2 l' h1 h5
    · refine hX2 _ (br_t rfl ?_)
      exact hY1 _ (br_t rfl (hY2 _ (br_f (by decide) ⟨rfl, dk_rel hR⟩)))
  · refine hX1 _ (br_t rfl ?_)
    exact hY1 _ (br_f (by decide) ⟨rfl, dk_rel hR⟩)
theorem i_vc_begin {k : Nat} {u : SX} {v : SY} (I : i_Rel k u v) (hk : k + 4 ≤ 2048) (v1 : Int32) (v2 : Int32) : wpX_begin (fun r u' => wpY_begin (fun r' v' => r' = r ∧ i_Rel (k + 4) u' v') v v1 v2) u v1 v2 := by
  obtain ⟨g, bd, gl, gr, nl, bg, sa, ba, sg, st, ip, rfl, rfl, hR⟩ := I
  unfold wpX_begin wpY_begin
  dsimp only
  rcases dk_latch v1 with ⟨l, hl, hl5, rfl, hX1, hY1⟩ | ⟨hX1, hY1⟩
  · refine hX1 _ (br_f (by decide) ?_)
    have hv : vp_in (nI l) 6 := vp_in_nI (by omega) (by decide)
    have hw : vp_in (nI l) 5 := vp_in_nI (by omega) (by decide)
    by_cases h0 : v2 < 0
    · exact br_t h0 (hY1 _ (br_t rfl (br_t h0 ⟨rfl, dk_rel hR⟩)))
    · by_cases h2 : v2 ≤ 2
      · exact br_f h0 (br_t h2 ⟨hv, nm_e (hY1 _ (br_t rfl (br_f h0 (br_t h2 ⟨hw, nm_e ⟨rfl, dk_rel hR⟩⟩))))⟩)
      · exact br_f h0 (br_f h2 (hY1 _ (br_t rfl (br_f h0 (br_f h2 ⟨rfl, dk_rel hR⟩)))))
  · refine hX1 _ (br_t rfl ?_)
    exact hY1 _ (br_f (by decide) ⟨rfl, dk_rel hR⟩)
theorem i_vc_bad {k : Nat} {u : SX} {v : SY} (I : i_Rel k u v) (hk : k + 4 ≤ 2048) (v1 : Int32) : wpX_bad (fun r u' => wpY_bad (fun r' v' => r' = r ∧ i_Rel (k + 4) u' v') v v1) u v1 := by
  obtain ⟨g, bd, gl, gr, nl, bg, sa, ba, sg, st, ip, rfl, rfl, hR⟩ := I
  have hg := hR.1
  unfold wpX_bad wpY_bad
  dsimp only
  rcases dk_lit (bd := bd) (gl := gl) (gr := gr) (nl := nl) (bg := bg) (sa := sa) (ba := ba) (fs := fun j => gl (6 + j)) (ss := fun j => gr (6 + j)) (sg := sg) (st := st) (ip := ip) hg v1 with ⟨a, ha, rfl, hX1, hY1⟩ | ⟨hX1, hY1⟩
  · refine hX1 _ (br_f (by decide) (hY1 _ (br_t rfl ⟨rfl, dk_rel ⟨hR.1, ha, hR.2.2.1, hR.2.2.2⟩⟩)))
  · refine hX1 _ (br_t rfl ?_)
    exact hY1 _ (br_f (by decide) ⟨rfl, dk_rel hR⟩)
end
section
/-! value, depth, holds, proof, witness, input -/
theorem i_vc_value {k : Nat} {u : SX} {v : SY} (I : i_Rel k u v) (hk : k + 4 ≤ 2048) (v1 : Int32) (v2 : Int32) (v3 : Int32) : wpX_value (fun r => wpY_value (fun r' v' => r' = r ∧ i_Rel (k + 4) u v') v v1 v2 v3) u v1 v2 v3 := by
  obtain ⟨g, bd, gl, gr, nl, bg, sa, ba, sg, st, ip, rfl, rfl, hR⟩ := I
  have hg := hR.1
  unfold wpX_value wpY_value
  dsimp only
  rcases dk_lit (bd := bd) (gl := gl) (gr := gr) (nl := nl) (bg := bg) (sa := sa) (ba := ba) (fs := fun j => gl (6 + j)) (ss := fun j => gr (6 + j)) (sg := sg) (st := st) (ip := ip) hg v1 with ⟨a, ha, rfl, hX1, hY1⟩ | ⟨hX1, hY1⟩
  · refine hX1 _ (br_f (by decide) ?_)
    rcases pk_ix v2 (n := 16) (by decide) with h | h | ⟨s, hs, rfl⟩
    · exact br_t h (hY1 _ (br_t rfl (br_t h ⟨rfl, dk_rel hR⟩)))
    · have h0 := dk_ge0 (n := 16) (by decide) h
      have h15 : ¬ v2 ≤ 15 := fun z => absurd (Int32.le_trans h z) (by decide)
      exact br_f h0 (br_f (Int32.not_lt.mpr h) (hY1 _ (br_t rfl (br_f h0 (br_f h15 ⟨rfl, dk_rel hR⟩)))))
    · obtain ⟨x, hx, ex⟩ := pk_andE v3 (m := 1) 1 (by decide)
      obtain ⟨L, R, N, hH, hN⟩ := dk_RH hR
      have h0 := nI_pos (n := s) (by omega)
      refine br_f h0 (br_t (nI_lt (b := 16) hs (by decide)) ?_)
      rw [ex]
      refine dk_sigX hH hs (by omega) ?_
      intro m hm
      refine dk_litX (by omega) ?_
      refine hY1 _ (br_t rfl (br_f h0 (br_t (nI_le (b := 15) (by omega) (by decide)) ?_)))
      refine dk_workY hH hs (x := x) (by omega) ex ?_
      intro sg' hsg
      refine dk_ofY (F := dk_sg L R s x g) (by omega) (hsg _ (by omega)) ⟨?_, dk_rel hR⟩
      exact congrArg dk_b (dk_l_eq (hm _ (by omega)).symm)
  · refine hX1 _ (br_t rfl ?_)
    exact hY1 _ (br_f (by decide) ⟨rfl, dk_rel hR⟩)
theorem dk_len (v : Int32) :
    (∃ l, l < 7 ∧ v = nI l ∧ ¬ v < 0 ∧ v ≤ 6 ∧ (∀ post : Int32 → Prop, post 1 → wpX_isLength post v)) ∨
    ((v < 0 ∨ (¬ v < 0 ∧ ¬ v ≤ 6)) ∧ (∀ post : Int32 → Prop, post 0 → wpX_isLength post v)) := by
  by_cases h0 : v < 0
  · exact Or.inr ⟨Or.inl h0, fun post hp => br_t h0 hp⟩
  · by_cases h6 : v ≤ 6
    · obtain ⟨l, hl, rfl⟩ := nI_of2 (x := v) (M := 6) (n := 6) (by decide) h0 h6
      exact Or.inl ⟨l, by omega, rfl, h0, h6, fun post hp => br_f h0 (br_f (Int32.not_lt.mpr h6) hp)⟩
    · exact Or.inr ⟨Or.inr ⟨h0, h6⟩, fun post hp => br_f h0 (br_t (Int32.not_le.mp h6) hp)⟩
theorem i_vc_depth {k : Nat} {u : SX} {v : SY} (I : i_Rel k u v) (hk : k + 4 ≤ 2048) (v1 : Int32) : wpX_depth (fun r u' => wpY_depth (fun r' v' => r' = r ∧ i_Rel (k + 4) u' v') v v1) u v1 := by
  obtain ⟨g, bd, gl, gr, nl, bg, sa, ba, sg, st, ip, rfl, rfl, hR⟩ := I
  obtain ⟨B, T, htab, hY⟩ := dk_go hR
  unfold wpX_depth wpY_depth
  dsimp only
  rcases dk_len v1 with ⟨l, hl, rfl, h0, h6, hX1⟩ | ⟨h, hX1⟩
  · refine hX1 _ (br_f (by decide) (htab _ _ _ _ ?_))
    intro sa' ba' hX
    refine dk_leX hX hl (br_f h0 (br_t h6 (dk_leY (hY bg) hl ?_)))
    intro sg' st' ip' _
    exact ⟨rfl, dk_rel hR⟩
  · refine hX1 _ (br_t rfl ?_)
    rcases h with h | ⟨h0, h6⟩
    · exact br_t h ⟨rfl, dk_rel hR⟩
    · exact br_f h0 (br_f h6 ⟨rfl, dk_rel hR⟩)
theorem i_vc_holds {k : Nat} {u : SX} {v : SY} (I : i_Rel k u v) (hk : k + 4 ≤ 2048) (v1 : Int32) : wpX_holds (fun r u' => wpY_holds (fun r' v' => r' = r ∧ i_Rel (k + 4) u' v') v v1) u v1 := by
  obtain ⟨g, bd, gl, gr, nl, bg, sa, ba, sg, st, ip, rfl, rfl, hR⟩ := I
  obtain ⟨B, T, htab, hY⟩ := dk_go hR
  unfold wpX_holds
  dsimp only
  rcases dk_len v1 with ⟨l, hl, rfl, h0, h6, hX1⟩ | ⟨h, hX1⟩
  · refine hX1 _ (br_f (by decide) (htab _ _ _ _ ?_))
    intro sa' ba' hX
    refine dk_hbX hX hl ?_
    cases hb : dk_hb B T l
    · refine br_t rfl (dk_hoY (hY bg) hl ?_)
      intro sg' st' ip'
      rw [hb]
      exact ⟨rfl, dk_rel hR⟩
    · refine br_f (by decide) (dk_hoY (hY bg) hl ?_)
      intro sg' st' ip'
      rw [hb]
      exact ⟨rfl, dk_rel hR⟩
  · refine hX1 _ (br_t rfl ?_)
    unfold wpY_holds
    dsimp only
    rcases h with h | ⟨h0, h6⟩
    · exact br_t h ⟨rfl, dk_rel hR⟩
    · exact br_f h0 (br_f h6 ⟨rfl, dk_rel hR⟩)
theorem i_vc_proof {k : Nat} {u : SX} {v : SY} (I : i_Rel k u v) (hk : k + 4 ≤ 2048) : wpX_proof (fun r u' => wpY_proof (fun r' v' => r' = r ∧ i_Rel (k + 4) u' v') v) u := by
  obtain ⟨g, bd, gl, gr, nl, bg, sa, ba, sg, st, ip, rfl, rfl, hR⟩ := I
  obtain ⟨B, T, htab, hY⟩ := dk_go hR
  unfold wpX_proof wpY_proof
  dsimp only
  refine htab _ _ _ _ ?_
  intro sa' ba' hX
  refine Exists.intro 8 (dk_prX6 hX 7 0 (by omega) ?_)
  refine Exists.intro 8 (dk_prY2 (hY bg) 7 0 sg st ip (by omega) ?_)
  intro sg' st' ip'
  refine ⟨congrArg dk_o ?_, dk_rel hR⟩
  exact (dk_pxy 7 0 (fun j hj => absurd hj (by omega))).symm
theorem dk_nm1 {j : Nat} (h : j < 2 ^ 31) : ¬ nI j ≤ -1 := by
  intro z
  exact nI_pos h (Int32.lt_of_le_of_lt z (by decide))
theorem i_vc_witness {k : Nat} {u : SX} {v : SY} (I : i_Rel k u v) (hk : k + 4 ≤ 2048) (v1 : Int32) : wpX_witness (fun r u' => wpY_witness (fun r' v' => r' = r ∧ i_Rel (k + 4) u' v') v v1) u v1 := by
  obtain ⟨g, bd, gl, gr, nl, bg, sa, ba, sg, st, ip, rfl, rfl, hR⟩ := I
  obtain ⟨B, T, htab, hY⟩ := dk_go hR
  unfold wpX_witness wpY_witness
  dsimp only
  refine htab _ _ _ _ ?_
  intro sa' ba' hX
  refine dk_leX (lim := 6) hX (by decide) ?_
  cases hle : dk_le bg B T 6 with
  | none =>
    refine br_t rfl (dk_leY (lim := 6) (hY bg) (by decide) ?_)
    intro sg' st' ip' _
    rw [hle]
    by_cases h0 : v1 < 0
    · exact br_t h0 ⟨rfl, dk_rel hR⟩
    · obtain ⟨j, hj, rfl⟩ := nI_of h0
      exact br_f h0 (br_f (dk_nm1 hj) ⟨rfl, dk_rel hR⟩)
  | some len =>
    have hs := dk_fS _ _ _ hle
    have hlen : len < 7 := by omega
    have h32 := dk_e32 hlen
    refine br_f (dk_om (by omega)) ?_
    by_cases h0 : v1 < 0
    · refine br_t h0 (dk_leY (lim := 6) (hY bg) (by decide) ?_)
      intro sg' st' ip' _
      exact br_t h0 ⟨rfl, dk_rel hR⟩
    · refine br_f h0 ?_
      obtain ⟨j, hj, rfl⟩ := nI_of h0
      refine pk_le j len (fun h => ?_) (fun h => ?_)
      · cases hf : dk_fb bg B T len with
        | none =>
          have hq := hs.2.2
          unfold dk_Q at hq
          rw [hf] at hq
          exact nomatch hq
        | some m =>
          have hm := (dk_fS _ _ _ hf).2.1
          refine dk_fbX hX hlen ?_
          rw [hf]
          refine dk_soX hX hlen (n := m) (by omega) h ?_
          refine dk_leY (lim := 6) (hY bg) (by decide) ?_
          intro sg' st' ip' hw
          have hw2 := hw len hle m hf j h
          rw [hle]
          refine br_f h0 (br_t (nI_le h (by omega)) ⟨vp_in_nI (by omega) (by decide), ?_, dk_rel hR⟩)
          rw [nI_clamp (by omega)]
          exact hw2.1
      · refine dk_leY (lim := 6) (hY bg) (by decide) ?_
        intro sg' st' ip' _
        rw [hle]
        exact br_f h0 (br_f (nI_ge h (by omega)) ⟨rfl, dk_rel hR⟩)
theorem i_vc_input {k : Nat} {u : SX} {v : SY} (I : i_Rel k u v) (hk : k + 4 ≤ 2048) (v1 : Int32) : wpX_input (fun r u' => wpY_input (fun r' v' => r' = r ∧ i_Rel (k + 4) u' v') v v1) u v1 := by
  obtain ⟨g, bd, gl, gr, nl, bg, sa, ba, sg, st, ip, rfl, rfl, hR⟩ := I
  obtain ⟨B, T, htab, hY⟩ := dk_go hR
  unfold wpX_input wpY_input
  dsimp only
  refine htab _ _ _ _ ?_
  intro sa' ba' hX
  refine dk_leX (lim := 6) hX (by decide) ?_
  cases hle : dk_le bg B T 6 with
  | none =>
    refine br_t rfl (dk_leY (lim := 6) (hY bg) (by decide) ?_)
    intro sg' st' ip' _
    rw [hle]
    by_cases h0 : v1 < 0
    · exact br_t h0 ⟨rfl, dk_rel hR⟩
    · obtain ⟨j, hj, rfl⟩ := nI_of h0
      exact br_f h0 (br_f (dk_nm1 hj) ⟨rfl, dk_rel hR⟩)
  | some len =>
    have hs := dk_fS _ _ _ hle
    have hlen : len < 7 := by omega
    have h32 := dk_e32 hlen
    refine br_f (dk_om (by omega)) ?_
    by_cases h0 : v1 < 0
    · refine br_t h0 (dk_leY (lim := 6) (hY bg) (by decide) ?_)
      intro sg' st' ip' _
      exact br_t h0 ⟨rfl, dk_rel hR⟩
    · refine br_f h0 ?_
      obtain ⟨j, hj, rfl⟩ := nI_of h0
      refine pk_le j len (fun h => ?_) (fun h => ?_)
      · cases hf : dk_fb bg B T len with
        | none =>
          have hq := hs.2.2
          unfold dk_Q at hq
          rw [hf] at hq
          exact nomatch hq
        | some m =>
          have hm := (dk_fS _ _ _ hf).2.1
          refine dk_fbX hX hlen ?_
          rw [hf]
          refine dk_inX hlen (n := m) (by omega) h ?_
          refine dk_leY (lim := 6) (hY bg) (by decide) ?_
          intro sg' st' ip' hw
          have hw2 := hw len hle m hf j h
          rw [hle]
          refine br_f h0 (br_t (nI_le h (by omega)) ⟨vp_in_nI (by omega) (by decide), ?_, dk_rel hR⟩)
          rw [nI_clamp (by omega)]
          exact hw2.2
      · refine dk_leY (lim := 6) (hY bg) (by decide) ?_
        intro sg' st' ip' _
        rw [hle]
        exact br_f h0 (br_f (nI_ge h (by omega)) ⟨rfl, dk_rel hR⟩)
end
