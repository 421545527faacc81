section
/-! rows of the kit, pasted -/
def bt (x : Int32) (i : Nat) : Bool := x.toBitVec.getLsbD i
theorem b_ext {x y : Int32} (h : ∀ i, i < 32 → bt x i = bt y i) : x = y := Int32.toBitVec_inj.mp (BitVec.eq_of_getLsbD_eq (fun i hi => h i hi))
theorem b_or (x y : Int32) (i : Nat) : bt (x ||| y) i = (bt x i || bt y i) := by unfold bt; rw [Int32.toBitVec_or, BitVec.getLsbD_or]
theorem b_and (x y : Int32) (i : Nat) : bt (x &&& y) i = (bt x i && bt y i) := by unfold bt; rw [Int32.toBitVec_and, BitVec.getLsbD_and]
theorem b_big {x : Int32} {i : Nat} (h : 32 ≤ i) : bt x i = false := BitVec.getLsbD_of_ge _ _ h
theorem b_0 (i : Nat) : bt 0 i = false := BitVec.getLsbD_zero
theorem s_l : ∀ n, n < 32 → ((nI n &&& 31).toBitVec.smod 32).toNat = n := by decide +kernel
theorem b_shl (n : Nat) (hn : n < 32) (x : Int32) {i : Nat} (hi : i < 32) : bt (x <<< (nI n &&& 31)) i = (decide (n ≤ i) && bt x (i - n)) := by
  unfold bt
  rw [Int32.toBitVec_shiftLeft]
  show (x.toBitVec <<< ((nI n &&& 31).toBitVec.smod 32).toNat).getLsbD i = _
  rw [s_l n hn, BitVec.getLsbD_shiftLeft]
  rcases Nat.lt_or_ge i n with h | h
  · simp [h, Nat.not_le.mpr h]
  · simp [hi, h, Nat.not_lt.mpr h]
theorem b_sshr (n : Nat) (hn : n < 32) (x : Int32) {i : Nat} (hi : i < 32) : bt (x >>> (nI n &&& 31)) i = if n + i < 32 then bt x (n + i) else bt x 31 := by
  unfold bt
  rw [Int32.toBitVec_shiftRight]
  show (x.toBitVec.sshiftRight ((nI n &&& 31).toBitVec.smod 32).toNat).getLsbD i = _
  rw [s_l n hn, BitVec.getLsbD_sshiftRight, BitVec.msb_eq_getLsbD_last]
  simp [hi]
theorem pk_us {f : Nat → Int32} {k : Nat} {x : Int32} : upd f k x k = x := if_pos rfl
theorem pk_un {f : Nat → Int32} {k j : Nat} {x : Int32} (h : j ≠ k) : upd f k x j = f j := if_neg h
theorem pk_sub {a b : Nat} (h : b ≤ a) : nI a - nI b = nI (a - b) := by
  obtain ⟨c, rfl⟩ : ∃ c, a = c + b := ⟨a - b, by omega⟩
  rw [← nI_add, Int32.add_sub_cancel, Nat.add_sub_cancel]
theorem pk_mul (a b : Nat) : nI a * nI b = nI (a * b) := (Int32.ofNat_mul a b).symm
theorem pk_div {a d : Nat} (ha : a < 2 ^ 31) (h0 : 0 < d) (hd : d < 2 ^ 31) : nI a / nI d = nI (a / d) := by
  apply Int32.toInt_inj.mp
  rw [lg_idiv_nonneg (by rw [nI_toInt ha]; omega) (by rw [nI_toInt hd]; omega), nI_toInt ha, nI_toInt hd, nI_toInt (Nat.lt_of_le_of_lt (Nat.div_le_self a d) ha)]
  first | rfl | exact (Int.natCast_ediv _ _).symm
theorem pk_rem {a d : Nat} (ha : a < 2 ^ 31) (h0 : 0 < d) (hd : d < 2 ^ 31) : nI a - nI a / nI d * nI d = nI (a % d) := by
  rw [pk_div ha h0 hd, pk_mul, pk_sub (Nat.div_mul_le_self a d)]
  exact congrArg nI (by have := Nat.div_add_mod' a d; omega)
theorem pk_ix (x : Int32) {n : Nat} (hn : n < 2 ^ 31) : x < 0 ∨ nI n ≤ x ∨ ∃ j : Nat, j < n ∧ x = nI j := by
  by_cases h : x < 0
  · exact Or.inl h
  · obtain ⟨j, hj, rfl⟩ := nI_of h
    by_cases h2 : j < n
    · exact Or.inr (Or.inr ⟨j, h2, rfl⟩)
    · exact Or.inr (Or.inl (nI_le (by omega) hj))
theorem pk_le {x y : Int32} {A B : Prop} (a b : Nat) (f : a ≤ b → A) (g : b < a → B) (hx : x = nI a := by rfl) (hy : y = nI b := by rfl) (ha : a < 2 ^ 31 := by omega) (hb : b < 2 ^ 31 := by omega) : (x ≤ y → A) ∧ (¬ x ≤ y → B) := by
  subst hx hy
  rw [nI_leI ha hb]
  exact ⟨f, fun z => g (by omega)⟩
theorem pk_lt {x y : Int32} {A B : Prop} (a b : Nat) (f : a < b → A) (g : b ≤ a → B) (hx : x = nI a := by rfl) (hy : y = nI b := by rfl) (ha : a < 2 ^ 31 := by omega) (hb : b < 2 ^ 31 := by omega) : (x < y → A) ∧ (¬ x < y → B) := by
  subst hx hy
  rw [nI_ltI ha hb]
  exact ⟨f, fun z => g (by omega)⟩
theorem pk_eq {x y : Int32} {A B : Prop} (a b : Nat) (f : a = b → A) (g : a ≠ b → B) (hx : x = nI a := by rfl) (hy : y = nI b := by rfl) (ha : a < 2 ^ 31 := by omega) (hb : b < 2 ^ 31 := by omega) : (x = y → A) ∧ (¬ x = y → B) := by
  subst hx hy
  rw [nI_eq ha hb]
  exact ⟨f, g⟩
theorem pk_in {x : Int32} (n N : Nat) (h : n < N) (hx : x = nI n := by rfl) (hN : N < 2 ^ 31 := by omega) : vp_in x N := by
  subst hx
  exact vp_in_nI h hN
theorem pk_cl {x : Int32} (n : Nat) (hx : x = nI n := by rfl) (h : n < 2 ^ 31 := by omega) : x.toNatClampNeg = n := by
  subst hx
  exact nI_clamp h
theorem pk_tn {n : Nat} (h : n < 2 ^ 32) : (nI n).toBitVec.toNat = n := Nat.mod_eq_of_lt h
theorem pk_and (x : Int32) {m : Int32} (k : Nat) (hm : m.toBitVec.toNat = 2 ^ k - 1) : x &&& m = nI (x.toBitVec.toNat % 2 ^ k) := by
  apply Int32.toBitVec_inj.mp
  apply BitVec.eq_of_toNat_eq
  rw [Int32.toBitVec_and, BitVec.toNat_and, hm, Nat.and_two_pow_sub_one_eq_mod]
  show _ = (BitVec.ofNat 32 _).toNat
  rw [BitVec.toNat_ofNat]
  exact (Nat.mod_eq_of_lt (Nat.lt_of_le_of_lt (Nat.mod_le _ _) x.toBitVec.isLt)).symm
theorem pk_andN {n : Nat} (h : n < 2 ^ 32) {m : Int32} (k : Nat) (hm : m.toBitVec.toNat = 2 ^ k - 1) : nI n &&& m = nI (n % 2 ^ k) := by
  rw [pk_and _ k hm, pk_tn h]
theorem pk_andE (x : Int32) {m : Int32} (k : Nat) (hm : m.toBitVec.toNat = 2 ^ k - 1) : ∃ j : Nat, j < 2 ^ k ∧ x &&& m = nI j := ⟨_, Nat.mod_lt _ (Nat.two_pow_pos k), pk_and x k hm⟩
theorem pk_shl (a s : Int32) (k : Nat) (hs : (s.toBitVec.smod 32).toNat = k) : (a <<< s).toBitVec.toNat = a.toBitVec.toNat * 2 ^ k % 2 ^ 32 := by
  show (a.toBitVec <<< (s.toBitVec.smod 32).toNat).toNat = _
  rw [hs, BitVec.toNat_shiftLeft, Nat.shiftLeft_eq]
theorem pk_shlN {n : Nat} (s : Int32) (k : Nat) (hs : (s.toBitVec.smod 32).toNat = k) (h : n * 2 ^ k < 2 ^ 32) : nI n <<< s = nI (n * 2 ^ k) := by
  apply Int32.toBitVec_inj.mp
  apply BitVec.eq_of_toNat_eq
  have hn : n < 2 ^ 32 := Nat.lt_of_le_of_lt (Nat.le_mul_of_pos_right n (Nat.two_pow_pos k)) h
  rw [pk_shl _ _ k hs, pk_tn hn, pk_tn h, Nat.mod_eq_of_lt h]
theorem pk_shr (a s : Int32) (k : Nat) (hs : (s.toBitVec.smod 32).toNat = k) : (a >>> s).toInt = a.toInt >>> k := by
  show (a.toBitVec.sshiftRight (s.toBitVec.smod 32).toNat).toInt = _
  rw [hs, BitVec.toInt_sshiftRight]
  rfl
theorem pk_shrN {n : Nat} (h : n < 2 ^ 31) (s : Int32) (k : Nat) (hs : (s.toBitVec.smod 32).toNat = k) : nI n >>> s = nI (n / 2 ^ k) := by
  apply Int32.toInt_inj.mp
  have h2 : n / 2 ^ k ≤ n := Nat.div_le_self _ _
  rw [pk_shr _ _ k hs, nI_toInt h, nI_toInt (by omega), Int.shiftRight_eq_div_pow]
  rfl
end
section
/-! the signals: the class's mask and the reference's array against one function to Bool -/
def dk_b (c : Bool) : Int32 := if c then 1 else 0
theorem dk_1 (i : Nat) : bt 1 i = decide (i = 0) := by
  rcases Nat.lt_or_ge i 32 with h | h
  · exact (by decide +kernel : ∀ i, i < 32 → bt 1 i = decide (i = 0)) i h
  · rw [b_big h, decide_eq_false (by omega)]
theorem dk_bb (c : Bool) (i : Nat) : bt (dk_b c) i = (c && decide (i = 0)) := by
  cases c
  · exact b_0 i
  · exact (dk_1 i).trans (by simp)
theorem dk_bit (m : Int32) (k : Nat) (hk : k < 32) : (m >>> (nI k &&& 31)) &&& 1 = dk_b (bt m k) := by
  apply b_ext
  intro i hi
  rw [b_and, dk_1, dk_bb, b_sshr k hk m hi]
  by_cases h : i = 0
  · subst h
    simp [hk]
  · simp [h]
def dk_l (f : Nat → Bool) (a : Nat) : Bool := f (a / 2) ^^ decide (a % 2 = 1)
theorem dk_l_eq {f h : Nat → Bool} {a : Nat} (e : f (a / 2) = h (a / 2)) : dk_l f a = dk_l h a := by
  unfold dk_l
  rw [e]
theorem dk_x01 (c : Bool) (a : Nat) (h : a < 2) : dk_b c ^^^ nI a = dk_b (c ^^ decide (a = 1)) := by
  have h2 : a = 0 ∨ a = 1 := by omega
  rcases h2 with rfl | rfl <;> cases c <;> decide
theorem dk_not (c : Bool) : 1 - dk_b c = dk_b (!c) := by cases c <;> decide
theorem dk_mul (c d : Bool) : dk_b c * dk_b d = dk_b (c && d) := by cases c <;> cases d <;> decide
theorem dk_litX {post : Int32 → Prop} {a : Nat} {m : Int32} (ha : a < 32) (h : post (dk_b (dk_l (bt m) a))) : wpX_literalValue post (nI a) m := by
  have e1 : nI a >>> ((1 : Int32) &&& 31) = nI (a / 2) := pk_shrN (by omega) _ 1 (by decide)
  have e2 : nI a &&& 1 = nI (a % 2) := pk_andN (by omega) 1 (by decide)
  unfold wpX_literalValue
  rw [e1, e2, dk_bit m (a / 2) (by omega)]
  intro x ex
  rw [ex, dk_x01 _ _ (by omega)]
  exact h
theorem dk_ofY {post : Int32 → Prop} {q0 q1 : Int32} {fs ss nl bg sg st ip : Nat → Int32} {F : Nat → Bool} {a : Nat} (ha : a < 32) (hF : sg (a / 2) = dk_b (F (a / 2))) (h : post (dk_b (dk_l F a))) : wpY_of post (q0, q1, fs, ss, nl, bg, sg, st, ip) (nI a) := by
  have e1 : nI a - nI a / 2 * 2 = nI (a % 2) := pk_rem (d := 2) (by omega) (by decide) (by decide)
  have e2 : nI a / 2 = nI (a / 2) := pk_div (d := 2) (by omega) (by decide) (by decide)
  have hi : vp_in (nI (a / 2)) 16 := vp_in_nI (by omega) (by decide)
  unfold wpY_of
  dsimp only
  rw [e1, e2, nI_clamp (by omega), hF]
  refine ⟨by decide, pk_eq (a % 2) 0 (fun z => ⟨by decide, hi, ?_⟩) (fun z => ⟨by decide, hi, ?_⟩)⟩
  · have e : dk_l F a = F (a / 2) := by simp [dk_l, z]
    rw [← e]
    exact h
  · have z1 : a % 2 = 1 := by omega
    have e : dk_l F a = !F (a / 2) := by simp [dk_l, z1]
    rw [dk_not, ← e]
    exact h
def dk_s0 (s x : Nat) (j : Nat) : Bool := if j = 5 then x.testBit 0 else (decide (1 ≤ j) && (decide (j < 5) && s.testBit (j - 1)))
theorem dk_s0X : ∀ s, s < 16 → ∀ x, x < 2 → ∀ j, j < 32 → bt ((nI s <<< ((1 : Int32) &&& 31)) ||| (nI x <<< ((5 : Int32) &&& 31))) j = dk_s0 s x j := by decide +kernel
theorem dk_s0Y : ∀ s, s < 16 → ∀ x, x < 2 → ∀ l, l < 5 → 1 ≤ l → (nI s >>> ((nI l - 1) &&& 31)) &&& 1 = dk_b (dk_s0 s x l) := by decide +kernel
theorem dk_s0Y5 : ∀ s, s < 16 → ∀ x, x < 2 → nI x = dk_b (dk_s0 s x 5) := by decide +kernel
theorem dk_s0Y0 (s x : Nat) : 0 = dk_b (dk_s0 s x 0) := rfl
def dk_sg (L R : Nat → Nat) (s x : Nat) : Nat → Nat → Bool
  | 0 => dk_s0 s x
  | g + 1 => fun j => if j = 6 + g then dk_l (dk_sg L R s x g) (L g) && dk_l (dk_sg L R s x g) (R g) else dk_sg L R s x g j
theorem dk_sgHi {L R : Nat → Nat} {s x : Nat} : ∀ g j, 6 + g ≤ j → dk_sg L R s x g j = false := by
  intro g
  induction g with
  | zero =>
    intro j hj
    show dk_s0 s x j = false
    unfold dk_s0
    rw [if_neg (by omega), decide_eq_false (p := j < 5) (by omega)]
    simp
  | succ g ih =>
    intro j hj
    show (if j = 6 + g then _ else _) = false
    rw [if_neg (by omega)]
    exact ih j (by omega)
def dk_H (g : Nat) (A B : Nat → Int32) (L R : Nat → Nat) : Prop := g ≤ 10 ∧ ∀ j, j < g → (L j < 2 * (6 + j) ∧ A j = nI (L j)) ∧ (R j < 2 * (6 + j) ∧ B j = nI (R j))
theorem dk_sigX12 {post : Int32 → Prop} {g bd s x : Nat} {L R : Nat → Nat} {gl gr nl bg sa ba : Nat → Int32} (hg : dk_H g (fun j => gl (6 + j)) (fun j => gr (6 + j)) L R)
    (hp : ∀ m, (∀ j, j < 32 → bt m j = dk_sg L R s x g j) → post m) :
    ∀ d i m, i + d = g → (∀ j, j < 32 → bt m j = dk_sg L R s x i j) → wX_signalValues_12 post (nI (6 + g)) (nI bd) gl gr nl bg sa ba (d + 1) m (nI (6 + i)) := by
  have hg1 := hg.1
  intro d
  induction d with
  | zero =>
    intro i m hi hm
    have e : i = g := by omega
    subst e
    exact br_t (nI_le (Nat.le_refl _) (by omega)) (hp m hm)
  | succ d ih =>
    intro i m hi hm
    have hin : vp_in (nI (6 + i)) 16 := vp_in_nI (by omega) (by decide)
    have hL1 : L i < 2 * (6 + i) := (hg.2 i (by omega)).1.1
    have hL2 : gl (6 + i) = nI (L i) := (hg.2 i (by omega)).1.2
    have hR1 : R i < 2 * (6 + i) := (hg.2 i (by omega)).2.1
    have hR2 : gr (6 + i) = nI (R i) := (hg.2 i (by omega)).2.2
    have hcl : (nI (6 + i)).toNatClampNeg = 6 + i := nI_clamp (by omega)
    refine br_f (nI_ge (by omega) (by omega)) ⟨hin, ?_⟩
    rw [hcl, hL2]
    refine dk_litX (by omega) ⟨hin, ?_⟩
    rw [hR2]
    refine dk_litX (by omega) (nm_e (nm_r (nI_1 _) ?_))
    refine ih (i + 1) _ (by omega) ?_
    intro j hj
    have el : dk_l (bt m) (L i) = dk_l (dk_sg L R s x i) (L i) := dk_l_eq (hm _ (by omega))
    have er : dk_l (bt m) (R i) = dk_l (dk_sg L R s x i) (R i) := dk_l_eq (hm _ (by omega))
    rw [b_or, b_shl (6 + i) (by omega) _ hj, b_and, dk_bb, dk_bb, hm j hj, el, er]
    show _ = if j = 6 + i then _ else _
    by_cases h : j = 6 + i
    · subst h
      rw [dk_sgHi i _ (Nat.le_refl _), if_pos rfl]
      simp
    · rw [if_neg h]
      by_cases h3 : 6 + i ≤ j
      · rw [decide_eq_false (p := j - (6 + i) = 0) (by omega)]
        simp
      · rw [decide_eq_false h3]
        simp
theorem dk_sigX {post : Int32 → Prop} {g bd s x : Nat} {L R : Nat → Nat} {gl gr nl bg sa ba : Nat → Int32} (hg : dk_H g (fun j => gl (6 + j)) (fun j => gr (6 + j)) L R) (hs : s < 16) (hx : x < 2)
    (hp : ∀ m, (∀ j, j < 32 → bt m j = dk_sg L R s x g j) → post m) : wpX_signalValues post (nI (6 + g), nI bd, gl, gr, nl, bg, sa, ba) (nI s) (nI x) :=
  nm_e (Exists.intro (g + 1) (dk_sigX12 hg hp g 0 _ (by omega) (dk_s0X s hs x hx)))
theorem dk_workY44 {post : SY → Prop} {g bd s x : Nat} {L R : Nat → Nat} {fs ss nl bg st ip : Nat → Int32} (hg : dk_H g fs ss L R)
    (hp : ∀ sg : Nat → Int32, (∀ j, j < 6 + g → sg j = dk_b (dk_sg L R s x g j)) → post (nI g, nI bd, fs, ss, nl, bg, sg, st, ip)) :
    ∀ d i (sg : Nat → Int32), i + d = g → (∀ j, j < 6 + i → sg j = dk_b (dk_sg L R s x i j)) → wY_work_44 post (nI g) (nI bd) (d + 1) (nI i) fs ss nl bg sg st ip := by
  have hg1 := hg.1
  intro d
  induction d with
  | zero =>
    intro i sg hi hm
    have e : i = g := by omega
    subst e
    exact br_t (nI_le (Nat.le_refl _) (by omega)) (hp sg hm)
  | succ d ih =>
    intro i sg hi hm
    have hin : vp_in (nI i) 10 := vp_in_nI (by omega) (by decide)
    obtain ⟨⟨hL1, hL2⟩, hR1, hR2⟩ := hg.2 i (by omega)
    have hcl : (nI i).toNatClampNeg = i := nI_clamp (by omega)
    have e6 : 6 + nI i = nI (6 + i) := nI_add 6 i
    have hc6 : (nI (6 + i)).toNatClampNeg = 6 + i := nI_clamp (by omega)
    refine br_f (nI_ge (by omega) (by omega)) ⟨hin, ?_⟩
    rw [hcl, hL2]
    refine dk_ofY (F := dk_sg L R s x i) (by omega) (hm _ (by omega)) ⟨hin, ?_⟩
    rw [hR2]
    refine dk_ofY (F := dk_sg L R s x i) (by omega) (hm _ (by omega)) ?_
    rw [e6, hc6, dk_mul]
    refine ⟨vp_in_nI (by omega) (by decide), nm_e (nm_r (nI_1 _) ?_)⟩
    refine ih (i + 1) _ (by omega) ?_
    intro j hj
    show _ = dk_b (if j = 6 + i then _ else _)
    by_cases h : j = 6 + i
    · rw [h, pk_us, if_pos rfl]
    · rw [pk_un h, if_neg h]
      exact hm j (by omega)
theorem dk_workY9 {post : SY → Prop} {g bd s x : Nat} {p : Int32} {L R : Nat → Nat} {fs ss nl bg st ip : Nat → Int32} (hg : dk_H g fs ss L R) (hs : s < 16) (hx : x < 2) (hpx : p &&& 1 = nI x)
    (hp : ∀ sg : Nat → Int32, (∀ j, j < 6 + g → sg j = dk_b (dk_sg L R s x g j)) → post (nI g, nI bd, fs, ss, nl, bg, sg, st, ip)) :
    ∀ d l (sg : Nat → Int32), l + d = 5 → 1 ≤ l → (∀ j, j < l → sg j = dk_b (dk_s0 s x j)) → wY_work_9 post (nI s) p (nI g) (nI bd) (d + 1) (nI l) fs ss nl bg sg st ip := by
  intro d
  induction d with
  | zero =>
    intro l sg hi h1 hm
    have e : l = 5 := by omega
    subst e
    refine br_t (by decide) ?_
    rw [hpx]
    refine nm_e (Exists.intro (g + 1) (dk_workY44 hg hp g 0 _ (by omega) ?_))
    intro j hj
    show _ = dk_b (dk_s0 s x j)
    by_cases h : j = 5
    · rw [h, pk_us]
      exact dk_s0Y5 s hs x hx
    · rw [pk_un h]
      exact hm j (by omega)
  | succ d ih =>
    intro l sg hi h1 hm
    have hcl : (nI l).toNatClampNeg = l := nI_clamp (by omega)
    refine br_f (nI_ge (b := 5) (by omega) (by decide)) ⟨vp_in_nI (by omega) (by decide), ?_⟩
    rw [hcl, dk_s0Y s hs x hx l (by omega) h1]
    refine nm_e (nm_r (nI_1 _) ?_)
    refine ih (l + 1) _ (by omega) (by omega) ?_
    intro j hj
    by_cases h : j = l
    · rw [h, pk_us]
    · rw [pk_un h]
      exact hm j (by omega)
theorem dk_workY {post : SY → Prop} {g bd s x : Nat} {p : Int32} {L R : Nat → Nat} {fs ss nl bg sg st ip : Nat → Int32} (hg : dk_H g fs ss L R) (hs : s < 16) (hx : x < 2) (hpx : p &&& 1 = nI x)
    (hp : ∀ sg : Nat → Int32, (∀ j, j < 6 + g → sg j = dk_b (dk_sg L R s x g j)) → post (nI g, nI bd, fs, ss, nl, bg, sg, st, ip)) : wpY_work post (nI g, nI bd, fs, ss, nl, bg, sg, st, ip) (nI s) p := by
  refine nm_e (Exists.intro 5 (dk_workY9 hg hs hx hpx hp 4 1 _ (by omega) (by omega) ?_))
  intro j hj
  have e : j = 0 := by omega
  rw [e, pk_us]
  exact dk_s0Y0 s x
end
section
/-! bad and step: the class's two tables, the reference's isBad and step -/
def dk_HN (g bd : Nat) (nl : Nat → Int32) (N : Nat → Nat) : Prop := bd < 2 * (6 + g) ∧ ∀ l, 1 ≤ l → l < 5 → N l < 2 * (6 + g) ∧ nl l = nI (N l)
def dk_n4 (p q r t : Bool) : Nat := p.toNat + 2 * q.toNat + 4 * r.toNat + 8 * t.toNat
theorem dk_n4lt (p q r t : Bool) : dk_n4 p q r t < 16 := by cases p <;> cases q <;> cases r <;> cases t <;> decide
def dk_ac (P : Nat → Bool) : Nat → Int32
  | 0 => 0
  | l + 1 => dk_ac P l ||| (dk_b (P (l + 1)) <<< ((nI (l + 1) - 1) &&& 31))
theorem dk_or4 : ∀ p q r t : Bool, ((((0 ||| (dk_b p <<< ((nI 1 - 1) &&& 31))) ||| (dk_b q <<< ((nI 2 - 1) &&& 31))) ||| (dk_b r <<< ((nI 3 - 1) &&& 31))) ||| (dk_b t <<< ((nI 4 - 1) &&& 31))) = nI (dk_n4 p q r t) := by decide +kernel
theorem dk_ac4 (P : Nat → Bool) : dk_ac P 4 = nI (dk_n4 (P 1) (P 2) (P 3) (P 4)) := dk_or4 (P 1) (P 2) (P 3) (P 4)
def dk_T (g : Nat) (L R N : Nat → Nat) (s x : Nat) : Nat := dk_n4 (dk_l (dk_sg L R s x g) (N 1)) (dk_l (dk_sg L R s x g) (N 2)) (dk_l (dk_sg L R s x g) (N 3)) (dk_l (dk_sg L R s x g) (N 4))
def dk_B (g bd : Nat) (L R : Nat → Nat) (s x : Nat) : Bool := dk_l (dk_sg L R s x g) bd
theorem dk_Tlt (g : Nat) (L R N : Nat → Nat) (s x : Nat) : dk_T g L R N s x < 16 := dk_n4lt _ _ _ _
theorem dk_reX4 {post : Int32 → Prop} {g bd : Nat} {m : Int32} {F : Nat → Bool} {N : Nat → Nat} {gl gr nl bg sa ba : Nat → Int32} (hg : g ≤ 10) (hN : dk_HN g bd nl N) (hm : ∀ j, j < 32 → bt m j = F j)
    (hp : post (dk_ac (fun l => dk_l F (N l)) 4)) :
    ∀ d l, l + d = 4 → wX_stateReached_4 post m (nI (6 + g)) (nI bd) gl gr nl bg sa ba (d + 1) (dk_ac (fun l => dk_l F (N l)) l) (nI (l + 1)) := by
  intro d
  induction d with
  | zero =>
    intro l hl
    have e : l = 4 := by omega
    subst e
    exact br_t (by decide) hp
  | succ d ih =>
    intro l hl
    have hcl : (nI (l + 1)).toNatClampNeg = l + 1 := nI_clamp (by omega)
    obtain ⟨h1, h2⟩ := hN.2 (l + 1) (by omega) (by omega)
    refine br_f (nI_nlt (a := 4) (by omega) (by omega)) ⟨vp_in_nI (by omega) (by decide), ?_⟩
    rw [hcl, h2]
    refine dk_litX (by omega) (nm_e (nm_r (nI_1 _) ?_))
    have e : dk_l (bt m) (N (l + 1)) = dk_l F (N (l + 1)) := dk_l_eq (hm _ (by omega))
    rw [e]
    exact ih (l + 1) (by omega)
theorem dk_reX {post : Int32 → Prop} {g bd : Nat} {m : Int32} {F : Nat → Bool} {N : Nat → Nat} {gl gr nl bg sa ba : Nat → Int32} (hg : g ≤ 10) (hN : dk_HN g bd nl N) (hm : ∀ j, j < 32 → bt m j = F j)
    (hp : post (nI (dk_n4 (dk_l F (N 1)) (dk_l F (N 2)) (dk_l F (N 3)) (dk_l F (N 4))))) : wpX_stateReached post (nI (6 + g), nI bd, gl, gr, nl, bg, sa, ba) m := by
  refine Exists.intro 5 (dk_reX4 (F := F) hg hN hm ?_ 4 0 (by omega))
  rw [dk_ac4]
  exact hp
theorem dk_nar (c : Bool) : vp_nar .boolean (dk_b c) = dk_b c := by cases c <;> rfl
def dk_HT (sa ba : Nat → Int32) (T : Nat → Nat → Nat) (B : Nat → Nat → Bool) (p : Nat) : Prop := ∀ q, q < p → sa q = nI (T (q / 2) (q % 2)) ∧ ba q = dk_b (B (q / 2) (q % 2))
theorem dk_tabX2 {post : SX → Prop} {g bd : Nat} {L R N : Nat → Nat} {gl gr nl bg : Nat → Int32} (hg : dk_H g (fun j => gl (6 + j)) (fun j => gr (6 + j)) L R) (hN : dk_HN g bd nl N)
    (hp : ∀ sa ba : Nat → Int32, dk_HT sa ba (dk_T g L R N) (dk_B g bd L R) 32 → post (nI (6 + g), nI bd, gl, gr, nl, bg, sa, ba)) :
    ∀ d p (sa ba : Nat → Int32), p + d = 32 → dk_HT sa ba (dk_T g L R N) (dk_B g bd L R) p → wX_tabulateCircuit_2 post (nI (6 + g)) (nI bd) (d + 1) (nI p) gl gr nl bg sa ba := by
  have hg1 := hg.1
  have hbd := hN.1
  intro d
  induction d with
  | zero =>
    intro p sa ba hd hT
    have e : p = 32 := by omega
    subst e
    exact br_t (by decide) (hp sa ba hT)
  | succ d ih =>
    intro p sa ba hd hT
    have e1 : nI p >>> ((1 : Int32) &&& 31) = nI (p / 2) := pk_shrN (by omega) _ 1 (by decide)
    have e2 : nI p &&& 1 = nI (p % 2) := pk_andN (by omega) 1 (by decide)
    have hcl : (nI p).toNatClampNeg = p := nI_clamp (by omega)
    have hin : vp_in (nI p) 32 := vp_in_nI (by omega) (by decide)
    refine br_f (nI_ge (b := 32) (by omega) (by decide)) ?_
    rw [e1, e2]
    refine dk_sigX hg (by omega) (by omega) ?_
    intro m hm
    refine dk_litX (by omega) ?_
    have eB : dk_l (bt m) bd = dk_B g bd L R (p / 2) (p % 2) := dk_l_eq (hm _ (by omega))
    rw [eB]
    have key : ∀ z, z = dk_b (dk_B g bd L R (p / 2) (p % 2)) → wX_tabulateCircuit_41 post (wX_tabulateCircuit_2 post (nI (6 + g)) (nI bd) (d + 1)) (nI p) m z (nI p) (nI (6 + g)) (nI bd) gl gr nl bg sa ba := by
      intro z ez
      refine And.intro hin ?_
      rw [ez, dk_nar, hcl]
      refine nm_e ?_
      refine dk_reX hg1 hN hm ⟨hin, nm_e (nm_r (nI_1 _) ?_)⟩
      refine ih (p + 1) _ _ (by omega) ?_
      intro q hq
      by_cases h : q = p
      · rw [h, pk_us, pk_us]
        exact ⟨rfl, rfl⟩
      · rw [pk_un h, pk_un h]
        exact hT q (by omega)
    cases hb : dk_B g bd L R (p / 2) (p % 2)
    · rw [hb] at key
      exact br_f (by decide) (key 0 rfl)
    · rw [hb] at key
      exact br_t rfl (key 1 rfl)
theorem dk_tabX {post : SX → Prop} {g bd : Nat} {L R N : Nat → Nat} {gl gr nl bg sa ba : Nat → Int32} (hg : dk_H g (fun j => gl (6 + j)) (fun j => gr (6 + j)) L R) (hN : dk_HN g bd nl N)
    (hp : ∀ sa ba : Nat → Int32, dk_HT sa ba (dk_T g L R N) (dk_B g bd L R) 32 → post (nI (6 + g), nI bd, gl, gr, nl, bg, sa, ba)) : wpX_tabulateCircuit post (nI (6 + g), nI bd, gl, gr, nl, bg, sa, ba) :=
  Exists.intro 33 (dk_tabX2 hg hN hp 32 0 sa ba (by omega) (fun q hq => absurd hq (by omega)))
theorem dk_badY {post : Int32 → SY → Prop} {g bd s x : Nat} {L R N : Nat → Nat} {fs ss nl bg sg st ip : Nat → Int32} (hg : dk_H g fs ss L R) (hN : dk_HN g bd nl N) (hs : s < 16) (hx : x < 2)
    (hp : ∀ sg : Nat → Int32, post (dk_b (dk_B g bd L R s x)) (nI g, nI bd, fs, ss, nl, bg, sg, st, ip)) : wpY_isBad post (nI g, nI bd, fs, ss, nl, bg, sg, st, ip) (nI s) (nI x) := by
  have hg1 := hg.1
  have hbd := hN.1
  have ex : nI x &&& 1 = nI x := (pk_andN (by omega) 1 (by decide)).trans (congrArg nI (Nat.mod_eq_of_lt hx))
  unfold wpY_isBad
  dsimp only
  refine dk_workY hg hs hx ex ?_
  intro sg' hsg
  refine dk_ofY (F := dk_sg L R s x g) (by omega) (hsg _ (by omega)) ?_
  have h := hp sg'
  unfold dk_B at h
  cases hb : dk_l (dk_sg L R s x g) bd
  · rw [hb] at h
    exact br_f (by decide) h
  · rw [hb] at h
    exact br_t rfl h
theorem dk_stepY11 {post : Int32 → SY → Prop} {g bd : Nat} {F : Nat → Bool} {N : Nat → Nat} {fs ss nl bg sg st ip : Nat → Int32} (hg : g ≤ 10) (hN : dk_HN g bd nl N) (hm : ∀ j, j < 6 + g → sg j = dk_b (F j))
    (hp : post (dk_ac (fun l => dk_l F (N l)) 4) (nI g, nI bd, fs, ss, nl, bg, sg, st, ip)) :
    ∀ d l, l + d = 4 → wY_step_11 post (nI g) (nI bd) fs ss nl bg sg st ip (d + 1) (dk_ac (fun l => dk_l F (N l)) l) (nI (l + 1)) := by
  intro d
  induction d with
  | zero =>
    intro l hl
    have e : l = 4 := by omega
    subst e
    exact br_t (by decide) hp
  | succ d ih =>
    intro l hl
    have hcl : (nI (l + 1)).toNatClampNeg = l + 1 := nI_clamp (by omega)
    obtain ⟨h1, h2⟩ := hN.2 (l + 1) (by omega) (by omega)
    refine br_f (nI_ge (b := 5) (by omega) (by decide)) ⟨vp_in_nI (by omega) (by decide), ?_⟩
    rw [hcl, h2]
    refine dk_ofY (F := F) (by omega) (hm _ (by omega)) (nm_e (nm_r (nI_1 _) ?_))
    exact ih (l + 1) (by omega)
theorem dk_stepY {post : Int32 → SY → Prop} {g bd s x : Nat} {L R N : Nat → Nat} {fs ss nl bg sg st ip : Nat → Int32} (hg : dk_H g fs ss L R) (hN : dk_HN g bd nl N) (hs : s < 16) (hx : x < 2)
    (hp : ∀ sg : Nat → Int32, post (nI (dk_T g L R N s x)) (nI g, nI bd, fs, ss, nl, bg, sg, st, ip)) : wpY_step post (nI g, nI bd, fs, ss, nl, bg, sg, st, ip) (nI s) (nI x) := by
  have ex : nI x &&& 1 = nI x := (pk_andN (by omega) 1 (by decide)).trans (congrArg nI (Nat.mod_eq_of_lt hx))
  unfold wpY_step
  dsimp only
  refine dk_workY hg hs hx ex ?_
  intro sg' hsg
  refine Exists.intro 5 (dk_stepY11 (F := dk_sg L R s x g) hg.1 hN hsg ?_ 4 0 (by omega))
  rw [dk_ac4]
  exact hp sg'
end
