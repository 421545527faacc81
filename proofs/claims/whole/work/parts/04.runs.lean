/-! runs by their number -/
def dk_in (len n i : Nat) : Nat := n / 2 ^ (len - i) % 2
theorem dk_inlt (len n i : Nat) : dk_in len n i < 2 := Nat.mod_lt _ (by decide)
def dk_st (T : Nat → Nat → Nat) (len n : Nat) : Nat → Nat
  | 0 => n / 2 ^ (len + 1)
  | i + 1 => T (dk_st T len n i) (dk_in len n i)
theorem dk_stlt {T : Nat → Nat → Nat} (hT : ∀ s x, T s x < 16) {len n : Nat} (hn : n < 32 * 2 ^ len) : ∀ i, dk_st T len n i < 16 := by
  intro i
  cases i with
  | zero =>
    refine Nat.div_lt_of_lt_mul ?_
    rw [Nat.pow_succ]
    omega
  | succ i => exact hT _ _
def dk_nb (B : Nat → Nat → Bool) (T : Nat → Nat → Nat) (len n : Nat) : Nat → Bool
  | 0 => true
  | i + 1 => dk_nb B T len n i && !B (dk_st T len n i) (dk_in len n i)
theorem dk_nbF {B : Nat → Nat → Bool} {T : Nat → Nat → Nat} {len n i : Nat} (h : dk_nb B T len n i = false) : ∀ k, dk_nb B T len n (i + k) = false := by
  intro k
  induction k with
  | zero => exact h
  | succ k ih =>
    show (dk_nb B T len n (i + k) && _) = false
    rw [ih]
    rfl
def dk_run (B : Nat → Nat → Bool) (T : Nat → Nat → Nat) (len n : Nat) : Bool := dk_nb B T len n len && B (dk_st T len n len) (dk_in len n len)
theorem dk_e32 {len : Nat} (hl : len < 7) : 32 * 2 ^ len ≤ 2048 := by
  have h : 2 ^ len ≤ 2 ^ 6 := Nat.pow_le_pow_right (by decide) (by omega)
  omega
theorem dk_sh {len n : Nat} (hl : len < 7) (hn : n < 2048) : nI n >>> ((nI len + 1) &&& 31) = nI (n / 2 ^ (len + 1)) := by
  rw [nI_1]
  exact pk_shrN (by omega) _ (len + 1) (s_l _ (by omega))
theorem dk_inI {len n i : Nat} (hl : len < 7) (hn : n < 2048) (hi : i ≤ len) : (nI n >>> ((nI len - nI i) &&& 31)) &&& 1 = nI (dk_in len n i) := by
  have h : n / 2 ^ (len - i) ≤ n := Nat.div_le_self _ _
  rw [pk_sub hi, pk_shrN (by omega) _ (len - i) (s_l _ (by omega))]
  exact pk_andN (by omega) 1 (by decide)
theorem dk_inX {post : Int32 → Prop} {len n i : Nat} (hl : len < 7) (hn : n < 2048) (hi : i ≤ len) (h : post (nI (dk_in len n i))) : wpX_inputOfRun post (nI n) (nI len) (nI i) := by
  unfold wpX_inputOfRun
  rw [dk_inI hl hn hi]
  exact h
theorem dk_inMod {len n i : Nat} (hi : i ≤ len) : dk_in len (n % 2 ^ (len + 1)) i = dk_in len n i := by
  unfold dk_in
  have e : 2 ^ (len + 1) = 2 ^ (len - i) * 2 ^ (i + 1) := by
    rw [← Nat.pow_add]
    exact congrArg (2 ^ ·) (by omega)
  rw [e, Nat.mod_mul_right_div_self]
  exact Nat.mod_mod_of_dvd _ ⟨2 ^ i, by rw [Nat.pow_succ, Nat.mul_comm]⟩
theorem dk_pl (s x : Nat) : 2 * nI s + nI x = nI (2 * s + x) := by
  rw [show (2 : Int32) = nI 2 from rfl, pk_mul, nI_add]
theorem dk_narw (c : Bool) : narrow .boolean (.int (dk_b c)) = .int (dk_b c) := by cases c <;> rfl
/-! the class -/
def dk_HX (sa ba : Nat → Int32) (B : Nat → Nat → Bool) (T : Nat → Nat → Nat) : Prop := (∀ s x, T s x < 16) ∧ ∀ s x, s < 16 → x < 2 → sa (2 * s + x) = nI (T s x) ∧ ba (2 * s + x) = dk_b (B s x)
theorem dk_HTX {sa ba : Nat → Int32} {B : Nat → Nat → Bool} {T : Nat → Nat → Nat} (hT : ∀ s x, T s x < 16) (h : dk_HT sa ba T B 32) : dk_HX sa ba B T := by
  refine ⟨hT, ?_⟩
  intro s x hs hx
  have h2 := h (2 * s + x) (by omega)
  rw [show (2 * s + x) / 2 = s by omega, show (2 * s + x) % 2 = x by omega] at h2
  exact h2
theorem dk_soX10 {post : Int32 → Prop} {g bd len n k : Nat} {B : Nat → Nat → Bool} {T : Nat → Nat → Nat} {gl gr nl bg sa ba : Nat → Int32} (hX : dk_HX sa ba B T) (hl : len < 7) (hn : n < 32 * 2 ^ len) (hk : k ≤ len)
    (hp : post (nI (dk_st T len n k))) :
    ∀ d i, i + d = k → wX_stateOfRun_10 post (nI n) (nI len) (nI k) (nI (6 + g)) (nI bd) gl gr nl bg sa ba (d + 1) (nI (dk_st T len n i)) (nI i) := by
  have hn2 : n < 2048 := Nat.lt_of_lt_of_le hn (dk_e32 hl)
  intro d
  induction d with
  | zero =>
    intro i hi
    have e : i = k := by omega
    subst e
    exact br_t (nI_le (Nat.le_refl _) (by omega)) hp
  | succ d ih =>
    intro i hi
    have hs := dk_stlt hX.1 hn i
    have hx := dk_inlt len n i
    refine br_f (nI_ge (by omega) (by omega)) (dk_inX hl hn2 (by omega) ?_)
    rw [dk_pl, nI_clamp (by omega), (hX.2 _ _ hs hx).1]
    exact ⟨vp_in_nI (by omega) (by decide), nm_e (nm_r (nI_1 _) (ih (i + 1) (by omega)))⟩
theorem dk_soX {post : Int32 → Prop} {g bd len n k : Nat} {B : Nat → Nat → Bool} {T : Nat → Nat → Nat} {gl gr nl bg sa ba : Nat → Int32} (hX : dk_HX sa ba B T) (hl : len < 7) (hn : n < 32 * 2 ^ len) (hk : k ≤ len)
    (hp : post (nI (dk_st T len n k))) : wpX_stateOfRun post (nI (6 + g), nI bd, gl, gr, nl, bg, sa, ba) (nI n) (nI len) (nI k) :=
  nm_r (dk_sh hl (Nat.lt_of_lt_of_le hn (dk_e32 hl))) (Exists.intro (k + 1) (dk_soX10 hX hl hn hk hp k 0 (by omega)))
theorem dk_brX9 {post : Int32 → Prop} {g bd len n : Nat} {B : Nat → Nat → Bool} {T : Nat → Nat → Nat} {gl gr nl bg sa ba : Nat → Int32} (hX : dk_HX sa ba B T) (hl : len < 7) (hn : n < 32 * 2 ^ len)
    (hp : post (dk_b (dk_run B T len n))) :
    ∀ d i, i + d = len → dk_nb B T len n i = true → wX_isBadRun_9 post (nI n) (nI len) (nI (6 + g)) (nI bd) gl gr nl bg sa ba (d + 1) (nI (dk_st T len n i)) (nI i) := by
  have hn2 : n < 2048 := Nat.lt_of_lt_of_le hn (dk_e32 hl)
  intro d
  induction d with
  | zero =>
    intro i hi hb
    have e : i = len := by omega
    subst e
    have hs := dk_stlt hX.1 hn i
    have hx := dk_inlt i n i
    have e : dk_run B T i n = B (dk_st T i n i) (dk_in i n i) := by
      unfold dk_run
      rw [hb, Bool.true_and]
    refine br_t (nI_le (Nat.le_refl _) (by omega)) (dk_inX hl hn2 (by omega) ?_)
    rw [dk_pl, nI_clamp (by omega), (hX.2 _ _ hs hx).2, ← e]
    exact ⟨vp_in_nI (by omega) (by decide), dk_narw _, hp⟩
  | succ d ih =>
    intro i hi hb
    have hs := dk_stlt hX.1 hn i
    have hx := dk_inlt len n i
    have hv : vp_in (nI (2 * dk_st T len n i + dk_in len n i)) 32 := vp_in_nI (by omega) (by decide)
    refine br_f (nI_ge (by omega) (by omega)) (dk_inX hl hn2 (by omega) (nm_r (dk_pl _ _) ⟨hv, ?_⟩))
    rw [nI_clamp (by omega), (hX.2 _ _ hs hx).1, (hX.2 _ _ hs hx).2]
    cases hB : B (dk_st T len n i) (dk_in len n i)
    · refine br_t rfl ⟨hv, nm_e (nm_r (nI_1 _) (ih (i + 1) (by omega) ?_))⟩
      show (dk_nb B T len n i && !B (dk_st T len n i) (dk_in len n i)) = true
      rw [hb, hB]
      rfl
    · refine br_f (by decide) ?_
      have h1 : dk_nb B T len n (i + 1) = false := by
        show (dk_nb B T len n i && !B (dk_st T len n i) (dk_in len n i)) = false
        rw [hb, hB]
        rfl
      have h2 : dk_nb B T len n len = false := by
        have h3 := dk_nbF h1 d
        rw [show i + 1 + d = len by omega] at h3
        exact h3
      have h4 : dk_run B T len n = false := by
        unfold dk_run
        rw [h2]
        rfl
      rw [h4] at hp
      exact hp
theorem dk_brX {post : Int32 → Prop} {g bd len n : Nat} {B : Nat → Nat → Bool} {T : Nat → Nat → Nat} {gl gr nl bg sa ba : Nat → Int32} (hX : dk_HX sa ba B T) (hl : len < 7) (hn : n < 32 * 2 ^ len)
    (hp : post (dk_b (dk_run B T len n))) : wpX_isBadRun post (nI (6 + g), nI bd, gl, gr, nl, bg, sa, ba) (nI n) (nI len) :=
  nm_r (dk_sh hl (Nat.lt_of_lt_of_le hn (dk_e32 hl))) (Exists.intro (len + 1) (dk_brX9 hX hl hn hp len 0 (by omega) rfl))
def dk_df (f : Nat → Nat) : Nat → Int32 → Nat → Bool
  | 0, _, _ => true
  | d + 1, m, i => if ((m >>> (nI (f i) &&& 31)) &&& 1) = 1 then false else dk_df f d (m ||| ((1 : Int32) <<< (nI (f i) &&& 31))) (i + 1)
theorem dk_hdX5 {post : Int32 → Prop} {g bd len n : Nat} {B : Nat → Nat → Bool} {T : Nat → Nat → Nat} {gl gr nl bg sa ba : Nat → Int32} (hX : dk_HX sa ba B T) (hl : len < 7) (hn : n < 32 * 2 ^ len) :
    ∀ d m i, i + d = len + 1 → post (dk_b (dk_df (dk_st T len n) d m i)) → wX_hasDifferentStates_5 post (nI n) (nI len) (nI (6 + g)) (nI bd) gl gr nl bg sa ba (d + 1) m (nI i) := by
  intro d
  induction d with
  | zero =>
    intro m i hi hp
    exact br_t (nI_lt (by omega) (by omega)) hp
  | succ d ih =>
    intro m i hi hp
    refine br_f (nI_nlt (by omega) (by omega)) (dk_soX hX hl hn (by omega) ?_)
    unfold dk_df at hp
    by_cases h : ((m >>> (nI (dk_st T len n i) &&& 31)) &&& 1) = 1
    · rw [if_pos h] at hp
      exact br_t h hp
    · rw [if_neg h] at hp
      exact br_f h (nm_e (nm_r (nI_1 _) (ih _ (i + 1) (by omega) hp)))
def dk_dif (T : Nat → Nat → Nat) (len n : Nat) : Bool := dk_df (dk_st T len n) (len + 1) 0 0
theorem dk_hdX {post : Int32 → Prop} {g bd len n : Nat} {B : Nat → Nat → Bool} {T : Nat → Nat → Nat} {gl gr nl bg sa ba : Nat → Int32} (hX : dk_HX sa ba B T) (hl : len < 7) (hn : n < 32 * 2 ^ len)
    (hp : post (dk_b (dk_dif T len n))) : wpX_hasDifferentStates post (nI (6 + g), nI bd, gl, gr, nl, bg, sa, ba) (nI n) (nI len) :=
  Exists.intro (len + 2) (dk_hdX5 hX hl hn (len + 1) 0 0 (by omega) hp)
/-! the reference -/
def dk_HY (g bd : Nat) (fs ss nl bg : Nat → Int32) (B : Nat → Nat → Bool) (T : Nat → Nat → Nat) : Prop :=
  (∀ s x, T s x < 16) ∧
  (∀ (post : Int32 → SY → Prop) (sg st ip : Nat → Int32) (s x : Nat), s < 16 → x < 2 → (∀ sg : Nat → Int32, post (dk_b (B s x)) (nI g, nI bd, fs, ss, nl, bg, sg, st, ip)) → wpY_isBad post (nI g, nI bd, fs, ss, nl, bg, sg, st, ip) (nI s) (nI x)) ∧
  (∀ (post : Int32 → SY → Prop) (sg st ip : Nat → Int32) (s x : Nat), s < 16 → x < 2 → (∀ sg : Nat → Int32, post (nI (T s x)) (nI g, nI bd, fs, ss, nl, bg, sg, st, ip)) → wpY_step post (nI g, nI bd, fs, ss, nl, bg, sg, st, ip) (nI s) (nI x))
theorem dk_run68 {post : Int32 → SY → Prop} {J9 : Int32 → Int32 → Int32 → Int32 → Int32 → (Nat → Int32) → (Nat → Int32) → (Nat → Int32) → (Nat → Int32) → (Nat → Int32) → (Nat → Int32) → (Nat → Int32) → Prop} {x1 x3 x4 : Int32} {g bd s x i : Nat} {B : Nat → Nat → Bool} {T : Nat → Nat → Nat} {fs ss nl bg sg st ip : Nat → Int32} (hY : dk_HY g bd fs ss nl bg B T) (hs : s < 16) (hx : x < 2)
    (h : ∀ sg : Nat → Int32, J9 x4 (nI (T s x)) (nI (i + 1)) (nI g) (nI bd) fs ss nl bg sg st ip) : wY_run_68 post J9 x1 x3 x4 (nI s) (nI i) (nI x) (nI g) (nI bd) fs ss nl bg sg st ip := by
  unfold wY_run_68
  refine hY.2.2 _ _ _ _ _ _ hs hx ?_
  intro sg'
  exact nm_r (nI_1 _) (h sg')
theorem dk_run62 {post : Int32 → SY → Prop} {J9 : Int32 → Int32 → Int32 → Int32 → Int32 → (Nat → Int32) → (Nat → Int32) → (Nat → Int32) → (Nat → Int32) → (Nat → Int32) → (Nat → Int32) → (Nat → Int32) → Prop} {x1 x3 : Int32} {g bd s x i : Nat} {B : Nat → Nat → Bool} {T : Nat → Nat → Nat} {fs ss nl bg sg st ip : Nat → Int32} (hY : dk_HY g bd fs ss nl bg B T) (hs : s < 16) (hx : x < 2) (c p q : Bool)
    (h : ∀ sg : Nat → Int32, J9 (dk_b (c && (p == q))) (nI (T s x)) (nI (i + 1)) (nI g) (nI bd) fs ss nl bg sg st ip) : wY_run_62 post J9 x1 x3 (dk_b c) (nI s) (nI i) (nI x) (dk_b q) (dk_b p) (nI g) (nI bd) fs ss nl bg sg st ip := by
  have ht : (c && true) = c := Bool.and_true c
  have hf : (c && false) = false := Bool.and_false c
  cases p <;> cases q
  · rw [show (false == false) = true from rfl, ht] at h
    exact br_t rfl (dk_run68 hY hs hx h)
  · rw [show (false == true) = false from rfl, hf] at h
    exact br_f (by decide) (dk_run68 hY hs hx h)
  · rw [show (true == false) = false from rfl, hf] at h
    exact br_f (by decide) (dk_run68 hY hs hx h)
  · rw [show (true == true) = true from rfl, ht] at h
    exact br_t rfl (dk_run68 hY hs hx h)
theorem dk_run9 {post : Int32 → SY → Prop} {g bd len w s i f : Nat} {B : Nat → Nat → Bool} {T : Nat → Nat → Nat} {fs ss nl bg sg st ip : Nat → Int32} (hY : dk_HY g bd fs ss nl bg B T) (hl : len < 7) (hw : w < 2048) (hi : i ≤ len) (hs : s < 16) (c : Bool)
    (h : ∀ sg : Nat → Int32, wY_run_9 post (nI len) (nI w) f (dk_b (c && (B s (dk_in len w i) == decide (i = len)))) (nI (T s (dk_in len w i))) (nI (i + 1)) (nI g) (nI bd) fs ss nl bg sg (upd st i (nI s)) (upd ip i (nI (dk_in len w i)))) :
    wY_run_9 post (nI len) (nI w) (f + 1) (dk_b c) (nI s) (nI i) (nI g) (nI bd) fs ss nl bg sg st ip := by
  have hv : vp_in (nI i) 7 := vp_in_nI (by omega) (by decide)
  have hcl : (nI i).toNatClampNeg = i := nI_clamp (by omega)
  have hx := dk_inlt len w i
  refine br_f (nI_nlt (by omega) (by omega)) (nm_r (dk_inI hl hw hi) ⟨hv, ?_⟩)
  rw [hcl]
  refine nm_e ⟨hv, nm_e ?_⟩
  refine hY.2.1 _ _ _ _ _ _ hs hx ?_
  intro sg'
  refine pk_eq i len (fun e => ?_) (fun e => ?_)
  · rw [decide_eq_true e] at h
    exact dk_run62 hY hs hx c _ true h
  · rw [decide_eq_false e] at h
    exact dk_run62 hY hs hx c _ false h
theorem dk_runY9 {post : Int32 → SY → Prop} {g bd len n : Nat} {B : Nat → Nat → Bool} {T : Nat → Nat → Nat} {fs ss nl bg : Nat → Int32} (hY : dk_HY g bd fs ss nl bg B T) (hl : len < 7) (hn : n < 32 * 2 ^ len)
    (hp : ∀ sg st ip : Nat → Int32, (∀ j, j ≤ len → st j = nI (dk_st T len n j) ∧ ip j = nI (dk_in len n j)) → post (dk_b (dk_run B T len n)) (nI g, nI bd, fs, ss, nl, bg, sg, st, ip)) :
    ∀ d i (sg st ip : Nat → Int32), i + d = len → (∀ j, j < i → st j = nI (dk_st T len n j) ∧ ip j = nI (dk_in len n j)) → wY_run_9 post (nI len) (nI (n % 2 ^ (len + 1))) (d + 2) (dk_b (dk_nb B T len n i)) (nI (dk_st T len n i)) (nI i) (nI g) (nI bd) fs ss nl bg sg st ip := by
  have hn2 : n < 2048 := Nat.lt_of_lt_of_le hn (dk_e32 hl)
  have hw : n % 2 ^ (len + 1) < 2048 := Nat.lt_of_le_of_lt (Nat.mod_le _ _) hn2
  have key : ∀ (i : Nat) (st ip : Nat → Int32), (∀ j, j < i → st j = nI (dk_st T len n j) ∧ ip j = nI (dk_in len n j)) → ∀ j, j < i + 1 → upd st i (nI (dk_st T len n i)) j = nI (dk_st T len n j) ∧ upd ip i (nI (dk_in len n i)) j = nI (dk_in len n j) := by
    intro i st ip h j hj
    by_cases e : j = i
    · rw [e, pk_us, pk_us]
      exact ⟨rfl, rfl⟩
    · rw [pk_un e, pk_un e]
      exact h j (by omega)
  intro d
  induction d with
  | zero =>
    intro i sg st ip hi h
    have e : i = len := by omega
    subst e
    refine dk_run9 hY hl hw (Nat.le_refl _) (dk_stlt hY.1 hn i) _ ?_
    intro sg'
    rw [dk_inMod (Nat.le_refl _), decide_eq_true rfl]
    refine br_t (nI_lt (by omega) (by omega)) ⟨dk_narw _, ?_⟩
    have e2 : (dk_nb B T i n i && (B (dk_st T i n i) (dk_in i n i) == true)) = dk_run B T i n := by
      unfold dk_run
      cases B (dk_st T i n i) (dk_in i n i) <;> rfl
    rw [e2]
    exact hp _ _ _ (fun j hj => key i st ip h j (by omega))
  | succ d ih =>
    intro i sg st ip hi h
    refine dk_run9 hY hl hw (by omega) (dk_stlt hY.1 hn i) _ ?_
    intro sg'
    rw [dk_inMod (by omega), decide_eq_false (by omega)]
    have e2 : (dk_nb B T len n i && (B (dk_st T len n i) (dk_in len n i) == false)) = dk_nb B T len n (i + 1) := by
      show _ = (dk_nb B T len n i && !B (dk_st T len n i) (dk_in len n i))
      cases B (dk_st T len n i) (dk_in len n i) <;> rfl
    rw [e2]
    exact ih (i + 1) _ _ _ (by omega) (key i st ip h)
theorem dk_runY {post : Int32 → SY → Prop} {g bd len n : Nat} {B : Nat → Nat → Bool} {T : Nat → Nat → Nat} {fs ss nl bg sg st ip : Nat → Int32} (hY : dk_HY g bd fs ss nl bg B T) (hl : len < 7) (hn : n < 32 * 2 ^ len)
    (hp : ∀ sg st ip : Nat → Int32, (∀ j, j ≤ len → st j = nI (dk_st T len n j) ∧ ip j = nI (dk_in len n j)) → post (dk_b (dk_run B T len n)) (nI g, nI bd, fs, ss, nl, bg, sg, st, ip)) :
    wpY_run post (nI g, nI bd, fs, ss, nl, bg, sg, st, ip) (nI len) (nI (n / 2 ^ (len + 1))) (nI (n % 2 ^ (len + 1))) :=
  Exists.intro (len + 2) (dk_runY9 hY hl hn hp len 0 sg st ip (by omega) (fun j hj => absurd hj (by omega)))
theorem dk_difY4 {post : Int32 → Prop} {g bd len : Nat} {f : Nat → Nat} {fs ss nl bg sg st ip : Nat → Int32} (hl : len < 7) (hst : ∀ j, j ≤ len → st j = nI (f j)) :
    ∀ d m i, i + d = len + 1 → post (dk_b (dk_df f d m i)) → wY_different_4 post (nI len) (nI g) (nI bd) fs ss nl bg sg st ip (d + 1) m (nI i) := by
  intro d
  induction d with
  | zero =>
    intro m i hi hp
    exact br_t (nI_lt (by omega) (by omega)) hp
  | succ d ih =>
    intro m i hi hp
    have hv : vp_in (nI i) 7 := vp_in_nI (by omega) (by decide)
    have hcl : (nI i).toNatClampNeg = i := nI_clamp (by omega)
    refine br_f (nI_nlt (by omega) (by omega)) ⟨hv, ?_⟩
    rw [hcl, hst i (by omega)]
    unfold dk_df at hp
    by_cases h : ((m >>> (nI (f i) &&& 31)) &&& 1) = 1
    · rw [if_pos h] at hp
      exact br_t h hp
    · rw [if_neg h] at hp
      exact br_f h ⟨hv, nm_e (nm_r (nI_1 _) (ih _ (i + 1) (by omega) hp))⟩
theorem dk_difY {post : Int32 → Prop} {g bd len n : Nat} {T : Nat → Nat → Nat} {fs ss nl bg sg st ip : Nat → Int32} (hl : len < 7) (hst : ∀ j, j ≤ len → st j = nI (dk_st T len n j))
    (hp : post (dk_b (dk_dif T len n))) : wpY_different post (nI g, nI bd, fs, ss, nl, bg, sg, st, ip) (nI len) :=
  Exists.intro (len + 2) (dk_difY4 hl hst (len + 1) 0 0 (by omega) hp)
