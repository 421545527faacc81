/-! beginnings -/
def dk_bg (b : Nat → Int32) (z : Int32) : Nat → Bool
  | 0 => true
  | d + 1 => (decide (b (4 - d) = 2) || decide (b (4 - d) = (z >>> ((nI (4 - d) - 1) &&& 31)) &&& 1)) && dk_bg b z d
theorem dk_begX2 {post : Int32 → Prop} {g bd : Nat} {z : Int32} {gl gr nl bg sa ba : Nat → Int32} :
    ∀ d l, l + d = 5 → 1 ≤ l → post (dk_b (dk_bg bg z d)) → wX_isBeginningState_2 post z (nI (6 + g)) (nI bd) gl gr nl bg sa ba (d + 1) (nI l) := by
  intro d
  induction d with
  | zero =>
    intro l hl h1 hp
    have e : l = 5 := by omega
    subst e
    exact br_t (by decide) hp
  | succ d ih =>
    intro l hl h1 hp
    have hv : vp_in (nI l) 6 := vp_in_nI (by omega) (by decide)
    have hcl : (nI l).toNatClampNeg = l := nI_clamp (by omega)
    unfold dk_bg at hp
    rw [show 4 - d = l by omega] at hp
    refine br_f (nI_nlt (a := 4) (by omega) (by omega)) (nm_e ⟨hv, ?_⟩)
    rw [hcl]
    by_cases h2 : bg l = 2
    · rw [decide_eq_true h2, Bool.true_or, Bool.true_and] at hp
      exact br_t h2 (nm_r (nI_1 _) (ih (l + 1) (by omega) (by omega) hp))
    · refine br_f h2 ⟨hv, ?_⟩
      rw [decide_eq_false h2, Bool.false_or] at hp
      by_cases h3 : bg l = (z >>> ((nI l - 1) &&& 31)) &&& 1
      · rw [decide_eq_true h3, Bool.true_and] at hp
        exact br_t h3 (nm_r (nI_1 _) (ih (l + 1) (by omega) (by omega) hp))
      · rw [decide_eq_false h3, Bool.false_and] at hp
        exact br_f h3 hp
theorem dk_begX {post : Int32 → Prop} {g bd : Nat} {z : Int32} {gl gr nl bg sa ba : Nat → Int32} (hp : post (dk_b (dk_bg bg z 4))) : wpX_isBeginningState post (nI (6 + g), nI bd, gl, gr, nl, bg, sa, ba) z :=
  Exists.intro 5 (dk_begX2 4 1 (by omega) (by omega) hp)
theorem dk_begY2 {post : Int32 → Prop} {g bd : Nat} {z : Int32} {fs ss nl bg sg st ip : Nat → Int32} :
    ∀ d l, l + d = 5 → 1 ≤ l → post (dk_b (dk_bg bg z d)) → wY_beginning_2 post z (nI g) (nI bd) fs ss nl bg sg st ip (d + 1) (nI l) := by
  intro d
  induction d with
  | zero =>
    intro l hl h1 hp
    have e : l = 5 := by omega
    subst e
    exact br_t (by decide) hp
  | succ d ih =>
    intro l hl h1 hp
    have hv : vp_in (nI l) 5 := vp_in_nI (by omega) (by decide)
    have hcl : (nI l).toNatClampNeg = l := nI_clamp (by omega)
    unfold dk_bg at hp
    rw [show 4 - d = l by omega] at hp
    refine br_f (nI_ge (b := 5) (by omega) (by decide)) ⟨hv, ?_⟩
    rw [hcl]
    by_cases h2 : bg l = 2
    · rw [decide_eq_true h2, Bool.true_or, Bool.true_and] at hp
      exact br_t h2 (nm_r (nI_1 _) (ih (l + 1) (by omega) (by omega) hp))
    · refine br_f h2 ⟨hv, ?_⟩
      rw [decide_eq_false h2, Bool.false_or] at hp
      by_cases h3 : bg l = (z >>> ((nI l - 1) &&& 31)) &&& 1
      · rw [decide_eq_true h3, Bool.true_and] at hp
        exact br_t h3 (nm_r (nI_1 _) (ih (l + 1) (by omega) (by omega) hp))
      · rw [decide_eq_false h3, Bool.false_and] at hp
        exact br_f h3 hp
theorem dk_begY {post : Int32 → Prop} {g bd : Nat} {z : Int32} {fs ss nl bg sg st ip : Nat → Int32} (hp : post (dk_b (dk_bg bg z 4))) : wpY_beginning post (nI g, nI bd, fs, ss, nl, bg, sg, st, ip) z :=
  Exists.intro 5 (dk_begY2 4 1 (by omega) (by omega) hp)
/-! the first number that does -/
def dk_f (P : Nat → Bool) : Nat → Nat → Option Nat
  | 0, _ => none
  | d + 1, i => if P i = true then some i else dk_f P d (i + 1)
theorem dk_ft {P : Nat → Bool} {d i : Nat} (h : P i = true) : dk_f P (d + 1) i = some i := if_pos h
theorem dk_ff {P : Nat → Bool} {d i : Nat} (h : P i = false) : dk_f P (d + 1) i = dk_f P d (i + 1) := if_neg (by rw [h]; decide)
theorem dk_fS {P : Nat → Bool} : ∀ d i m, dk_f P d i = some m → i ≤ m ∧ m < i + d ∧ P m = true := by
  intro d
  induction d with
  | zero => exact fun i m h => nomatch h
  | succ d ih =>
    intro i m h
    cases hP : P i
    · rw [dk_ff hP] at h
      have h2 := ih (i + 1) m h
      exact ⟨by omega, by omega, h2.2.2⟩
    · rw [dk_ft hP] at h
      cases h
      exact ⟨by omega, by omega, hP⟩
theorem dk_fN {P : Nat → Bool} : ∀ d i, (∀ j, i ≤ j → j < i + d → P j = false) → dk_f P d i = none := by
  intro d
  induction d with
  | zero => exact fun i h => rfl
  | succ d ih =>
    intro i h
    rw [dk_ff (h i (by omega) (by omega))]
    exact ih (i + 1) (fun j h1 h2 => h j (by omega) (by omega))
theorem dk_fI {P : Nat → Bool} : ∀ d i j, i ≤ j → j < i + d → P j = true → dk_f P d i ≠ none := by
  intro d
  induction d with
  | zero => exact fun i j h1 h2 => absurd h2 (by omega)
  | succ d ih =>
    intro i j h1 h2 h3
    cases hP : P i
    · rw [dk_ff hP]
      have h4 : i ≠ j := by
        intro e
        rw [e, h3] at hP
        exact nomatch hP
      exact ih (i + 1) j (by omega) (by omega) h3
    · rw [dk_ft hP]
      exact fun e => nomatch e
def dk_o : Option Nat → Int32
  | none => -1
  | some n => nI n
theorem dk_om {m : Nat} (h : m < 2 ^ 31) : ¬ nI m = -1 := by
  intro e
  have h2 := nI_pos h
  rw [e] at h2
  exact h2 (by decide)
def dk_P (b : Nat → Int32) (B : Nat → Nat → Bool) (T : Nat → Nat → Nat) (len n : Nat) : Bool := dk_bg b (nI (n / 2 ^ (len + 1))) 4 && dk_run B T len n
def dk_fb (b : Nat → Int32) (B : Nat → Nat → Bool) (T : Nat → Nat → Nat) (len : Nat) : Option Nat := dk_f (dk_P b B T len) (32 * 2 ^ len) 0
def dk_Q (b : Nat → Int32) (B : Nat → Nat → Bool) (T : Nat → Nat → Nat) (len : Nat) : Bool := (dk_fb b B T len).isSome
def dk_P2 (B : Nat → Nat → Bool) (T : Nat → Nat → Nat) (len n : Nat) : Bool := dk_run B T len n && dk_dif T len n
def dk_hb (B : Nat → Nat → Bool) (T : Nat → Nat → Nat) (len : Nat) : Bool := (dk_f (dk_P2 B T len) (32 * 2 ^ len) 0).isSome
theorem dk_e16 : ∀ len, len < 7 → (16 : Int32) <<< ((nI len + 1) &&& 31) = nI (32 * 2 ^ len) := by decide +kernel
theorem dk_e32l : ∀ len, len < 7 → (32 : Int32) <<< (nI len &&& 31) = nI (32 * 2 ^ len) := by decide +kernel
theorem dk_mk : ∀ len, len < 7 → (((2 : Int32) <<< (nI len &&& 31)) - 1).toBitVec.toNat = 2 ^ (len + 1) - 1 := by decide +kernel
theorem dk_fbX7 {post : Int32 → Prop} {g bd len : Nat} {B : Nat → Nat → Bool} {T : Nat → Nat → Nat} {gl gr nl bg sa ba : Nat → Int32} (hX : dk_HX sa ba B T) (hl : len < 7) :
    ∀ d i, i + d = 32 * 2 ^ len → post (dk_o (dk_f (dk_P bg B T len) d i)) → wX_firstBadRunFromBeginning_7 post (nI len) (nI (32 * 2 ^ len)) (nI (6 + g)) (nI bd) gl gr nl bg sa ba (d + 1) (nI i) := by
  have h32 := dk_e32 hl
  intro d
  induction d with
  | zero =>
    intro i hi hp
    exact br_t (nI_le (by omega) (by omega)) hp
  | succ d ih =>
    intro i hi hp
    refine br_f (nI_ge (by omega) (by omega)) (dk_soX hX hl (k := 0) (by omega) (Nat.zero_le _) (dk_begX ?_))
    cases hb : dk_bg bg (nI (dk_st T len i 0)) 4
    · have e : dk_P bg B T len i = false := by
        show (dk_bg bg (nI (dk_st T len i 0)) 4 && _) = false
        rw [hb, Bool.false_and]
      rw [dk_ff e] at hp
      exact br_t rfl (nm_r (nI_1 _) (ih (i + 1) (by omega) hp))
    · refine br_f (by decide) (dk_brX hX hl (by omega) ?_)
      have e : dk_P bg B T len i = dk_run B T len i := by
        show (dk_bg bg (nI (dk_st T len i 0)) 4 && _) = _
        rw [hb, Bool.true_and]
      cases hr : dk_run B T len i
      · rw [hr] at e
        rw [dk_ff e] at hp
        exact br_t rfl (nm_r (nI_1 _) (ih (i + 1) (by omega) hp))
      · rw [hr] at e
        rw [dk_ft e] at hp
        exact br_f (by decide) hp
theorem dk_fbX {post : Int32 → Prop} {g bd len : Nat} {B : Nat → Nat → Bool} {T : Nat → Nat → Nat} {gl gr nl bg sa ba : Nat → Int32} (hX : dk_HX sa ba B T) (hl : len < 7)
    (hp : post (dk_o (dk_fb bg B T len))) : wpX_firstBadRunFromBeginning post (nI (6 + g), nI bd, gl, gr, nl, bg, sa, ba) (nI len) := by
  unfold wpX_firstBadRunFromBeginning wpX_runsOfLength
  dsimp only
  rw [dk_e16 len hl]
  exact Exists.intro _ (dk_fbX7 hX hl _ 0 (by omega) hp)
theorem dk_leX2 {post : Int32 → Prop} {g bd lim : Nat} {B : Nat → Nat → Bool} {T : Nat → Nat → Nat} {gl gr nl bg sa ba : Nat → Int32} (hX : dk_HX sa ba B T) (hl : lim < 7) :
    ∀ d i, i + d = lim + 1 → post (dk_o (dk_f (dk_Q bg B T) d i)) → wX_leastBadLength_2 post (nI lim) (nI (6 + g)) (nI bd) gl gr nl bg sa ba (d + 1) (nI i) := by
  intro d
  induction d with
  | zero =>
    intro i hi hp
    exact br_t (nI_lt (by omega) (by omega)) hp
  | succ d ih =>
    intro i hi hp
    have h32 := dk_e32 (len := i) (by omega)
    refine br_f (nI_nlt (by omega) (by omega)) (dk_fbX hX (by omega) ?_)
    cases hf : dk_fb bg B T i with
    | none =>
      have e : dk_Q bg B T i = false := by
        unfold dk_Q
        rw [hf]
        rfl
      rw [dk_ff e] at hp
      exact br_t rfl (nm_r (nI_1 _) (ih (i + 1) (by omega) hp))
    | some m =>
      have e : dk_Q bg B T i = true := by
        unfold dk_Q
        rw [hf]
        rfl
      rw [dk_ft e] at hp
      have hm := (dk_fS _ _ _ hf).2.1
      exact br_f (dk_om (by omega)) hp
def dk_le (b : Nat → Int32) (B : Nat → Nat → Bool) (T : Nat → Nat → Nat) (lim : Nat) : Option Nat := dk_f (dk_Q b B T) (lim + 1) 0
theorem dk_leX {post : Int32 → Prop} {g bd lim : Nat} {B : Nat → Nat → Bool} {T : Nat → Nat → Nat} {gl gr nl bg sa ba : Nat → Int32} (hX : dk_HX sa ba B T) (hl : lim < 7)
    (hp : post (dk_o (dk_le bg B T lim))) : wpX_leastBadLength post (nI (6 + g), nI bd, gl, gr, nl, bg, sa, ba) (nI lim) :=
  Exists.intro _ (dk_leX2 hX hl (lim + 1) 0 (by omega) hp)
theorem dk_hbX7 {post : Int32 → Prop} {g bd len : Nat} {B : Nat → Nat → Bool} {T : Nat → Nat → Nat} {gl gr nl bg sa ba : Nat → Int32} (hX : dk_HX sa ba B T) (hl : len < 7) :
    ∀ d i, i + d = 32 * 2 ^ len → post (dk_b (dk_f (dk_P2 B T len) d i).isSome) → wX_hasBadRunOfDifferentStates_7 post (nI len) (nI (32 * 2 ^ len)) (nI (6 + g)) (nI bd) gl gr nl bg sa ba (d + 1) (nI i) := by
  have h32 := dk_e32 hl
  intro d
  induction d with
  | zero =>
    intro i hi hp
    exact br_t (nI_le (by omega) (by omega)) hp
  | succ d ih =>
    intro i hi hp
    refine br_f (nI_ge (by omega) (by omega)) (dk_brX hX hl (by omega) ?_)
    cases hb : dk_run B T len i
    · have e : dk_P2 B T len i = false := by
        unfold dk_P2
        rw [hb, Bool.false_and]
      rw [dk_ff e] at hp
      exact br_t rfl (nm_r (nI_1 _) (ih (i + 1) (by omega) hp))
    · refine br_f (by decide) (dk_hdX hX hl (by omega) ?_)
      have e : dk_P2 B T len i = dk_dif T len i := by
        unfold dk_P2
        rw [hb, Bool.true_and]
      cases hr : dk_dif T len i
      · rw [hr] at e
        rw [dk_ff e] at hp
        exact br_t rfl (nm_r (nI_1 _) (ih (i + 1) (by omega) hp))
      · rw [hr] at e
        rw [dk_ft e] at hp
        exact br_f (by decide) hp
theorem dk_hbX {post : Int32 → Prop} {g bd len : Nat} {B : Nat → Nat → Bool} {T : Nat → Nat → Nat} {gl gr nl bg sa ba : Nat → Int32} (hX : dk_HX sa ba B T) (hl : len < 7)
    (hp : post (dk_b (dk_hb B T len))) : wpX_hasBadRunOfDifferentStates post (nI (6 + g), nI bd, gl, gr, nl, bg, sa, ba) (nI len) := by
  unfold wpX_hasBadRunOfDifferentStates wpX_runsOfLength
  dsimp only
  rw [dk_e16 len hl]
  exact Exists.intro _ (dk_hbX7 hX hl _ 0 (by omega) hp)
/-! the reference's searches -/
def dk_W (T : Nat → Nat → Nat) (len m : Nat) (st ip : Nat → Int32) : Prop := ∀ j, j ≤ len → st j = nI (dk_st T len m j) ∧ ip j = nI (dk_in len m j)
theorem dk_fbY2 {post : Int32 → SY → Prop} {g bd len : Nat} {B : Nat → Nat → Bool} {T : Nat → Nat → Nat} {fs ss nl bg : Nat → Int32} (hY : dk_HY g bd fs ss nl bg B T) (hl : len < 7) :
    ∀ d i (sg st ip : Nat → Int32), i + d = 32 * 2 ^ len → (∀ sg st ip : Nat → Int32, (∀ m, dk_f (dk_P bg B T len) d i = some m → dk_W T len m st ip) → post (dk_b (dk_f (dk_P bg B T len) d i).isSome) (nI g, nI bd, fs, ss, nl, bg, sg, st, ip)) → wY_found_2 post (nI len) (d + 1) (nI i) (nI g) (nI bd) fs ss nl bg sg st ip := by
  have h32 := dk_e32 hl
  have e32 := dk_e32l len hl
  intro d
  induction d with
  | zero =>
    intro i sg st ip hi hp
    refine br_t ?_ (hp sg st ip (fun m h => nomatch h))
    rw [e32]
    exact nI_le (by omega) (by omega)
  | succ d ih =>
    intro i sg st ip hi hp
    refine br_f ?_ (nm_r (dk_sh hl (by omega)) (dk_begY ?_))
    · rw [e32]
      exact nI_ge (by omega) (by omega)
    cases hb : dk_bg bg (nI (i / 2 ^ (len + 1))) 4
    · have e : dk_P bg B T len i = false := by
        unfold dk_P
        rw [hb, Bool.false_and]
      rw [dk_ff e] at hp
      exact br_t rfl (nm_r (nI_1 _) (ih (i + 1) sg st ip (by omega) hp))
    · refine br_f (by decide) ?_
      rw [pk_andN (by omega) (len + 1) (dk_mk len hl)]
      refine dk_runY hY hl (by omega) ?_
      intro sg' st' ip' hst
      have e : dk_P bg B T len i = dk_run B T len i := by
        unfold dk_P
        rw [hb, Bool.true_and]
      cases hr : dk_run B T len i
      · rw [hr] at e
        rw [dk_ff e] at hp
        exact br_t rfl (nm_r (nI_1 _) (ih (i + 1) sg' st' ip' (by omega) hp))
      · rw [hr] at e
        rw [dk_ft e] at hp
        refine br_f (by decide) (hp sg' st' ip' ?_)
        intro m hm
        cases hm
        exact hst
theorem dk_fbY {post : Int32 → SY → Prop} {g bd len : Nat} {B : Nat → Nat → Bool} {T : Nat → Nat → Nat} {fs ss nl bg sg st ip : Nat → Int32} (hY : dk_HY g bd fs ss nl bg B T) (hl : len < 7)
    (hp : ∀ sg st ip : Nat → Int32, (∀ m, dk_fb bg B T len = some m → dk_W T len m st ip) → post (dk_b (dk_Q bg B T len)) (nI g, nI bd, fs, ss, nl, bg, sg, st, ip)) : wpY_found post (nI g, nI bd, fs, ss, nl, bg, sg, st, ip) (nI len) :=
  Exists.intro _ (dk_fbY2 hY hl (32 * 2 ^ len) 0 sg st ip (by omega) hp)
theorem dk_leY2 {post : Int32 → SY → Prop} {g bd lim : Nat} {B : Nat → Nat → Bool} {T : Nat → Nat → Nat} {fs ss nl bg : Nat → Int32} (hY : dk_HY g bd fs ss nl bg B T) (hl : lim < 7) :
    ∀ d i (sg st ip : Nat → Int32), i + d = lim + 1 → (∀ sg st ip : Nat → Int32, (∀ len, dk_f (dk_Q bg B T) d i = some len → ∀ m, dk_fb bg B T len = some m → dk_W T len m st ip) → post (dk_o (dk_f (dk_Q bg B T) d i)) (nI g, nI bd, fs, ss, nl, bg, sg, st, ip)) → wY_least_2 post (nI lim) (d + 1) (nI i) (nI g) (nI bd) fs ss nl bg sg st ip := by
  intro d
  induction d with
  | zero =>
    intro i sg st ip hi hp
    exact br_t (nI_lt (by omega) (by omega)) (hp sg st ip (fun m h => nomatch h))
  | succ d ih =>
    intro i sg st ip hi hp
    refine br_f (nI_nlt (by omega) (by omega)) (dk_fbY hY (by omega) ?_)
    intro sg' st' ip' hw
    cases hq : dk_Q bg B T i
    · rw [dk_ff hq] at hp
      exact br_t rfl (nm_r (nI_1 _) (ih (i + 1) sg' st' ip' (by omega) hp))
    · rw [dk_ft hq] at hp
      refine br_f (by decide) (hp sg' st' ip' ?_)
      intro len hlen
      cases hlen
      exact hw
theorem dk_leY {post : Int32 → SY → Prop} {g bd lim : Nat} {B : Nat → Nat → Bool} {T : Nat → Nat → Nat} {fs ss nl bg sg st ip : Nat → Int32} (hY : dk_HY g bd fs ss nl bg B T) (hl : lim < 7)
    (hp : ∀ sg st ip : Nat → Int32, (∀ len, dk_le bg B T lim = some len → ∀ m, dk_fb bg B T len = some m → dk_W T len m st ip) → post (dk_o (dk_le bg B T lim)) (nI g, nI bd, fs, ss, nl, bg, sg, st, ip)) : wpY_least post (nI g, nI bd, fs, ss, nl, bg, sg, st, ip) (nI lim) :=
  Exists.intro _ (dk_leY2 hY hl (lim + 1) 0 sg st ip (by omega) hp)
theorem dk_hoY14 {post : Int32 → SY → Prop} {g bd len : Nat} {B : Nat → Nat → Bool} {T : Nat → Nat → Nat} {fs ss nl bg : Nat → Int32} (hY : dk_HY g bd fs ss nl bg B T) (hl : len < 7) :
    ∀ d i (sg st ip : Nat → Int32), i + d = 32 * 2 ^ len → (∀ sg st ip : Nat → Int32, post (dk_b (!(dk_f (dk_P2 B T len) d i).isSome)) (nI g, nI bd, fs, ss, nl, bg, sg, st, ip)) → wY_holds_14 post (nI len) (d + 1) (nI i) (nI g) (nI bd) fs ss nl bg sg st ip := by
  have h32 := dk_e32 hl
  have e32 := dk_e32l len hl
  intro d
  induction d with
  | zero =>
    intro i sg st ip hi hp
    refine br_t ?_ (hp sg st ip)
    rw [e32]
    exact nI_le (by omega) (by omega)
  | succ d ih =>
    intro i sg st ip hi hp
    refine br_f ?_ (nm_r (dk_sh hl (by omega)) ?_)
    · rw [e32]
      exact nI_ge (by omega) (by omega)
    rw [pk_andN (by omega) (len + 1) (dk_mk len hl)]
    refine dk_runY hY hl (by omega) ?_
    intro sg' st' ip' hst
    cases hb : dk_run B T len i
    · have e : dk_P2 B T len i = false := by
        unfold dk_P2
        rw [hb, Bool.false_and]
      rw [dk_ff e] at hp
      exact br_t rfl (nm_r (nI_1 _) (ih (i + 1) sg' st' ip' (by omega) hp))
    · refine br_f (by decide) (dk_difY hl (fun j hj => (hst j hj).1) ?_)
      have e : dk_P2 B T len i = dk_dif T len i := by
        unfold dk_P2
        rw [hb, Bool.true_and]
      cases hr : dk_dif T len i
      · rw [hr] at e
        rw [dk_ff e] at hp
        exact br_t rfl (nm_r (nI_1 _) (ih (i + 1) sg' st' ip' (by omega) hp))
      · rw [hr] at e
        rw [dk_ft e] at hp
        exact br_f (by decide) (hp sg' st' ip')
theorem dk_hoY {post : Int32 → SY → Prop} {g bd len : Nat} {B : Nat → Nat → Bool} {T : Nat → Nat → Nat} {fs ss nl bg sg st ip : Nat → Int32} (hY : dk_HY g bd fs ss nl bg B T) (hl : len < 7)
    (hp : ∀ sg st ip : Nat → Int32, post (dk_b (!dk_hb B T len)) (nI g, nI bd, fs, ss, nl, bg, sg, st, ip)) : wpY_holds post (nI g, nI bd, fs, ss, nl, bg, sg, st, ip) (nI len) :=
  br_f (nI_pos (by omega)) (br_t (nI_le (b := 6) (by omega) (by decide)) (Exists.intro _ (dk_hoY14 hY hl (32 * 2 ^ len) 0 sg st ip (by omega) hp)))
/-! proof -/
def dk_px (H F : Nat → Bool) : Nat → Nat → Option Nat
  | 0, _ => none
  | d + 1, k => if H k = false then some k else if F k = true then none else dk_px H F d (k + 1)
def dk_py (H F : Nat → Bool) : Nat → Nat → Option Nat
  | 0, _ => none
  | d + 1, k => if H k = false ∧ dk_f F k 0 = none then some k else dk_py H F d (k + 1)
theorem dk_pyN {H F : Nat → Bool} : ∀ d k, (∃ j, j < k ∧ F j = true) → dk_py H F d k = none := by
  intro d
  induction d with
  | zero => exact fun k h => rfl
  | succ d ih =>
    intro k h
    obtain ⟨j, h1, h2⟩ := h
    unfold dk_py
    rw [if_neg (fun z => dk_fI k 0 j (by omega) (by omega) h2 z.2)]
    exact ih (k + 1) ⟨j, by omega, h2⟩
theorem dk_pxy {H F : Nat → Bool} : ∀ d k, (∀ j, j < k → F j = false) → dk_px H F d k = dk_py H F d k := by
  intro d
  induction d with
  | zero => exact fun k h => rfl
  | succ d ih =>
    intro k h
    have hn : dk_f F k 0 = none := dk_fN k 0 (fun j h1 h2 => h j (by omega))
    unfold dk_px dk_py
    by_cases hH : H k = false
    · rw [if_pos hH, if_pos ⟨hH, hn⟩]
    · have hne : ¬ (H k = false ∧ dk_f F k 0 = none) := fun z => hH z.1
      rw [if_neg hH, if_neg hne]
      by_cases hF : F k = true
      · rw [if_pos hF]
        exact (dk_pyN d (k + 1) ⟨k, by omega, hF⟩).symm
      · rw [if_neg hF]
        refine ih (k + 1) ?_
        intro j hj
        by_cases e : j = k
        · rw [e]
          exact Bool.eq_false_iff.mpr hF
        · exact h j (by omega)
theorem dk_prX6 {post : Int32 → SX → Prop} {g bd : Nat} {B : Nat → Nat → Bool} {T : Nat → Nat → Nat} {gl gr nl bg sa ba : Nat → Int32} (hX : dk_HX sa ba B T) :
    ∀ d k, k + d = 7 → post (dk_o (dk_px (dk_hb B T) (dk_Q bg B T) d k)) (nI (6 + g), nI bd, gl, gr, nl, bg, sa, ba) → wX_proof_6 post (nI (6 + g)) (nI bd) gl gr nl bg sa ba (d + 1) (nI k) := by
  intro d
  induction d with
  | zero =>
    intro k hk hp
    have e : k = 7 := by omega
    subst e
    exact br_t (by decide) hp
  | succ d ih =>
    intro k hk hp
    have h32 := dk_e32 (len := k) (by omega)
    refine br_f (nI_nlt (a := 6) (by omega) (by omega)) (dk_hbX hX (by omega) ?_)
    unfold dk_px at hp
    cases hH : dk_hb B T k
    · rw [if_pos hH] at hp
      exact br_t rfl hp
    · rw [if_neg (by rw [hH]; decide)] at hp
      refine br_f (by decide) (dk_fbX hX (by omega) ?_)
      cases hf : dk_fb bg B T k with
      | none =>
        have e : dk_Q bg B T k = false := by
          unfold dk_Q
          rw [hf]
          rfl
        rw [if_neg (by rw [e]; decide)] at hp
        exact br_t rfl (nm_r (nI_1 _) (ih (k + 1) (by omega) hp))
      | some m =>
        have e : dk_Q bg B T k = true := by
          unfold dk_Q
          rw [hf]
          rfl
        rw [if_pos e] at hp
        have hm := (dk_fS _ _ _ hf).2.1
        exact br_f (dk_om (by omega)) hp
theorem dk_prY2 {post : Int32 → SY → Prop} {g bd : Nat} {B : Nat → Nat → Bool} {T : Nat → Nat → Nat} {fs ss nl bg : Nat → Int32} (hY : dk_HY g bd fs ss nl bg B T) :
    ∀ d k (sg st ip : Nat → Int32), k + d = 7 → (∀ sg st ip : Nat → Int32, post (dk_o (dk_py (dk_hb B T) (dk_Q bg B T) d k)) (nI g, nI bd, fs, ss, nl, bg, sg, st, ip)) → wY_proof_2 post (d + 1) (nI k) (nI g) (nI bd) fs ss nl bg sg st ip := by
  intro d
  induction d with
  | zero =>
    intro k sg st ip hk hp
    have e : k = 7 := by omega
    subst e
    exact br_t (by decide) (hp sg st ip)
  | succ d ih =>
    intro k sg st ip hk hp
    refine br_f (nI_nlt (a := 6) (by omega) (by omega)) (dk_hoY hY (by omega) ?_)
    intro sg' st' ip'
    unfold dk_py at hp
    cases hH : dk_hb B T k
    · refine br_t rfl ?_
      cases k with
      | zero =>
        rw [if_pos ⟨hH, rfl⟩] at hp
        exact br_t rfl (hp sg' st' ip')
      | succ k =>
        refine br_f (nI_ne0 (by omega) (by omega)) ?_
        rw [nI_pred]
        refine dk_leY hY (by omega) ?_
        intro sg2 st2 ip2 _
        cases hle : dk_le bg B T k with
        | none =>
          rw [if_pos ⟨hH, hle⟩] at hp
          exact br_f (by decide) (hp sg2 st2 ip2)
        | some m =>
          have hm := (dk_fS _ _ _ hle).2.1
          have hne : ¬ (dk_hb B T (k + 1) = false ∧ dk_f (dk_Q bg B T) (k + 1) 0 = none) := by
            intro z
            have z2 : dk_le bg B T k = none := z.2
            rw [hle] at z2
            exact nomatch z2
          rw [if_neg hne] at hp
          exact br_t (nI_pos' (by omega)) (nm_r (nI_1 _) (ih (k + 1 + 1) sg2 st2 ip2 (by omega) hp))
    · rw [if_neg (fun z => by rw [hH] at z; exact nomatch z.1)] at hp
      exact br_f (by decide) (nm_r (nI_1 _) (ih (k + 1) sg' st' ip' (by omega) hp))
