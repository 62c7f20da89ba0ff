/-! numbers of the machine -/
def sq_kp (va bo ki : Nat → Int32) (f e k b : Nat) : Bool :=
  if ki k = 1 then (decide (e = f) || decide (va b < va e)) else if ki k = 2 then (decide (e = f) || decide (va e < va b)) else if ki k = 3 then decide (va e = bo k) else if ki k = 4 then decide (va e = va f) else true
def sq_mt (ty va sT bo ki : Nat → Int32) (f e k b : Nat) : Bool := (decide (sT k = 4) || decide (ty e = sT k)) && sq_kp va bo ki f e k b
def sq_bi (b : Bool) : Int32 := if b = true then 1 else 0
def sq_R (re : Nat → Int32) (k : Nat) : Bool := decide (re k = 1)
theorem sq_31 {n : Nat} (h : n ≤ 524288) : n < 2 ^ 31 := by omega
theorem sq_bit1 {s e : Nat} (hs : s < 1024) (he : e < 10) : (nI s >>> (nI e &&& 31)) &&& 1 = sq_bi (s.testBit e) := by
  rw [pk_shrN (by omega) _ e (s_l e (by omega)), pk_andN (Nat.lt_of_le_of_lt (Nat.div_le_self _ _) (by omega)) 1 (by decide), Nat.testBit_eq_decide_div_mod_eq]
  unfold sq_bi
  by_cases c : s / 2 ^ e % 2 = 1
  · rw [if_pos (decide_eq_true c), show s / 2 ^ e % 2 ^ 1 = 1 from c]; rfl
  · rw [if_neg (fun z => c (of_decide_eq_true z)), show s / 2 ^ e % 2 ^ 1 = 0 from by omega]; rfl
theorem sq_one : sq_bi true = 1 := rfl
theorem sq_nul : sq_bi false = 0 := rfl
theorem sq_n01 : ¬ (0 : Int32) = 1 := by decide
theorem sq_n10 : ¬ (1 : Int32) = 0 := by decide
theorem sq_shl {n : Nat} (hn : n ≤ 10) : (1 : Int32) <<< (nI n &&& 31) = nI (2 ^ n) := by
  have h : 2 ^ n ≤ 2 ^ 10 := Nat.pow_le_pow_right (by decide) hn
  have e := pk_shlN (n := 1) (nI n &&& 31) n (s_l n (by omega)) (by omega)
  rw [Nat.one_mul] at e
  exact e
theorem sq_p1024 {n : Nat} (hn : n ≤ 10) : 2 ^ n ≤ 1024 := Nat.le_trans (Nat.pow_le_pow_right (show 0 < 2 by decide) hn) (by decide)
def sq_fd (s : Nat) : Nat → Nat
  | 0 => 9
  | d + 1 => if s.testBit (9 - d) = true then 9 - d else sq_fd s d
theorem sq_fd10 : ∀ s, s < 1024 → sq_fd s 10 = sq_fi s 10 := by decide +kernel
theorem sq_fi_up {s m : Nat} (h : sq_ls s m ≠ 0) (d : Nat) : sq_ls s (m + d) ≠ 0 ∧ sq_fi s (m + d) = sq_fi s m := by
  induction d with
  | zero => exact ⟨h, rfl⟩
  | succ d ih =>
    cases b : s.testBit (m + d)
    · exact ⟨by show sq_ls s (m + d + 1) ≠ 0; rw [sq_ls_n b]; exact ih.1, by show sq_fi s (m + d + 1) = _; rw [sq_fi_n b]; exact ih.2⟩
    · exact ⟨by show sq_ls s (m + d + 1) ≠ 0; rw [sq_ls_y b]; omega, by show sq_fi s (m + d + 1) = _; rw [sq_fi_y b, if_neg ih.1]; exact ih.2⟩
/-- the first event, as the walk meets it -/
theorem sq_I_at {s e : Nat} (he : e < 10) (b : s.testBit e = true) (h : sq_ls s e = 0) : sq_I s = e := by
  have h1 : sq_ls s (e + 1) ≠ 0 := by rw [sq_ls_y b]; omega
  have h2 := (sq_fi_up h1 (9 - e)).2
  rw [show e + 1 + (9 - e) = 10 from by omega, sq_fi_y b, if_pos h] at h2
  exact h2
theorem sq_I_of {s e : Nat} (he : e ≤ 10) (h : sq_ls s e ≠ 0) : sq_fi s e = sq_I s := by
  have h2 := (sq_fi_up h (10 - e)).2
  rw [show e + (10 - e) = 10 from by omega] at h2
  exact h2.symm
theorem sq_at10 {s n : Nat} (M : Nat → Nat → Nat → Nat → Bool) (R : Nat → Bool) (hn : n ≤ 10) (h : s < 2 ^ n) : sq_ls s n = sq_L s ∧ sq_v M R s n = sq_V M R s := by
  have h2 := sq_up M R h (10 - n)
  rw [show n + (10 - n) = 10 from by omega] at h2
  exact ⟨h2.1.symm, h2.2.2.2.symm⟩
/-- longest, tightest: 0 stands for none -/
def sq_en (a : Nat) : Int32 := if a = 0 then (-4) else nI a
def sq_et (a : Nat) : Int32 := if a = 0 then (-4) else nI (a - 1)
theorem sq_en_lt {a b : Nat} (hb : 0 < b) (hb2 : b < 2 ^ 31) (ha : a < 2 ^ 31) : sq_en a < nI b ↔ a < b := by
  unfold sq_en
  by_cases h : a = 0
  · rw [if_pos h, h]
    refine ⟨fun _ => hb, fun _ => ?_⟩
    rw [Int32.lt_iff_toInt_lt, nI_toInt hb2, show (-4 : Int32).toInt = -4 from by decide]
    omega
  · rw [if_neg h]
    exact nI_ltI ha hb2
theorem sq_et_no {a : Nat} (ha : a < 2 ^ 31) : sq_et a = -4 ↔ a = 0 := by
  unfold sq_et
  by_cases h : a = 0
  · rw [if_pos h]; exact ⟨fun _ => h, fun _ => rfl⟩
  · rw [if_neg h]
    refine ⟨fun z => ?_, fun z => absurd z h⟩
    have z2 := congrArg Int32.toInt z
    rw [nI_toInt (by omega), show (-4 : Int32).toInt = -4 from by decide] at z2
    omega
/-- the relation's common part -/
def sq_W (n st w : Nat) (tn : Nat → Nat) (ti ki re : Nat → Int32) : Prop := n ≤ 10 ∧ st ≤ 4 ∧ w ≤ 40 ∧ (∀ i, i < n → ti i = nI (tn i)) ∧ (∀ i j, i ≤ j → j < n → tn i ≤ tn j) ∧ (∀ i, i < n → tn i ≤ 5 * (i + 1)) ∧ (∀ i, ki i = 0 ∨ ki i = 1 ∨ ki i = 2 ∨ ki i = 3 ∨ ki i = 4) ∧ (∀ i, re i = 0 ∨ re i = 1)
theorem sq_near {n st w : Nat} {tn : Nat → Nat} {ti ki re : Nat → Int32} (H : sq_W n st w tn ti ki re) {f l : Nat} (hf : f ≤ l) (hl : l < n) : ti l - ti f = nI (tn l - tn f) ∧ tn l - tn f < 2 ^ 31 := by
  obtain ⟨h1, h2, h3, h4, h5, h6, h7, h8⟩ := H
  have a := h5 f l hf hl
  have b := h6 l hl
  rw [h4 l hl, h4 f (by omega), pk_sub a]
  exact ⟨rfl, by omega⟩
theorem sq_nearI {n st w : Nat} {tn : Nat → Nat} {ti ki re : Nat → Int32} (H : sq_W n st w tn ti ki re) {f l : Nat} (hf : f ≤ l) (hl : l < n) : ti l - ti f ≤ nI w ↔ tn l - tn f ≤ w := by
  have h := sq_near H hf hl
  have hw := H.2.2.1
  rw [h.1]
  exact nI_leI h.2 (by omega)
