/-! a set of events is a number below 2 ^ 10; its last event and one more, its first, its size, its ways -/
def sq_ls (s : Nat) : Nat → Nat
  | 0 => 0
  | n + 1 => if s.testBit n = true then n + 1 else sq_ls s n
def sq_fi (s : Nat) : Nat → Nat
  | 0 => 9
  | n + 1 => if s.testBit n = true then (if sq_ls s n = 0 then n else sq_fi s n) else sq_fi s n
def sq_sz (s : Nat) : Nat → Nat
  | 0 => 0
  | n + 1 => if s.testBit n = true then sq_sz s n + 1 else sq_sz s n
def sq_nx (M : Nat → Nat → Nat → Nat → Bool) (R : Nat → Bool) (l f e : Nat) (v : Nat → Nat) (k : Nat) : Nat :=
  if l = 0 then (if k = 0 ∧ M e e 0 e = true then 1 else 0)
  else if M f e k (l - 1) = true then (if R k = true then v k else 0) + (if k = 0 then 0 else v (k - 1)) else 0
def sq_v (M : Nat → Nat → Nat → Nat → Bool) (R : Nat → Bool) (s : Nat) : Nat → Nat → Nat
  | 0 => fun _ => 0
  | n + 1 => if s.testBit n = true then sq_nx M R (sq_ls s n) (sq_fi s n) n (sq_v M R s n) else sq_v M R s n
def sq_eq (s t n : Nat) : Prop := ∀ i, i < n → s.testBit i = t.testBit i
theorem sq_ls_eq {s t n : Nat} (h : sq_eq s t n) : sq_ls s n = sq_ls t n := by
  induction n with
  | zero => rfl
  | succ n ih =>
    show (if s.testBit n = true then n + 1 else sq_ls s n) = (if t.testBit n = true then n + 1 else sq_ls t n)
    rw [h n (by omega), ih (fun i hi => h i (by omega))]
theorem sq_fi_eq {s t n : Nat} (h : sq_eq s t n) : sq_fi s n = sq_fi t n := by
  induction n with
  | zero => rfl
  | succ n ih =>
    have h' : sq_eq s t n := fun i hi => h i (by omega)
    show (if s.testBit n = true then (if sq_ls s n = 0 then n else sq_fi s n) else sq_fi s n) = (if t.testBit n = true then (if sq_ls t n = 0 then n else sq_fi t n) else sq_fi t n)
    rw [h n (by omega), ih h', sq_ls_eq h']
theorem sq_sz_eq {s t n : Nat} (h : sq_eq s t n) : sq_sz s n = sq_sz t n := by
  induction n with
  | zero => rfl
  | succ n ih =>
    show (if s.testBit n = true then sq_sz s n + 1 else sq_sz s n) = (if t.testBit n = true then sq_sz t n + 1 else sq_sz t n)
    rw [h n (by omega), ih (fun i hi => h i (by omega))]
theorem sq_v_eq {M : Nat → Nat → Nat → Nat → Bool} {R : Nat → Bool} {s t n : Nat} (h : sq_eq s t n) : sq_v M R s n = sq_v M R t n := by
  induction n with
  | zero => rfl
  | succ n ih =>
    have h' : sq_eq s t n := fun i hi => h i (by omega)
    show (if s.testBit n = true then sq_nx M R (sq_ls s n) (sq_fi s n) n (sq_v M R s n) else sq_v M R s n) = (if t.testBit n = true then sq_nx M R (sq_ls t n) (sq_fi t n) n (sq_v M R t n) else sq_v M R t n)
    rw [h n (by omega), ih h', sq_ls_eq h', sq_fi_eq h']
/-- beyond its bits a set changes nothing -/
theorem sq_ls_n {s n : Nat} (b : s.testBit n = false) : sq_ls s (n + 1) = sq_ls s n := by
  show (if s.testBit n = true then n + 1 else sq_ls s n) = _
  rw [b]; rfl
theorem sq_fi_n {s n : Nat} (b : s.testBit n = false) : sq_fi s (n + 1) = sq_fi s n := by
  show (if s.testBit n = true then (if sq_ls s n = 0 then n else sq_fi s n) else sq_fi s n) = _
  rw [b]; rfl
theorem sq_sz_n {s n : Nat} (b : s.testBit n = false) : sq_sz s (n + 1) = sq_sz s n := by
  show (if s.testBit n = true then sq_sz s n + 1 else sq_sz s n) = _
  rw [b]; rfl
theorem sq_v_n {M : Nat → Nat → Nat → Nat → Bool} {R : Nat → Bool} {s n : Nat} (b : s.testBit n = false) : sq_v M R s (n + 1) = sq_v M R s n := by
  show (if s.testBit n = true then sq_nx M R (sq_ls s n) (sq_fi s n) n (sq_v M R s n) else sq_v M R s n) = _
  rw [b]; rfl
theorem sq_ls_y {s n : Nat} (b : s.testBit n = true) : sq_ls s (n + 1) = n + 1 := by
  show (if s.testBit n = true then n + 1 else sq_ls s n) = _
  rw [b]; rfl
theorem sq_fi_y {s n : Nat} (b : s.testBit n = true) : sq_fi s (n + 1) = if sq_ls s n = 0 then n else sq_fi s n := by
  show (if s.testBit n = true then (if sq_ls s n = 0 then n else sq_fi s n) else sq_fi s n) = _
  rw [b]; rfl
theorem sq_sz_y {s n : Nat} (b : s.testBit n = true) : sq_sz s (n + 1) = sq_sz s n + 1 := by
  show (if s.testBit n = true then sq_sz s n + 1 else sq_sz s n) = _
  rw [b]; rfl
theorem sq_v_y {M : Nat → Nat → Nat → Nat → Bool} {R : Nat → Bool} {s n : Nat} (b : s.testBit n = true) : sq_v M R s (n + 1) = sq_nx M R (sq_ls s n) (sq_fi s n) n (sq_v M R s n) := by
  show (if s.testBit n = true then sq_nx M R (sq_ls s n) (sq_fi s n) n (sq_v M R s n) else sq_v M R s n) = _
  rw [b]; rfl
theorem sq_tb {s e n : Nat} (h : s < 2 ^ e) (he : e ≤ n) : s.testBit n = false := Nat.testBit_lt_two_pow (Nat.lt_of_lt_of_le h (Nat.pow_le_pow_right (by decide) he))
theorem sq_up {s e : Nat} (M : Nat → Nat → Nat → Nat → Bool) (R : Nat → Bool) (h : s < 2 ^ e) (d : Nat) : sq_ls s (e + d) = sq_ls s e ∧ sq_fi s (e + d) = sq_fi s e ∧ sq_sz s (e + d) = sq_sz s e ∧ sq_v M R s (e + d) = sq_v M R s e := by
  induction d with
  | zero => exact ⟨rfl, rfl, rfl, rfl⟩
  | succ d ih =>
    have b : s.testBit (e + d) = false := sq_tb h (by omega)
    refine ⟨?_, ?_, ?_, ?_⟩
    · exact (sq_ls_n b).trans ih.1
    · exact (sq_fi_n b).trans ih.2.1
    · exact (sq_sz_n b).trans ih.2.2.1
    · exact (sq_v_n b).trans ih.2.2.2
theorem sq_lo {s e : Nat} : sq_eq (2 ^ e + s) s e := fun _ hi => Nat.testBit_two_pow_add_gt hi s
theorem sq_hi {s e : Nat} (h : s < 2 ^ e) : (2 ^ e + s).testBit e = true := by
  rw [Nat.testBit_two_pow_add_eq, Nat.testBit_lt_two_pow h]; rfl
theorem sq_lt2 {s e : Nat} (h : s < 2 ^ e) : 2 ^ e + s < 2 ^ (e + 1) := by rw [Nat.pow_succ]; omega
/-- one more event, the greatest -/
theorem sq_step {s e : Nat} (M : Nat → Nat → Nat → Nat → Bool) (R : Nat → Bool) (he : e < 10) (h : s < 2 ^ e) :
    sq_ls (2 ^ e + s) 10 = e + 1 ∧ sq_fi (2 ^ e + s) 10 = (if sq_ls s 10 = 0 then e else sq_fi s 10) ∧ sq_sz (2 ^ e + s) 10 = sq_sz s 10 + 1 ∧ sq_v M R (2 ^ e + s) 10 = sq_nx M R (sq_ls s 10) (sq_fi s 10) e (sq_v M R s 10) := by
  obtain ⟨d, hd⟩ : ∃ d, 10 = e + 1 + d := ⟨9 - e, by omega⟩
  have h2 := sq_up M R (sq_lt2 h) d
  have h3 := sq_up M R h (1 + d)
  rw [← Nat.add_assoc, ← hd] at h3
  rw [← hd] at h2
  have b := sq_hi h
  have q : sq_eq (2 ^ e + s) s e := sq_lo
  rw [h2.1, h2.2.1, h2.2.2.1, h2.2.2.2, h3.1, h3.2.1, h3.2.2.1, h3.2.2.2, sq_ls_y b, sq_fi_y b, sq_sz_y b, sq_v_y b, sq_ls_eq q, sq_fi_eq q, sq_sz_eq q, sq_v_eq q]
  exact ⟨rfl, rfl, rfl, rfl⟩
/-- the set's own: last and one more, first, size, ways -/
def sq_L (s : Nat) : Nat := sq_ls s 10
def sq_I (s : Nat) : Nat := sq_fi s 10
def sq_Z (s : Nat) : Nat := sq_sz s 10
def sq_V (M : Nat → Nat → Nat → Nat → Bool) (R : Nat → Bool) (s k : Nat) : Nat := sq_v M R s 10 k
theorem sq_L0 : sq_L 0 = 0 := by decide
theorem sq_Ls {s e : Nat} (he : e < 10) (h : s < 2 ^ e) : sq_L (2 ^ e + s) = e + 1 := (sq_step (fun _ _ _ _ => true) (fun _ => true) he h).1
theorem sq_Is {s e : Nat} (he : e < 10) (h : s < 2 ^ e) : sq_I (2 ^ e + s) = if sq_L s = 0 then e else sq_I s := (sq_step (fun _ _ _ _ => true) (fun _ => true) he h).2.1
theorem sq_Zs {s e : Nat} (he : e < 10) (h : s < 2 ^ e) : sq_Z (2 ^ e + s) = sq_Z s + 1 := (sq_step (fun _ _ _ _ => true) (fun _ => true) he h).2.2.1
theorem sq_Vs {s e : Nat} (M : Nat → Nat → Nat → Nat → Bool) (R : Nat → Bool) (he : e < 10) (h : s < 2 ^ e) (k : Nat) : sq_V M R (2 ^ e + s) k = sq_nx M R (sq_L s) (sq_I s) e (sq_V M R s) k := congrFun (sq_step M R he h).2.2.2 k
/-- a set is empty, or one event on top of a set of events ahead of it -/
theorem sq_cases {s n : Nat} (h : s < 2 ^ n) : s = 0 ∨ ∃ e t, e < n ∧ t < 2 ^ e ∧ s = 2 ^ e + t := by
  induction n with
  | zero => exact Or.inl (by simpa using h)
  | succ n ih =>
    by_cases h1 : s < 2 ^ n
    · rcases ih h1 with h2 | ⟨e, t, he, ht, q⟩
      · exact Or.inl h2
      · exact Or.inr ⟨e, t, by omega, ht, q⟩
    · rw [Nat.pow_succ] at h
      exact Or.inr ⟨n, s - 2 ^ n, by omega, by omega, by omega⟩
theorem sq_ind {P : Nat → Prop} (n : Nat) (h0 : P 0) (hs : ∀ e s, e < n → s < 2 ^ e → P s → P (2 ^ e + s)) : ∀ s, s < 2 ^ n → P s := by
  intro s
  induction s using Nat.strongRecOn with
  | _ s ih =>
    intro h
    rcases sq_cases h with h2 | ⟨e, t, he, ht, q⟩
    · rw [h2]; exact h0
    · have p := Nat.two_pow_pos e
      rw [q]
      exact hs e t he ht (ih t (by omega) (by omega))
theorem sq_Lpos {s n : Nat} (hn : n ≤ 10) (h : s < 2 ^ n) (h0 : s ≠ 0) : 0 < sq_L s := by
  rcases sq_cases h with h2 | ⟨e, t, he, ht, q⟩
  · exact absurd h2 h0
  · rw [q, sq_Ls (by omega) ht]; omega
theorem sq_Lle {s n : Nat} (hn : n ≤ 10) (h : s < 2 ^ n) : sq_L s ≤ n := by
  rcases sq_cases h with h2 | ⟨e, t, he, ht, q⟩
  · rw [h2, sq_L0]; omega
  · rw [q, sq_Ls (by omega) ht]; omega
theorem sq_L0i {s n : Nat} (hn : n ≤ 10) (h : s < 2 ^ n) : sq_L s = 0 ↔ s = 0 := by
  constructor
  · intro z
    by_cases h0 : s = 0
    · exact h0
    · have := sq_Lpos hn h h0; omega
  · intro z; rw [z]; exact sq_L0
theorem sq_Ilt {n : Nat} (hn : n ≤ 10) : ∀ s, s < 2 ^ n → s ≠ 0 → sq_I s < sq_L s := by
  refine sq_ind n (fun z => absurd rfl z) ?_
  intro e s he hs ih _
  rw [sq_Ls (by omega) hs, sq_Is (by omega) hs]
  have h1 := sq_L0i (n := e) (by omega) hs
  have h2 := sq_Lle (n := e) (by omega) hs
  by_cases h0 : sq_L s = 0
  · rw [if_pos h0]; omega
  · rw [if_neg h0]
    have := ih (fun z => h0 (h1.mpr z))
    omega
theorem sq_Ilt' {s n : Nat} (hn : n ≤ 10) (h : s < 2 ^ n) (h0 : s ≠ 0) : sq_I s < n := by
  have h1 := sq_Ilt hn s h h0
  have h2 := sq_Lle hn h
  omega
theorem sq_Zle {n : Nat} (hn : n ≤ 10) : ∀ s, s < 2 ^ n → sq_Z s ≤ sq_L s := by
  refine sq_ind n (by decide) ?_
  intro e s he hs ih
  rw [sq_Ls (by omega) hs, sq_Zs (by omega) hs]
  have h2 := sq_Lle (n := e) (by omega) hs
  omega
theorem sq_Zpos {s e : Nat} (he : e < 10) (h : s < 2 ^ e) : 0 < sq_Z (2 ^ e + s) := by
  rw [sq_Zs he h]; omega
theorem sq_V0 (M : Nat → Nat → Nat → Nat → Bool) (R : Nat → Bool) (k : Nat) : sq_V M R 0 k = 0 := by
  have h := (sq_up M R (show 0 < 2 ^ 0 by decide) 10).2.2.2
  exact congrFun h k
theorem sq_nx_le {M : Nat → Nat → Nat → Nat → Bool} {R : Nat → Bool} {l f e k c : Nat} {v : Nat → Nat} (hc : 0 < c) (h : ∀ k, v k ≤ c) : sq_nx M R l f e v k ≤ 2 * c := by
  unfold sq_nx
  have h1 := h k
  have h2 := h (k - 1)
  repeat' split
  all_goals omega
theorem sq_Vle (M : Nat → Nat → Nat → Nat → Bool) (R : Nat → Bool) {n : Nat} (hn : n ≤ 10) : ∀ s, s < 2 ^ n → ∀ k, sq_V M R s k ≤ 2 ^ sq_L s := by
  refine sq_ind n (fun k => ?_) ?_
  · rw [sq_V0]; exact Nat.zero_le _
  · intro e s he hs ih k
    rw [sq_Ls (by omega) hs, sq_Vs M R (by omega) hs, Nat.pow_succ]
    have h2 : 2 ^ sq_L s ≤ 2 ^ e := Nat.pow_le_pow_right (by decide) (sq_Lle (n := e) (by omega) hs)
    have := sq_nx_le (M := M) (R := R) (l := sq_L s) (f := sq_I s) (e := e) (k := k) (Nat.two_pow_pos e) (fun k => Nat.le_trans (ih k) h2)
    omega
/-- a bit of a set with one more on top -/
theorem sq_bit {s e o : Nat} (h : s < 2 ^ e) (ho : o ≠ e) : (2 ^ e + s).testBit o = s.testBit o := by
  by_cases h1 : o < e
  · exact Nat.testBit_two_pow_add_gt h1 s
  · rw [sq_tb h (show e ≤ o by omega), sq_tb (sq_lt2 h) (show e + 1 ≤ o by omega)]
