section
/-! rows of the kit, pasted as its page allows -/
theorem pk_us {f : Nat → Int32} {k : Nat} {x : Int32} : upd f k x k = x := if_pos rfl
theorem pk_un {f : Nat → Int32} {k j : Nat} {x : Int32} (h : j ≠ k) : upd f k x j = f j := if_neg h
theorem pk_sub {a b : Nat} (h : b ≤ a) : nI a - nI b = nI (a - b) := by
  obtain ⟨c, rfl⟩ : ∃ c, a = c + b := ⟨a - b, by omega⟩
  rw [← nI_add, Int32.add_sub_cancel, Nat.add_sub_cancel]
theorem pk_m1 (n : Nat) : nI (n + 1) + (-1) = nI n := by
  rw [← nI_1, Int32.add_assoc, show (1 : Int32) + (-1) = 0 from rfl, Int32.add_zero]
theorem pk_mul (a b : Nat) : nI a * nI b = nI (a * b) := (Int32.ofNat_mul a b).symm
theorem pk_div {a d : Nat} (ha : a < 2 ^ 31) (h0 : 0 < d) (hd : d < 2 ^ 31) : nI a / nI d = nI (a / d) := by
  apply Int32.toInt_inj.mp
  rw [lg_idiv_nonneg (by rw [nI_toInt ha]; omega) (by rw [nI_toInt hd]; omega), nI_toInt ha, nI_toInt hd, nI_toInt (Nat.lt_of_le_of_lt (Nat.div_le_self a d) ha)]
  first | rfl | exact (Int.natCast_ediv _ _).symm
theorem pk_rem {a d : Nat} (ha : a < 2 ^ 31) (h0 : 0 < d) (hd : d < 2 ^ 31) : nI a - nI a / nI d * nI d = nI (a % d) := by
  rw [pk_div ha h0 hd, pk_mul, pk_sub (Nat.div_mul_le_self a d)]
  exact congrArg nI (by have := Nat.div_add_mod' a d; omega)
theorem pk_sub_toInt {a b : Nat} (ha : a < 2 ^ 30) (hb : b < 2 ^ 30) : (nI a - nI b).toInt = (a : Int) - b := by
  rw [Int32.toInt_sub, nI_toInt (by omega), nI_toInt (by omega)]
  exact Int.bmod_eq_of_le (by omega) (by omega)
theorem pk_ix (x : Int32) {n : Nat} (hn : n < 2 ^ 31) : x < 0 ∨ nI n ≤ x ∨ ∃ j : Nat, j < n ∧ x = nI j := by
  by_cases h : x < 0
  · exact Or.inl h
  · obtain ⟨j, hj, rfl⟩ := nI_of h
    by_cases h2 : j < n
    · exact Or.inr (Or.inr ⟨j, h2, rfl⟩)
    · exact Or.inr (Or.inl (nI_le (by omega) hj))
theorem pk_le {x y : Int32} {A B : Prop} (a b : Nat) (f : a ≤ b → A) (g : b < a → B) (hx : x = nI a := by rfl) (hy : y = nI b := by rfl) (ha : a < 2 ^ 31 := by omega) (hb : b < 2 ^ 31 := by omega) : (x ≤ y → A) ∧ (¬ x ≤ y → B) := by
  subst hx hy
  rw [nI_leI ha hb]
  exact ⟨f, fun z => g (by omega)⟩
theorem pk_lt {x y : Int32} {A B : Prop} (a b : Nat) (f : a < b → A) (g : b ≤ a → B) (hx : x = nI a := by rfl) (hy : y = nI b := by rfl) (ha : a < 2 ^ 31 := by omega) (hb : b < 2 ^ 31 := by omega) : (x < y → A) ∧ (¬ x < y → B) := by
  subst hx hy
  rw [nI_ltI ha hb]
  exact ⟨f, fun z => g (by omega)⟩
theorem pk_eq {x y : Int32} {A B : Prop} (a b : Nat) (f : a = b → A) (g : a ≠ b → B) (hx : x = nI a := by rfl) (hy : y = nI b := by rfl) (ha : a < 2 ^ 31 := by omega) (hb : b < 2 ^ 31 := by omega) : (x = y → A) ∧ (¬ x = y → B) := by
  subst hx hy
  rw [nI_eq ha hb]
  exact ⟨f, g⟩
theorem pk_in {x : Int32} (n N : Nat) (h : n < N) (hx : x = nI n := by rfl) (hN : N < 2 ^ 31 := by omega) : vp_in x N := by
  subst hx
  exact vp_in_nI h hN
theorem pk_cl {x : Int32} (n : Nat) (hx : x = nI n := by rfl) (h : n < 2 ^ 31 := by omega) : x.toNatClampNeg = n := by
  subst hx
  exact nI_clamp h
theorem pk_tn {n : Nat} (h : n < 2 ^ 32) : (nI n).toBitVec.toNat = n := Nat.mod_eq_of_lt h
theorem pk_and (x : Int32) {m : Int32} (k : Nat) (hm : m.toBitVec.toNat = 2 ^ k - 1) : x &&& m = nI (x.toBitVec.toNat % 2 ^ k) := by
  apply Int32.toBitVec_inj.mp
  apply BitVec.eq_of_toNat_eq
  rw [Int32.toBitVec_and, BitVec.toNat_and, hm, Nat.and_two_pow_sub_one_eq_mod]
  show _ = (BitVec.ofNat 32 _).toNat
  rw [BitVec.toNat_ofNat]
  exact (Nat.mod_eq_of_lt (Nat.lt_of_le_of_lt (Nat.mod_le _ _) x.toBitVec.isLt)).symm
theorem pk_andN {n : Nat} (h : n < 2 ^ 32) {m : Int32} (k : Nat) (hm : m.toBitVec.toNat = 2 ^ k - 1) : nI n &&& m = nI (n % 2 ^ k) := by
  rw [pk_and _ k hm, pk_tn h]
theorem pk_shl (a s : Int32) (k : Nat) (hs : (s.toBitVec.smod 32).toNat = k) : (a <<< s).toBitVec.toNat = a.toBitVec.toNat * 2 ^ k % 2 ^ 32 := by
  show (a.toBitVec <<< (s.toBitVec.smod 32).toNat).toNat = _
  rw [hs, BitVec.toNat_shiftLeft, Nat.shiftLeft_eq]
theorem pk_shlN {n : Nat} (s : Int32) (k : Nat) (hs : (s.toBitVec.smod 32).toNat = k) (h : n * 2 ^ k < 2 ^ 32) : nI n <<< s = nI (n * 2 ^ k) := by
  apply Int32.toBitVec_inj.mp
  apply BitVec.eq_of_toNat_eq
  have hn : n < 2 ^ 32 := Nat.lt_of_le_of_lt (Nat.le_mul_of_pos_right n (Nat.two_pow_pos k)) h
  rw [pk_shl _ _ k hs, pk_tn hn, pk_tn h, Nat.mod_eq_of_lt h]
theorem pk_shr (a s : Int32) (k : Nat) (hs : (s.toBitVec.smod 32).toNat = k) : (a >>> s).toInt = a.toInt >>> k := by
  show (a.toBitVec.sshiftRight (s.toBitVec.smod 32).toNat).toInt = _
  rw [hs, BitVec.toInt_sshiftRight]
  rfl
theorem pk_shrN {n : Nat} (h : n < 2 ^ 31) (s : Int32) (k : Nat) (hs : (s.toBitVec.smod 32).toNat = k) : nI n >>> s = nI (n / 2 ^ k) := by
  apply Int32.toInt_inj.mp
  have h2 : n / 2 ^ k ≤ n := Nat.div_le_self _ _
  rw [pk_shr _ _ k hs, nI_toInt h, nI_toInt (by omega), Int.shiftRight_eq_div_pow]
  rfl
theorem s_l : ∀ n, n < 32 → ((nI n &&& 31).toBitVec.smod 32).toNat = n := by decide +kernel
theorem wb_of32 (x : Int32) : ∃ n, n < 2 ^ 32 ∧ x = nI n := ⟨x.toBitVec.toNat, x.toBitVec.isLt, Int32.toBitVec_inj.mp (by show _ = BitVec.ofNat 32 _; simp)⟩
end
section
/-! folds over an operation that is commutative and associative, with 0 as its unit: sums, greatest, least (0: none) -/
def sq_ok (op : Nat → Nat → Nat) : Prop := (∀ a b, op a b = op b a) ∧ (∀ a b c, op (op a b) c = op a (op b c)) ∧ (∀ a, op a 0 = a)
theorem sq_z {op : Nat → Nat → Nat} (o : sq_ok op) (a : Nat) : op 0 a = a := by rw [o.1]; exact o.2.2 a
def sq_fo (op : Nat → Nat → Nat) (g : Nat → Nat) : Nat → Nat
  | 0 => 0
  | n + 1 => op (sq_fo op g n) (g n)
theorem sq_fo_0 (op : Nat → Nat → Nat) (g : Nat → Nat) : sq_fo op g 0 = 0 := rfl
theorem sq_fo_s (op : Nat → Nat → Nat) (g : Nat → Nat) (n : Nat) : sq_fo op g (n + 1) = op (sq_fo op g n) (g n) := rfl
theorem sq_fo_1 {op : Nat → Nat → Nat} (o : sq_ok op) (g : Nat → Nat) : sq_fo op g 1 = g 0 := sq_z o _
theorem sq_fo_congr {op : Nat → Nat → Nat} {g h : Nat → Nat} {n : Nat} (e : ∀ i, i < n → g i = h i) : sq_fo op g n = sq_fo op h n := by
  induction n with
  | zero => rfl
  | succ n ih => rw [sq_fo_s, sq_fo_s, ih (fun i hi => e i (by omega)), e n (by omega)]
theorem sq_fo_zero {op : Nat → Nat → Nat} (o : sq_ok op) {g : Nat → Nat} {n : Nat} (e : ∀ i, i < n → g i = 0) : sq_fo op g n = 0 := by
  induction n with
  | zero => rfl
  | succ n ih =>
    rw [sq_fo_s, ih (fun i hi => e i (by omega)), e n (by omega)]
    exact o.2.2 0
theorem sq_fo_split {op : Nat → Nat → Nat} (o : sq_ok op) (g : Nat → Nat) (a b : Nat) : sq_fo op g (a + b) = op (sq_fo op g a) (sq_fo op (fun i => g (a + i)) b) := by
  induction b with
  | zero => exact (o.2.2 _).symm
  | succ b ih =>
    have e1 : sq_fo op g (a + (b + 1)) = op (sq_fo op g (a + b)) (g (a + b)) := rfl
    have e2 : sq_fo op (fun i => g (a + i)) (b + 1) = op (sq_fo op (fun i => g (a + i)) b) (g (a + b)) := rfl
    rw [e1, e2, ih, o.2.1]
theorem sq_fo_dbl {op : Nat → Nat → Nat} (o : sq_ok op) (g : Nat → Nat) (n : Nat) : sq_fo op g (2 ^ (n + 1)) = op (sq_fo op g (2 ^ n)) (sq_fo op (fun i => g (2 ^ n + i)) (2 ^ n)) := by
  rw [show 2 ^ (n + 1) = 2 ^ n + 2 ^ n from by rw [Nat.pow_succ]; omega]
  exact sq_fo_split o g _ _
theorem sq_fo_op {op : Nat → Nat → Nat} (o : sq_ok op) (g h : Nat → Nat) (n : Nat) : sq_fo op (fun i => op (g i) (h i)) n = op (sq_fo op g n) (sq_fo op h n) := by
  induction n with
  | zero => exact (o.2.2 0).symm
  | succ n ih =>
    rw [sq_fo_s, sq_fo_s, sq_fo_s, ih, o.2.1 (sq_fo op g n) (sq_fo op h n), o.2.1 (sq_fo op g n) (g n), ← o.2.1 (sq_fo op h n) (g n) (h n), o.1 (sq_fo op h n) (g n), o.2.1 (g n) (sq_fo op h n)]
theorem sq_fo_one {op : Nat → Nat → Nat} (o : sq_ok op) {g : Nat → Nat} {n : Nat} (hn : 0 < n) (e : ∀ i, 0 < i → i < n → g i = 0) : sq_fo op g n = g 0 := by
  induction n with
  | zero => omega
  | succ n ih =>
    by_cases h : n = 0
    · subst h; exact sq_fo_1 o g
    · rw [sq_fo_s, ih (by omega) (fun i h0 hi => e i h0 (by omega)), e n (by omega) (by omega)]
      exact o.2.2 _
theorem sq_oa : sq_ok (fun a b => a + b) := ⟨Nat.add_comm, Nat.add_assoc, Nat.add_zero⟩
theorem sq_om : sq_ok (fun a b => max a b) := ⟨Nat.max_comm, Nat.max_assoc, Nat.max_zero⟩
def sq_tm (a b : Nat) : Nat := if a = 0 then b else if b = 0 then a else if a ≤ b then a else b
theorem sq_ot : sq_ok sq_tm := by
  refine ⟨fun a b => ?_, fun a b c => ?_, fun a => ?_⟩
  · unfold sq_tm; repeat' split
    all_goals omega
  · unfold sq_tm; repeat' split
    all_goals omega
  · unfold sq_tm; repeat' split
    all_goals omega
/-- sums -/
def sq_sm (g : Nat → Nat) (n : Nat) : Nat := sq_fo (fun a b => a + b) g n
theorem sq_sm_s (g : Nat → Nat) (n : Nat) : sq_sm g (n + 1) = sq_sm g n + g n := rfl
theorem sq_sm_le {g : Nat → Nat} {n c : Nat} (e : ∀ i, i < n → g i ≤ c) : sq_sm g n ≤ n * c := by
  induction n with
  | zero => exact Nat.zero_le _
  | succ n ih =>
    have h1 := ih (fun i hi => e i (by omega))
    have h2 := e n (by omega)
    rw [sq_sm_s, Nat.succ_mul]
    omega
theorem sq_sm_mul (g : Nat → Nat) (c n : Nat) : sq_sm (fun i => c * g i) n = c * sq_sm g n := by
  induction n with
  | zero => rfl
  | succ n ih => rw [sq_sm_s, sq_sm_s, ih, Nat.mul_add]
/-- greatest -/
def sq_mx (g : Nat → Nat) (n : Nat) : Nat := sq_fo (fun a b => max a b) g n
theorem sq_mx_s (g : Nat → Nat) (n : Nat) : sq_mx g (n + 1) = max (sq_mx g n) (g n) := rfl
theorem sq_mx_le {g : Nat → Nat} {n c : Nat} (e : ∀ i, i < n → g i ≤ c) : sq_mx g n ≤ c := by
  induction n with
  | zero => exact Nat.zero_le _
  | succ n ih =>
    have h1 := ih (fun i hi => e i (by omega))
    have h2 := e n (by omega)
    rw [sq_mx_s]
    omega
theorem sq_lz (v z : Nat → Nat) (n : Nat) (h : sq_sm v n = 0) : sq_mx (fun i => if 0 < v i then z i else 0) n = 0 := by
  induction n with
  | zero => rfl
  | succ n ih =>
    rw [sq_sm_s] at h
    rw [sq_mx_s, ih (by omega)]
    try dsimp only
    rw [if_neg (by omega)]
    rfl
theorem sq_lp (v z : Nat → Nat) (n : Nat) (hz : ∀ i, i < n → 0 < z i) (h : 0 < sq_sm v n) : 0 < sq_mx (fun i => if 0 < v i then z i else 0) n := by
  induction n with
  | zero => exact absurd h (Nat.lt_irrefl 0)
  | succ n ih =>
    rw [sq_sm_s] at h
    rw [sq_mx_s]
    try dsimp only
    by_cases hB : 0 < sq_sm v n
    · have := ih (fun i hi => hz i (by omega)) hB
      omega
    · have := hz n (by omega)
      rw [if_pos (show 0 < v n from by omega)]
      omega
/-- greatest of the sizes, each one more, of what has a way -/
theorem sq_lm (v z : Nat → Nat) (n : Nat) : sq_mx (fun i => if 0 < v i then z i + 1 else 0) n = if 0 < sq_sm v n then sq_mx (fun i => if 0 < v i then z i else 0) n + 1 else 0 := by
  induction n with
  | zero => rfl
  | succ n ih =>
    have h0 := sq_lz v z n
    rw [sq_mx_s, sq_mx_s, sq_sm_s, ih]
    try dsimp only
    generalize sq_mx (fun i => if 0 < v i then z i else 0) n = A at h0
    generalize sq_sm v n = B at h0
    by_cases hv : 0 < v n
    · rw [if_pos hv, if_pos hv, if_pos (show 0 < B + v n from by omega)]
      by_cases hB : 0 < B
      · rw [if_pos hB]; omega
      · rw [if_neg hB, h0 (by omega)]; omega
    · rw [if_neg hv, if_neg hv, show v n = 0 from by omega]
      by_cases hB : 0 < B
      · rw [if_pos hB, if_pos (show 0 < B + 0 from hB)]; omega
      · rw [if_neg hB, if_neg (show ¬ 0 < B + 0 from hB)]; rfl
theorem sq_mx2 (a b z : Nat → Nat) (n : Nat) : sq_mx (fun i => if 0 < a i + b i then z i else 0) n = max (sq_mx (fun i => if 0 < a i then z i else 0) n) (sq_mx (fun i => if 0 < b i then z i else 0) n) := by
  have e := sq_fo_op sq_om (fun i => if 0 < a i then z i else 0) (fun i => if 0 < b i then z i else 0) n
  unfold sq_mx
  refine Eq.trans (sq_fo_congr fun i _ => ?_) e
  try dsimp only
  by_cases ha : 0 < a i
  · by_cases hb : 0 < b i
    · rw [if_pos ha, if_pos hb, if_pos (by omega)]; omega
    · rw [if_pos ha, if_neg hb, if_pos (by omega)]; omega
  · by_cases hb : 0 < b i
    · rw [if_neg ha, if_pos hb, if_pos (by omega)]; omega
    · rw [if_neg ha, if_neg hb, if_neg (by omega)]; rfl
/-- least: what is put in is one and the same number wherever there is a way -/
theorem sq_lt (v : Nat → Nat) (c n : Nat) : sq_fo sq_tm (fun i => if 0 < v i then c + 1 else 0) n = if 0 < sq_sm v n then c + 1 else 0 := by
  induction n with
  | zero => rfl
  | succ n ih =>
    rw [sq_fo_s, sq_sm_s, ih]
    try dsimp only
    generalize sq_sm v n = B
    unfold sq_tm
    by_cases hv : 0 < v n
    · by_cases hB : 0 < B
      · rw [if_pos hB, if_pos hv, if_pos (show 0 < B + v n from by omega), if_neg (by omega), if_neg (by omega), if_pos (Nat.le_refl _)]
      · rw [if_neg hB, if_pos hv, if_pos (show 0 < B + v n from by omega), if_pos rfl]
    · by_cases hB : 0 < B
      · rw [if_pos hB, if_neg hv, if_pos (show 0 < B + v n from by omega), if_neg (by omega), if_pos rfl]
      · rw [if_neg hB, if_neg hv, if_neg (show ¬ 0 < B + v n from by omega), if_pos rfl]
end
section
/-! a set of events is a number below 2 ^ 10; its last event and one more, its first, its size, its ways -/
def sq_ls (s : Nat) : Nat → Nat
  | 0 => 0
  | n + 1 => if s.testBit n = true then n + 1 else sq_ls s n
def sq_fi (s : Nat) : Nat → Nat
  | 0 => 9
  | n + 1 => if s.testBit n = true then (if sq_ls s n = 0 then n else sq_fi s n) else sq_fi s n
def sq_sz (s : Nat) : Nat → Nat
  | 0 => 0
  | n + 1 => if s.testBit n = true then sq_sz s n + 1 else sq_sz s n
def sq_nx (M : Nat → Nat → Nat → Nat → Bool) (R : Nat → Bool) (l f e : Nat) (v : Nat → Nat) (k : Nat) : Nat :=
  if l = 0 then (if k = 0 ∧ M e e 0 e = true then 1 else 0)
  else if M f e k (l - 1) = true then (if R k = true then v k else 0) + (if k = 0 then 0 else v (k - 1)) else 0
def sq_v (M : Nat → Nat → Nat → Nat → Bool) (R : Nat → Bool) (s : Nat) : Nat → Nat → Nat
  | 0 => fun _ => 0
  | n + 1 => if s.testBit n = true then sq_nx M R (sq_ls s n) (sq_fi s n) n (sq_v M R s n) else sq_v M R s n
def sq_eq (s t n : Nat) : Prop := ∀ i, i < n → s.testBit i = t.testBit i
theorem sq_ls_eq {s t n : Nat} (h : sq_eq s t n) : sq_ls s n = sq_ls t n := by
  induction n with
  | zero => rfl
  | succ n ih =>
    show (if s.testBit n = true then n + 1 else sq_ls s n) = (if t.testBit n = true then n + 1 else sq_ls t n)
    rw [h n (by omega), ih (fun i hi => h i (by omega))]
theorem sq_fi_eq {s t n : Nat} (h : sq_eq s t n) : sq_fi s n = sq_fi t n := by
  induction n with
  | zero => rfl
  | succ n ih =>
    have h' : sq_eq s t n := fun i hi => h i (by omega)
    show (if s.testBit n = true then (if sq_ls s n = 0 then n else sq_fi s n) else sq_fi s n) = (if t.testBit n = true then (if sq_ls t n = 0 then n else sq_fi t n) else sq_fi t n)
    rw [h n (by omega), ih h', sq_ls_eq h']
theorem sq_sz_eq {s t n : Nat} (h : sq_eq s t n) : sq_sz s n = sq_sz t n := by
  induction n with
  | zero => rfl
  | succ n ih =>
    show (if s.testBit n = true then sq_sz s n + 1 else sq_sz s n) = (if t.testBit n = true then sq_sz t n + 1 else sq_sz t n)
    rw [h n (by omega), ih (fun i hi => h i (by omega))]
theorem sq_v_eq {M : Nat → Nat → Nat → Nat → Bool} {R : Nat → Bool} {s t n : Nat} (h : sq_eq s t n) : sq_v M R s n = sq_v M R t n := by
  induction n with
  | zero => rfl
  | succ n ih =>
    have h' : sq_eq s t n := fun i hi => h i (by omega)
    show (if s.testBit n = true then sq_nx M R (sq_ls s n) (sq_fi s n) n (sq_v M R s n) else sq_v M R s n) = (if t.testBit n = true then sq_nx M R (sq_ls t n) (sq_fi t n) n (sq_v M R t n) else sq_v M R t n)
    rw [h n (by omega), ih h', sq_ls_eq h', sq_fi_eq h']
/-- beyond its bits a set changes nothing -/
theorem sq_ls_n {s n : Nat} (b : s.testBit n = false) : sq_ls s (n + 1) = sq_ls s n := by
  show (if s.testBit n = true then n + 1 else sq_ls s n) = _
  rw [b]; rfl
theorem sq_fi_n {s n : Nat} (b : s.testBit n = false) : sq_fi s (n + 1) = sq_fi s n := by
  show (if s.testBit n = true then (if sq_ls s n = 0 then n else sq_fi s n) else sq_fi s n) = _
  rw [b]; rfl
theorem sq_sz_n {s n : Nat} (b : s.testBit n = false) : sq_sz s (n + 1) = sq_sz s n := by
  show (if s.testBit n = true then sq_sz s n + 1 else sq_sz s n) = _
  rw [b]; rfl
theorem sq_v_n {M : Nat → Nat → Nat → Nat → Bool} {R : Nat → Bool} {s n : Nat} (b : s.testBit n = false) : sq_v M R s (n + 1) = sq_v M R s n := by
  show (if s.testBit n = true then sq_nx M R (sq_ls s n) (sq_fi s n) n (sq_v M R s n) else sq_v M R s n) = _
  rw [b]; rfl
theorem sq_ls_y {s n : Nat} (b : s.testBit n = true) : sq_ls s (n + 1) = n + 1 := by
  show (if s.testBit n = true then n + 1 else sq_ls s n) = _
  rw [b]; rfl
theorem sq_fi_y {s n : Nat} (b : s.testBit n = true) : sq_fi s (n + 1) = if sq_ls s n = 0 then n else sq_fi s n := by
  show (if s.testBit n = true then (if sq_ls s n = 0 then n else sq_fi s n) else sq_fi s n) = _
  rw [b]; rfl
theorem sq_sz_y {s n : Nat} (b : s.testBit n = true) : sq_sz s (n + 1) = sq_sz s n + 1 := by
  show (if s.testBit n = true then sq_sz s n + 1 else sq_sz s n) = _
  rw [b]; rfl
theorem sq_v_y {M : Nat → Nat → Nat → Nat → Bool} {R : Nat → Bool} {s n : Nat} (b : s.testBit n = true) : sq_v M R s (n + 1) = sq_nx M R (sq_ls s n) (sq_fi s n) n (sq_v M R s n) := by
  show (if s.testBit n = true then sq_nx M R (sq_ls s n) (sq_fi s n) n (sq_v M R s n) else sq_v M R s n) = _
  rw [b]; rfl
theorem sq_tb {s e n : Nat} (h : s < 2 ^ e) (he : e ≤ n) : s.testBit n = false := Nat.testBit_lt_two_pow (Nat.lt_of_lt_of_le h (Nat.pow_le_pow_right (by decide) he))
theorem sq_up {s e : Nat} (M : Nat → Nat → Nat → Nat → Bool) (R : Nat → Bool) (h : s < 2 ^ e) (d : Nat) : sq_ls s (e + d) = sq_ls s e ∧ sq_fi s (e + d) = sq_fi s e ∧ sq_sz s (e + d) = sq_sz s e ∧ sq_v M R s (e + d) = sq_v M R s e := by
  induction d with
  | zero => exact ⟨rfl, rfl, rfl, rfl⟩
  | succ d ih =>
    have b : s.testBit (e + d) = false := sq_tb h (by omega)
    refine ⟨?_, ?_, ?_, ?_⟩
    · exact (sq_ls_n b).trans ih.1
    · exact (sq_fi_n b).trans ih.2.1
    · exact (sq_sz_n b).trans ih.2.2.1
    · exact (sq_v_n b).trans ih.2.2.2
theorem sq_lo {s e : Nat} : sq_eq (2 ^ e + s) s e := fun _ hi => Nat.testBit_two_pow_add_gt hi s
theorem sq_hi {s e : Nat} (h : s < 2 ^ e) : (2 ^ e + s).testBit e = true := by
  rw [Nat.testBit_two_pow_add_eq, Nat.testBit_lt_two_pow h]; rfl
theorem sq_lt2 {s e : Nat} (h : s < 2 ^ e) : 2 ^ e + s < 2 ^ (e + 1) := by rw [Nat.pow_succ]; omega
/-- one more event, the greatest -/
theorem sq_step {s e : Nat} (M : Nat → Nat → Nat → Nat → Bool) (R : Nat → Bool) (he : e < 10) (h : s < 2 ^ e) :
    sq_ls (2 ^ e + s) 10 = e + 1 ∧ sq_fi (2 ^ e + s) 10 = (if sq_ls s 10 = 0 then e else sq_fi s 10) ∧ sq_sz (2 ^ e + s) 10 = sq_sz s 10 + 1 ∧ sq_v M R (2 ^ e + s) 10 = sq_nx M R (sq_ls s 10) (sq_fi s 10) e (sq_v M R s 10) := by
  obtain ⟨d, hd⟩ : ∃ d, 10 = e + 1 + d := ⟨9 - e, by omega⟩
  have h2 := sq_up M R (sq_lt2 h) d
  have h3 := sq_up M R h (1 + d)
  rw [← Nat.add_assoc, ← hd] at h3
  rw [← hd] at h2
  have b := sq_hi h
  have q : sq_eq (2 ^ e + s) s e := sq_lo
  rw [h2.1, h2.2.1, h2.2.2.1, h2.2.2.2, h3.1, h3.2.1, h3.2.2.1, h3.2.2.2, sq_ls_y b, sq_fi_y b, sq_sz_y b, sq_v_y b, sq_ls_eq q, sq_fi_eq q, sq_sz_eq q, sq_v_eq q]
  exact ⟨rfl, rfl, rfl, rfl⟩
/-- the set's own: last and one more, first, size, ways -/
def sq_L (s : Nat) : Nat := sq_ls s 10
def sq_I (s : Nat) : Nat := sq_fi s 10
def sq_Z (s : Nat) : Nat := sq_sz s 10
def sq_V (M : Nat → Nat → Nat → Nat → Bool) (R : Nat → Bool) (s k : Nat) : Nat := sq_v M R s 10 k
theorem sq_L0 : sq_L 0 = 0 := by decide
theorem sq_Ls {s e : Nat} (he : e < 10) (h : s < 2 ^ e) : sq_L (2 ^ e + s) = e + 1 := (sq_step (fun _ _ _ _ => true) (fun _ => true) he h).1
theorem sq_Is {s e : Nat} (he : e < 10) (h : s < 2 ^ e) : sq_I (2 ^ e + s) = if sq_L s = 0 then e else sq_I s := (sq_step (fun _ _ _ _ => true) (fun _ => true) he h).2.1
theorem sq_Zs {s e : Nat} (he : e < 10) (h : s < 2 ^ e) : sq_Z (2 ^ e + s) = sq_Z s + 1 := (sq_step (fun _ _ _ _ => true) (fun _ => true) he h).2.2.1
theorem sq_Vs {s e : Nat} (M : Nat → Nat → Nat → Nat → Bool) (R : Nat → Bool) (he : e < 10) (h : s < 2 ^ e) (k : Nat) : sq_V M R (2 ^ e + s) k = sq_nx M R (sq_L s) (sq_I s) e (sq_V M R s) k := congrFun (sq_step M R he h).2.2.2 k
/-- a set is empty, or one event on top of a set of events ahead of it -/
theorem sq_cases {s n : Nat} (h : s < 2 ^ n) : s = 0 ∨ ∃ e t, e < n ∧ t < 2 ^ e ∧ s = 2 ^ e + t := by
  induction n with
  | zero => exact Or.inl (by simpa using h)
  | succ n ih =>
    by_cases h1 : s < 2 ^ n
    · rcases ih h1 with h2 | ⟨e, t, he, ht, q⟩
      · exact Or.inl h2
      · exact Or.inr ⟨e, t, by omega, ht, q⟩
    · rw [Nat.pow_succ] at h
      exact Or.inr ⟨n, s - 2 ^ n, by omega, by omega, by omega⟩
theorem sq_ind {P : Nat → Prop} (n : Nat) (h0 : P 0) (hs : ∀ e s, e < n → s < 2 ^ e → P s → P (2 ^ e + s)) : ∀ s, s < 2 ^ n → P s := by
  intro s
  induction s using Nat.strongRecOn with
  | _ s ih =>
    intro h
    rcases sq_cases h with h2 | ⟨e, t, he, ht, q⟩
    · rw [h2]; exact h0
    · have p := Nat.two_pow_pos e
      rw [q]
      exact hs e t he ht (ih t (by omega) (by omega))
theorem sq_Lpos {s n : Nat} (hn : n ≤ 10) (h : s < 2 ^ n) (h0 : s ≠ 0) : 0 < sq_L s := by
  rcases sq_cases h with h2 | ⟨e, t, he, ht, q⟩
  · exact absurd h2 h0
  · rw [q, sq_Ls (by omega) ht]; omega
theorem sq_Lle {s n : Nat} (hn : n ≤ 10) (h : s < 2 ^ n) : sq_L s ≤ n := by
  rcases sq_cases h with h2 | ⟨e, t, he, ht, q⟩
  · rw [h2, sq_L0]; omega
  · rw [q, sq_Ls (by omega) ht]; omega
theorem sq_L0i {s n : Nat} (hn : n ≤ 10) (h : s < 2 ^ n) : sq_L s = 0 ↔ s = 0 := by
  constructor
  · intro z
    by_cases h0 : s = 0
    · exact h0
    · have := sq_Lpos hn h h0; omega
  · intro z; rw [z]; exact sq_L0
theorem sq_Ilt {n : Nat} (hn : n ≤ 10) : ∀ s, s < 2 ^ n → s ≠ 0 → sq_I s < sq_L s := by
  refine sq_ind n (fun z => absurd rfl z) ?_
  intro e s he hs ih _
  rw [sq_Ls (by omega) hs, sq_Is (by omega) hs]
  have h1 := sq_L0i (n := e) (by omega) hs
  have h2 := sq_Lle (n := e) (by omega) hs
  by_cases h0 : sq_L s = 0
  · rw [if_pos h0]; omega
  · rw [if_neg h0]
    have := ih (fun z => h0 (h1.mpr z))
    omega
theorem sq_Ilt' {s n : Nat} (hn : n ≤ 10) (h : s < 2 ^ n) (h0 : s ≠ 0) : sq_I s < n := by
  have h1 := sq_Ilt hn s h h0
  have h2 := sq_Lle hn h
  omega
theorem sq_Zle {n : Nat} (hn : n ≤ 10) : ∀ s, s < 2 ^ n → sq_Z s ≤ sq_L s := by
  refine sq_ind n (by decide) ?_
  intro e s he hs ih
  rw [sq_Ls (by omega) hs, sq_Zs (by omega) hs]
  have h2 := sq_Lle (n := e) (by omega) hs
  omega
theorem sq_Zpos {s e : Nat} (he : e < 10) (h : s < 2 ^ e) : 0 < sq_Z (2 ^ e + s) := by
  rw [sq_Zs he h]; omega
theorem sq_V0 (M : Nat → Nat → Nat → Nat → Bool) (R : Nat → Bool) (k : Nat) : sq_V M R 0 k = 0 := by
  have h := (sq_up M R (show 0 < 2 ^ 0 by decide) 10).2.2.2
  exact congrFun h k
theorem sq_nx_le {M : Nat → Nat → Nat → Nat → Bool} {R : Nat → Bool} {l f e k c : Nat} {v : Nat → Nat} (hc : 0 < c) (h : ∀ k, v k ≤ c) : sq_nx M R l f e v k ≤ 2 * c := by
  unfold sq_nx
  have h1 := h k
  have h2 := h (k - 1)
  repeat' split
  all_goals omega
theorem sq_Vle (M : Nat → Nat → Nat → Nat → Bool) (R : Nat → Bool) {n : Nat} (hn : n ≤ 10) : ∀ s, s < 2 ^ n → ∀ k, sq_V M R s k ≤ 2 ^ sq_L s := by
  refine sq_ind n (fun k => ?_) ?_
  · rw [sq_V0]; exact Nat.zero_le _
  · intro e s he hs ih k
    rw [sq_Ls (by omega) hs, sq_Vs M R (by omega) hs, Nat.pow_succ]
    have h2 : 2 ^ sq_L s ≤ 2 ^ e := Nat.pow_le_pow_right (by decide) (sq_Lle (n := e) (by omega) hs)
    have := sq_nx_le (M := M) (R := R) (l := sq_L s) (f := sq_I s) (e := e) (k := k) (Nat.two_pow_pos e) (fun k => Nat.le_trans (ih k) h2)
    omega
/-- a bit of a set with one more on top -/
theorem sq_bit {s e o : Nat} (h : s < 2 ^ e) (ho : o ≠ e) : (2 ^ e + s).testBit o = s.testBit o := by
  by_cases h1 : o < e
  · exact Nat.testBit_two_pow_add_gt h1 s
  · rw [sq_tb h (show e ≤ o by omega), sq_tb (sq_lt2 h) (show e + 1 ≤ o by omega)]
end
section
/-! the cells of the component: the ways of all sets with this first and this last event, and the greatest size -/
def sq_u (M : Nat → Nat → Nat → Nat → Bool) (R : Nat → Bool) (f o k t : Nat) : Nat := if sq_I t = f ∧ t.testBit o = false then sq_V M R t k else 0
def sq_G (M : Nat → Nat → Nat → Nat → Bool) (R : Nat → Bool) (f o l k m : Nat) : Nat := sq_sm (fun s => sq_u M R f o k (2 ^ l + s)) (2 ^ m)
def sq_D (M : Nat → Nat → Nat → Nat → Bool) (R : Nat → Bool) (f o l k m : Nat) : Nat := sq_mx (fun s => if 0 < sq_u M R f o k (2 ^ l + s) then sq_Z (2 ^ l + s) else 0) (2 ^ m)
variable {M : Nat → Nat → Nat → Nat → Bool} {R : Nat → Bool}
theorem sq_u_s {f o l k m s : Nat} (hl : l < 10) (hm : m < l) (ho : o ≠ l) (hs : s < 2 ^ m) :
    sq_u M R f o k (2 ^ l + (2 ^ m + s)) = if M f l k m = true then (if R k = true then sq_u M R f o k (2 ^ m + s) else 0) + (if k = 0 then 0 else sq_u M R f o (k - 1) (2 ^ m + s)) else 0 := by
  have ht : 2 ^ m + s < 2 ^ l := Nat.lt_of_lt_of_le (sq_lt2 hs) (Nat.pow_le_pow_right (by decide) (by omega))
  have hL : sq_L (2 ^ m + s) = m + 1 := sq_Ls (by omega) hs
  have hn : ¬ m + 1 = 0 := by omega
  unfold sq_u
  rw [sq_Is hl ht, sq_bit ht ho, sq_Vs M R hl ht, hL, if_neg hn]
  by_cases c : sq_I (2 ^ m + s) = f ∧ (2 ^ m + s).testBit o = false
  · simp only [if_pos c]
    unfold sq_nx
    rw [if_neg hn, Nat.add_sub_cancel, c.1]
  · simp only [if_neg c]
    by_cases a : M f l k m = true
    · rw [if_pos a]
      by_cases b : R k = true
      · rw [if_pos b]
        by_cases d : k = 0
        · rw [if_pos d]
        · rw [if_neg d]
      · rw [if_neg b]
        by_cases d : k = 0
        · rw [if_pos d]
        · rw [if_neg d]
    · rw [if_neg a]
theorem sq_u_0 {f o l k s : Nat} (hl : l < 10) (hf : f < l) (hs : s < 2 ^ f) : sq_u M R f o k (2 ^ l + s) = 0 := by
  have ht : s < 2 ^ l := Nat.lt_of_lt_of_le hs (Nat.pow_le_pow_right (by decide) (by omega))
  unfold sq_u
  rw [if_neg]
  intro c
  have h := c.1
  rw [sq_Is hl ht] at h
  by_cases h0 : sq_L s = 0
  · rw [if_pos h0] at h; omega
  · rw [if_neg h0] at h
    have := sq_Ilt' (n := f) (by omega) hs (fun z => h0 (by rw [z]; exact sq_L0))
    omega
theorem sq_G_0 {f o l k : Nat} (hl : l < 10) (hf : f < l) : sq_G M R f o l k f = 0 := sq_fo_zero sq_oa fun _ hi => sq_u_0 hl hf hi
theorem sq_D_0 {f o l k : Nat} (hl : l < 10) (hf : f < l) : sq_D M R f o l k f = 0 := by
  refine sq_fo_zero sq_om fun i hi => ?_
  try dsimp only
  rw [sq_u_0 hl hf hi]
  rfl
def sq_ln (d g x : Nat) : Nat := if g = 0 then d else max d (x + 1)
theorem sq_G_n {f o l k m : Nat} (hl : l < 10) (hm : m < l) (ho : o ≠ l) (a : ¬ M f l k m = true) : sq_G M R f o l k (m + 1) = sq_G M R f o l k m := by
  have e : sq_G M R f o l k (m + 1) = sq_G M R f o l k m + sq_fo (fun a b => a + b) (fun i => sq_u M R f o k (2 ^ l + (2 ^ m + i))) (2 ^ m) := sq_fo_dbl sq_oa _ m
  rw [e, sq_fo_zero sq_oa]
  · rfl
  · intro i hi
    try dsimp only
    rw [sq_u_s hl hm ho hi, if_neg a]
theorem sq_D_n {f o l k m : Nat} (hl : l < 10) (hm : m < l) (ho : o ≠ l) (a : ¬ M f l k m = true) : sq_D M R f o l k (m + 1) = sq_D M R f o l k m := by
  have e : sq_D M R f o l k (m + 1) = max (sq_D M R f o l k m) (sq_fo (fun a b => max a b) (fun i => if 0 < sq_u M R f o k (2 ^ l + (2 ^ m + i)) then sq_Z (2 ^ l + (2 ^ m + i)) else 0) (2 ^ m)) := sq_fo_dbl sq_om _ m
  rw [e, sq_fo_zero sq_om]
  · exact Nat.max_zero _
  · intro i hi
    try dsimp only
    rw [sq_u_s hl hm ho hi, if_neg a]
    rfl
theorem sq_ua {f o k m : Nat} : sq_sm (fun i => if R k = true then sq_u M R f o k (2 ^ m + i) else 0) (2 ^ m) = if R k = true then sq_G M R f o m k m else 0 := by
  by_cases b : R k = true
  · simp only [if_pos b]; rfl
  · simp only [if_neg b]
    exact sq_fo_zero sq_oa fun _ _ => rfl
theorem sq_ub {f o k m : Nat} : sq_sm (fun i => if k = 0 then 0 else sq_u M R f o (k - 1) (2 ^ m + i)) (2 ^ m) = if k = 0 then 0 else sq_G M R f o m (k - 1) m := by
  by_cases b : k = 0
  · simp only [if_pos b]
    exact sq_fo_zero sq_oa fun _ _ => rfl
  · simp only [if_neg b]; rfl
theorem sq_G_y {f o l k m : Nat} (hl : l < 10) (hm : m < l) (ho : o ≠ l) (a : M f l k m = true) : sq_G M R f o l k (m + 1) = sq_G M R f o l k m + (if R k = true then sq_G M R f o m k m else 0) + (if k = 0 then 0 else sq_G M R f o m (k - 1) m) := by
  have e : sq_G M R f o l k (m + 1) = sq_G M R f o l k m + sq_fo (fun a b => a + b) (fun i => sq_u M R f o k (2 ^ l + (2 ^ m + i))) (2 ^ m) := sq_fo_dbl sq_oa _ m
  have e2 : sq_fo (fun a b => a + b) (fun i => sq_u M R f o k (2 ^ l + (2 ^ m + i))) (2 ^ m) = sq_fo (fun a b => a + b) (fun i => (if R k = true then sq_u M R f o k (2 ^ m + i) else 0) + (if k = 0 then 0 else sq_u M R f o (k - 1) (2 ^ m + i))) (2 ^ m) := by
    refine sq_fo_congr fun i hi => ?_
    try dsimp only
    rw [sq_u_s hl hm ho hi, if_pos a]
  have e3 := sq_fo_op sq_oa (fun i => if R k = true then sq_u M R f o k (2 ^ m + i) else 0) (fun i => if k = 0 then 0 else sq_u M R f o (k - 1) (2 ^ m + i)) (2 ^ m)
  have e4 := sq_ua (M := M) (R := R) (f := f) (o := o) (k := k) (m := m)
  have e5 := sq_ub (M := M) (R := R) (f := f) (o := o) (k := k) (m := m)
  unfold sq_sm at e4 e5
  rw [e, e2, e3, e4, e5, Nat.add_assoc]
theorem sq_D_y {f o l k m : Nat} (hl : l < 10) (hm : m < l) (ho : o ≠ l) (a : M f l k m = true) :
    sq_D M R f o l k (m + 1) = if k = 0 then (if R k = true then sq_ln (sq_D M R f o l k m) (sq_G M R f o m k m) (sq_D M R f o m k m) else sq_D M R f o l k m) else sq_ln (if R k = true then sq_ln (sq_D M R f o l k m) (sq_G M R f o m k m) (sq_D M R f o m k m) else sq_D M R f o l k m) (sq_G M R f o m (k - 1) m) (sq_D M R f o m (k - 1) m) := by
  have e : sq_D M R f o l k (m + 1) = max (sq_D M R f o l k m) (sq_fo (fun a b => max a b) (fun i => if 0 < sq_u M R f o k (2 ^ l + (2 ^ m + i)) then sq_Z (2 ^ l + (2 ^ m + i)) else 0) (2 ^ m)) := sq_fo_dbl sq_om _ m
  have e2 : sq_fo (fun a b => max a b) (fun i => if 0 < sq_u M R f o k (2 ^ l + (2 ^ m + i)) then sq_Z (2 ^ l + (2 ^ m + i)) else 0) (2 ^ m) = sq_mx (fun i => if 0 < (if R k = true then sq_u M R f o k (2 ^ m + i) else 0) + (if k = 0 then 0 else sq_u M R f o (k - 1) (2 ^ m + i)) then sq_Z (2 ^ m + i) + 1 else 0) (2 ^ m) := by
    refine sq_fo_congr fun i hi => ?_
    have ht : 2 ^ m + i < 2 ^ l := Nat.lt_of_lt_of_le (sq_lt2 hi) (Nat.pow_le_pow_right (by decide) (by omega))
    try dsimp only
    rw [sq_u_s hl hm ho hi, if_pos a, sq_Zs hl ht]
  have e3 := sq_mx2 (fun i => if R k = true then sq_u M R f o k (2 ^ m + i) else 0) (fun i => if k = 0 then 0 else sq_u M R f o (k - 1) (2 ^ m + i)) (fun i => sq_Z (2 ^ m + i) + 1) (2 ^ m)
  have e4 := sq_lm (fun i => if R k = true then sq_u M R f o k (2 ^ m + i) else 0) (fun i => sq_Z (2 ^ m + i)) (2 ^ m)
  have e5 := sq_lm (fun i => if k = 0 then 0 else sq_u M R f o (k - 1) (2 ^ m + i)) (fun i => sq_Z (2 ^ m + i)) (2 ^ m)
  rw [sq_ua] at e4
  rw [sq_ub] at e5
  try dsimp only at e3 e4 e5
  rw [e, e2, e3, e4, e5]
  unfold sq_ln
  have d1 : sq_mx (fun i => if 0 < sq_u M R f o k (2 ^ m + i) then sq_Z (2 ^ m + i) else 0) (2 ^ m) = sq_D M R f o m k m := rfl
  have d2 : sq_mx (fun i => if 0 < sq_u M R f o (k - 1) (2 ^ m + i) then sq_Z (2 ^ m + i) else 0) (2 ^ m) = sq_D M R f o m (k - 1) m := rfl
  by_cases b : R k = true
  · simp only [if_pos b]
    rw [d1]
    generalize sq_G M R f o m k m = g1
    generalize sq_D M R f o m k m = x1
    by_cases d : k = 0
    · simp only [if_pos d]
      generalize sq_D M R f o l k m = y
      repeat' split
      all_goals omega
    · simp only [if_neg d]
      rw [d2]
      generalize sq_G M R f o m (k - 1) m = g2
      generalize sq_D M R f o m (k - 1) m = x2
      generalize sq_D M R f o l k m = y
      repeat' split
      all_goals omega
  · simp only [if_neg b]
    by_cases d : k = 0
    · simp only [if_pos d]
      generalize sq_D M R f o l k m = y
      repeat' split
      all_goals omega
    · simp only [if_neg d]
      rw [d2]
      generalize sq_G M R f o m (k - 1) m = g2
      generalize sq_D M R f o m (k - 1) m = x2
      generalize sq_D M R f o l k m = y
      repeat' split
      all_goals omega
theorem sq_u_f0 {f o k s : Nat} (hf : f < 10) (h0 : 0 < s) (hs : s < 2 ^ f) : sq_u M R f o k (2 ^ f + s) = 0 := by
  unfold sq_u
  rw [if_neg]
  intro c
  have h := c.1
  have hz : s ≠ 0 := by omega
  rw [sq_Is hf hs, if_neg (fun z => hz ((sq_L0i (n := f) (by omega) hs).mp z))] at h
  have := sq_Ilt' (n := f) (by omega) hs hz
  omega
theorem sq_u_f {f o k : Nat} (hf : f < 10) : sq_u M R f o k (2 ^ f + 0) = if f ≠ o ∧ k = 0 ∧ M f f 0 f = true then 1 else 0 := by
  have p := Nat.two_pow_pos f
  unfold sq_u
  rw [sq_Is hf p, sq_Vs M R hf p, if_pos sq_L0]
  by_cases h : f = o
  · subst h
    rw [sq_hi p, if_neg (fun c => nomatch c.2), if_neg (fun c => c.1 rfl)]
  · rw [sq_bit p (fun z => h z.symm), if_pos ⟨rfl, Nat.zero_testBit o⟩]
    unfold sq_nx
    rw [if_pos sq_L0]
    by_cases c : k = 0 ∧ M f f 0 f = true
    · rw [if_pos c, if_pos ⟨h, c⟩]
    · rw [if_neg c, if_neg (fun z => c z.2)]
theorem sq_G_f {f o k : Nat} (hf : f < 10) : sq_G M R f o f k f = if f ≠ o ∧ k = 0 ∧ M f f 0 f = true then 1 else 0 := by
  have e : sq_G M R f o f k f = sq_u M R f o k (2 ^ f + 0) := sq_fo_one sq_oa (Nat.two_pow_pos f) (fun i h0 hi => sq_u_f0 hf h0 hi)
  rw [e, sq_u_f hf]
theorem sq_D_f {f o k : Nat} (hf : f < 10) : sq_D M R f o f k f = if f ≠ o ∧ k = 0 ∧ M f f 0 f = true then 1 else 0 := by
  have e : sq_D M R f o f k f = if 0 < sq_u M R f o k (2 ^ f + 0) then sq_Z (2 ^ f + 0) else 0 := by
    refine sq_fo_one sq_om (Nat.two_pow_pos f) (fun i h0 hi => ?_)
    try dsimp only
    rw [sq_u_f0 hf h0 hi]
    rfl
  rw [e, sq_u_f hf, sq_Zs hf (Nat.two_pow_pos f), show sq_Z 0 = 0 from by decide]
  by_cases c : f ≠ o ∧ k = 0 ∧ M f f 0 f = true
  · rw [if_pos c]; rfl
  · rw [if_neg c]; rfl
theorem sq_u_le {f o k t : Nat} (ht : t < 2 ^ 10) : sq_u M R f o k t ≤ 1024 := by
  have h := sq_Vle M R (n := 10) (by decide) t ht k
  have h2 : 2 ^ sq_L t ≤ 2 ^ 10 := Nat.pow_le_pow_right (by decide) (sq_Lle (n := 10) (by decide) ht)
  unfold sq_u
  split
  · omega
  · omega
theorem sq_p9 {l : Nat} (hl : l < 10) : 2 ^ l ≤ 512 := Nat.le_trans (Nat.pow_le_pow_right (show 0 < 2 by decide) (show l ≤ 9 by omega)) (by decide)
theorem sq_p10 {l s : Nat} (hl : l < 10) (hs : s < 2 ^ l) : 2 ^ l + s < 2 ^ 10 := Nat.lt_of_lt_of_le (sq_lt2 hs) (Nat.pow_le_pow_right (by decide) (by omega))
theorem sq_G_le {f o l k m : Nat} (hl : l < 10) (hm : m ≤ l) : sq_G M R f o l k m ≤ 524288 := by
  have hp : 2 ^ m ≤ 2 ^ l := Nat.pow_le_pow_right (by decide) hm
  have h : sq_G M R f o l k m ≤ 2 ^ m * 1024 := sq_sm_le fun i hi => sq_u_le (sq_p10 hl (by omega))
  have h2 := sq_p9 hl
  omega
theorem sq_D_le {f o l k m : Nat} (hl : l < 10) (hm : m ≤ l) : sq_D M R f o l k m ≤ 10 := by
  have hp : 2 ^ m ≤ 2 ^ l := Nat.pow_le_pow_right (by decide) hm
  refine sq_mx_le fun i hi => ?_
  have h1 := sq_p10 hl (show i < 2 ^ l by omega)
  have h2 := sq_Zle (n := 10) (by decide) _ h1
  have h3 := sq_Lle (n := 10) (by decide) h1
  try dsimp only
  split
  · omega
  · omega
theorem sq_D_z {f o l k m : Nat} (h : sq_G M R f o l k m = 0) : sq_D M R f o l k m = 0 := sq_lz _ _ _ h
theorem sq_D_p {f o l k m : Nat} (hl : l < 10) (hm : m ≤ l) (h : 0 < sq_G M R f o l k m) : 0 < sq_D M R f o l k m := by
  have hp : 2 ^ m ≤ 2 ^ l := Nat.pow_le_pow_right (by decide) hm
  exact sq_lp _ _ _ (fun i hi => sq_Zpos hl (by omega)) h
end
section
/-! what a set answers, and the sums by first and last event -/
def sq_F (M : Nat → Nat → Nat → Nat → Bool) (R : Nat → Bool) (tn : Nat → Nat) (w st s : Nat) : Nat := if 0 < sq_L s ∧ 0 < st ∧ tn (sq_L s - 1) - tn (sq_I s) ≤ w then sq_V M R s (st - 1) else 0
def sq_C (M : Nat → Nat → Nat → Nat → Bool) (R : Nat → Bool) (tn : Nat → Nat) (w st f o l : Nat) : Nat := if 0 < st ∧ tn l - tn f ≤ w then sq_G M R f o l (st - 1) l else 0
def sq_E (M : Nat → Nat → Nat → Nat → Bool) (R : Nat → Bool) (tn : Nat → Nat) (w st f o l : Nat) : Nat := if 0 < st ∧ tn l - tn f ≤ w then sq_D M R f o l (st - 1) l else 0
def sq_g (o : Nat) (F : Nat → Nat) (t : Nat) : Nat := if t.testBit o = false then F t else 0
variable {M : Nat → Nat → Nat → Nat → Bool} {R : Nat → Bool} {tn : Nat → Nat} {w st : Nat} {op : Nat → Nat → Nat} {g : Nat → Nat}
theorem sq_F0 : sq_F M R tn w st 0 = 0 := by
  unfold sq_F
  rw [sq_L0, if_neg (fun z => absurd z.1 (by omega))]
theorem sq_g0 {o : Nat} : sq_g o (sq_F M R tn w st) 0 = 0 := by
  unfold sq_g
  rw [sq_F0]
  split
  · rfl
  · rfl
theorem sq_g100 {F : Nat → Nat} {t : Nat} (ht : t < 2 ^ 10) : sq_g 100 F t = F t := if_pos (sq_tb ht (by decide))
/-- inner: the sets with this first event -/
theorem sq_gi0 (o : sq_ok op) (g0 : g 0 = 0) {f : Nat} (hf : f ≤ 10) : sq_fo op (fun t => if sq_I t = f then g t else 0) (2 ^ f) = 0 := by
  refine sq_fo_zero o fun i hi => ?_
  try dsimp only
  by_cases h0 : i = 0
  · rw [h0, g0]
    split
    · rfl
    · rfl
  · have := sq_Ilt' hf hi h0
    rw [if_neg (by omega)]
theorem sq_go0 (o : sq_ok op) (J : Nat → Nat) (N : Nat) : sq_fo op (fun t => if J t < 0 then g t else 0) N = 0 := sq_fo_zero o fun _ _ => if_neg (Nat.not_lt_zero _)
theorem sq_gos (o : sq_ok op) (J : Nat → Nat) (m N : Nat) : sq_fo op (fun t => if J t < m + 1 then g t else 0) N = op (sq_fo op (fun t => if J t < m then g t else 0) N) (sq_fo op (fun t => if J t = m then g t else 0) N) := by
  rw [← sq_fo_op o]
  refine sq_fo_congr fun i _ => ?_
  try dsimp only
  by_cases a : J i < m
  · rw [if_pos a, if_pos (show J i < m + 1 by omega), if_neg (show ¬ J i = m by omega), o.2.2]
  · by_cases b : J i = m
    · rw [if_neg a, if_pos b, if_pos (show J i < m + 1 by omega), sq_z o]
    · rw [if_neg a, if_neg b, if_neg (show ¬ J i < m + 1 by omega), o.2.2]
theorem sq_gon (g0 : g 0 = 0) {n : Nat} (hn : n ≤ 10) : sq_fo op (fun t => if sq_I t < n then g t else 0) (2 ^ n) = sq_fo op g (2 ^ n) := by
  refine sq_fo_congr fun i hi => ?_
  try dsimp only
  by_cases h0 : i = 0
  · rw [h0, g0]
    split
    · rfl
    · rfl
  · rw [if_pos (sq_Ilt' hn hi h0)]
theorem sq_pt {f o l s : Nat} (hl : l < 10) (hs : s < 2 ^ l) : (if sq_I (2 ^ l + s) = f then sq_g o (sq_F M R tn w st) (2 ^ l + s) else 0) = if 0 < st ∧ tn l - tn f ≤ w then sq_u M R f o (st - 1) (2 ^ l + s) else 0 := by
  have hL := sq_Ls hl hs
  unfold sq_g sq_u sq_F
  rw [hL, Nat.add_sub_cancel]
  by_cases a : sq_I (2 ^ l + s) = f
  · rw [if_pos a, a]
    by_cases c : 0 < st ∧ tn l - tn f ≤ w
    · rw [if_pos c, if_pos (show 0 < l + 1 ∧ 0 < st ∧ tn l - tn f ≤ w from ⟨by omega, c⟩)]
      by_cases b : (2 ^ l + s).testBit o = false
      · rw [if_pos b, if_pos (show f = f ∧ (2 ^ l + s).testBit o = false from ⟨rfl, b⟩)]
      · rw [if_neg b, if_neg (show ¬ (f = f ∧ (2 ^ l + s).testBit o = false) from fun z => b z.2)]
    · rw [if_neg c, if_neg (show ¬ (0 < l + 1 ∧ 0 < st ∧ tn l - tn f ≤ w) from fun z => c z.2)]
      split
      · rfl
      · rfl
  · rw [if_neg a, if_neg (show ¬ (sq_I (2 ^ l + s) = f ∧ (2 ^ l + s).testBit o = false) from fun z => a z.1)]
    split
    · rfl
    · rfl
theorem sq_cS {f o l : Nat} : sq_sm (fun s => if 0 < st ∧ tn l - tn f ≤ w then sq_u M R f o (st - 1) (2 ^ l + s) else 0) (2 ^ l) = sq_C M R tn w st f o l := by
  unfold sq_C
  by_cases c : 0 < st ∧ tn l - tn f ≤ w
  · simp only [if_pos c]; rfl
  · simp only [if_neg c]
    exact sq_fo_zero sq_oa fun _ _ => rfl
theorem sq_cF {f o l : Nat} (hl : l < 10) : sq_fo (fun a b => a + b) (fun s => if sq_I (2 ^ l + s) = f then sq_g o (sq_F M R tn w st) (2 ^ l + s) else 0) (2 ^ l) = sq_C M R tn w st f o l := by
  rw [← sq_cS]
  exact sq_fo_congr fun i hi => sq_pt hl hi
theorem sq_ptF {f l s : Nat} (hl : l < 10) (hs : s < 2 ^ l) : (if sq_I (2 ^ l + s) = f then sq_F M R tn w st (2 ^ l + s) else 0) = if 0 < st ∧ tn l - tn f ≤ w then sq_u M R f 100 (st - 1) (2 ^ l + s) else 0 := by
  rw [← sq_pt hl hs, sq_g100 (sq_p10 hl hs)]
def sq_gL (M : Nat → Nat → Nat → Nat → Bool) (R : Nat → Bool) (tn : Nat → Nat) (w st t : Nat) : Nat := if 0 < sq_F M R tn w st t then sq_Z t else 0
def sq_gT (M : Nat → Nat → Nat → Nat → Bool) (R : Nat → Bool) (tn : Nat → Nat) (w st t : Nat) : Nat := if 0 < sq_F M R tn w st t then tn (sq_L t - 1) - tn (sq_I t) + 1 else 0
theorem sq_gL0 : sq_gL M R tn w st 0 = 0 := by
  unfold sq_gL
  rw [sq_F0]; rfl
theorem sq_gT0 : sq_gT M R tn w st 0 = 0 := by
  unfold sq_gT
  rw [sq_F0]; rfl
theorem sq_cL {f l : Nat} (hl : l < 10) : sq_fo (fun a b => max a b) (fun s => if sq_I (2 ^ l + s) = f then sq_gL M R tn w st (2 ^ l + s) else 0) (2 ^ l) = sq_E M R tn w st f 100 l := by
  have e : sq_fo (fun a b => max a b) (fun s => if sq_I (2 ^ l + s) = f then sq_gL M R tn w st (2 ^ l + s) else 0) (2 ^ l) = sq_fo (fun a b => max a b) (fun s => if 0 < st ∧ tn l - tn f ≤ w then (if 0 < sq_u M R f 100 (st - 1) (2 ^ l + s) then sq_Z (2 ^ l + s) else 0) else 0) (2 ^ l) := by
    refine sq_fo_congr fun i hi => ?_
    have h := sq_ptF (M := M) (R := R) (tn := tn) (w := w) (st := st) (f := f) hl hi
    try dsimp only
    by_cases a : sq_I (2 ^ l + i) = f
    · rw [if_pos a] at h
      rw [if_pos a]
      unfold sq_gL
      rw [h]
      by_cases c : 0 < st ∧ tn l - tn f ≤ w
      · rw [if_pos c, if_pos c]
      · rw [if_neg c, if_neg c]; rfl
    · rw [if_neg a] at h
      rw [if_neg a]
      by_cases c : 0 < st ∧ tn l - tn f ≤ w
      · rw [if_pos c] at h
        rw [if_pos c, ← h]; rfl
      · rw [if_neg c]
  rw [e]
  unfold sq_E
  by_cases c : 0 < st ∧ tn l - tn f ≤ w
  · simp only [if_pos c]; rfl
  · simp only [if_neg c]
    exact sq_fo_zero sq_om fun _ _ => rfl
theorem sq_cT {f l : Nat} (hl : l < 10) : sq_fo sq_tm (fun s => if sq_I (2 ^ l + s) = f then sq_gT M R tn w st (2 ^ l + s) else 0) (2 ^ l) = if 0 < sq_C M R tn w st f 100 l then tn l - tn f + 1 else 0 := by
  rw [← sq_cS, ← sq_lt]
  refine sq_fo_congr fun i hi => ?_
  have h := sq_ptF (M := M) (R := R) (tn := tn) (w := w) (st := st) (f := f) hl hi
  try dsimp only
  rw [← h]
  by_cases a : sq_I (2 ^ l + i) = f
  · rw [if_pos a, if_pos a]
    unfold sq_gT
    rw [sq_Ls hl hi, Nat.add_sub_cancel, a]
  · rw [if_neg a, if_neg a]; rfl
/-- the sets that end at an event -/
def sq_N (M : Nat → Nat → Nat → Nat → Bool) (R : Nat → Bool) (tn : Nat → Nat) (w st l : Nat) : Nat := sq_sm (fun s => sq_F M R tn w st (2 ^ l + s)) (2 ^ l)
def sq_Nm (M : Nat → Nat → Nat → Nat → Bool) (R : Nat → Bool) (tn : Nat → Nat) (w st l m : Nat) : Nat := sq_sm (fun s => if sq_I (2 ^ l + s) < m then sq_F M R tn w st (2 ^ l + s) else 0) (2 ^ l)
theorem sq_N0 {l : Nat} : sq_Nm M R tn w st l 0 = 0 := sq_go0 (g := fun s => sq_F M R tn w st (2 ^ l + s)) sq_oa (fun s => sq_I (2 ^ l + s)) _
theorem sq_Ns {l m : Nat} (hl : l < 10) : sq_Nm M R tn w st l (m + 1) = sq_Nm M R tn w st l m + sq_C M R tn w st m 100 l := by
  have e := sq_gos (g := fun s => sq_F M R tn w st (2 ^ l + s)) sq_oa (fun s => sq_I (2 ^ l + s)) m (2 ^ l)
  have e2 : sq_fo (fun a b => a + b) (fun s => if sq_I (2 ^ l + s) = m then sq_F M R tn w st (2 ^ l + s) else 0) (2 ^ l) = sq_C M R tn w st m 100 l := by
    rw [← sq_cS]
    exact sq_fo_congr fun i hi => sq_ptF hl hi
  try dsimp only at e
  rw [e2] at e
  exact e
theorem sq_Nn {l : Nat} (hl : l < 10) : sq_Nm M R tn w st l (l + 1) = sq_N M R tn w st l := by
  refine sq_fo_congr fun i hi => ?_
  try dsimp only
  have hp := Nat.two_pow_pos l
  rw [if_pos (sq_Ilt' (n := l + 1) (by omega) (sq_lt2 hi) (by omega))]
theorem sq_Ny {l : Nat} : ∀ {n : Nat}, n ≤ 10 → l < n → sq_sm (fun t => if sq_L t - 1 = l then sq_F M R tn w st t else 0) (2 ^ n) = sq_N M R tn w st l := by
  intro n
  induction n with
  | zero => intro _ h; omega
  | succ n ih =>
    intro hn hl
    have e := sq_fo_dbl sq_oa (fun t => if sq_L t - 1 = l then sq_F M R tn w st t else 0) n
    refine Eq.trans e ?_
    by_cases c : l < n
    · have h1 := ih (by omega) c
      have h2 : sq_fo (fun a b => a + b) (fun i => if sq_L (2 ^ n + i) - 1 = l then sq_F M R tn w st (2 ^ n + i) else 0) (2 ^ n) = 0 := by
        refine sq_fo_zero sq_oa fun i hi => ?_
        try dsimp only
        rw [sq_Ls (by omega) hi, if_neg (by omega)]
      try dsimp only
      rw [h2]
      exact h1
    · have hln : l = n := by omega
      subst hln
      have h1 : sq_fo (fun a b => a + b) (fun t => if sq_L t - 1 = l then sq_F M R tn w st t else 0) (2 ^ l) = 0 := by
        refine sq_fo_zero sq_oa fun i hi => ?_
        try dsimp only
        by_cases h0 : i = 0
        · rw [h0, sq_F0]
          split
          · rfl
          · rfl
        · have h3 := sq_Lle (n := l) (by omega) hi
          have h4 := sq_Lpos (n := l) (by omega) hi h0
          rw [if_neg (by omega)]
      have h2 : sq_fo (fun a b => a + b) (fun i => if sq_L (2 ^ l + i) - 1 = l then sq_F M R tn w st (2 ^ l + i) else 0) (2 ^ l) = sq_N M R tn w st l := by
        refine sq_fo_congr fun i hi => ?_
        try dsimp only
        rw [sq_Ls (by omega) hi, if_pos (by omega)]
      try dsimp only
      rw [h1, h2]
      omega
/-- the sum of the last values -/
theorem sq_vs {vn : Nat → Nat} {l : Nat} (hl : l < 10) : sq_sm (fun t => vn (sq_L t - 1) * sq_F M R tn w st t) (2 ^ (l + 1)) = sq_sm (fun t => vn (sq_L t - 1) * sq_F M R tn w st t) (2 ^ l) + vn l * sq_N M R tn w st l := by
  have e := sq_fo_dbl sq_oa (fun t => vn (sq_L t - 1) * sq_F M R tn w st t) l
  refine Eq.trans e ?_
  have e2 := sq_sm_mul (fun s => sq_F M R tn w st (2 ^ l + s)) (vn l) (2 ^ l)
  have e3 : sq_fo (fun a b => a + b) (fun i => vn (sq_L (2 ^ l + i) - 1) * sq_F M R tn w st (2 ^ l + i)) (2 ^ l) = sq_sm (fun i => vn l * sq_F M R tn w st (2 ^ l + i)) (2 ^ l) := by
    refine sq_fo_congr fun i hi => ?_
    try dsimp only
    rw [sq_Ls hl hi, Nat.add_sub_cancel]
  try dsimp only
  rw [e3, e2]
  rfl
theorem sq_v1 {vn : Nat → Nat} : sq_sm (fun t => vn (sq_L t - 1) * sq_F M R tn w st t) 1 = 0 := by
  rw [show (1 : Nat) = 0 + 1 from rfl, sq_sm_s, sq_F0]
  rfl
/-- with and without an event -/
theorem sq_wo {F : Nat → Nat} {o n : Nat} : sq_sm (sq_g o F) n + sq_sm (fun t => if t.testBit o = true then F t else 0) n = sq_sm F n := by
  have e := sq_fo_op sq_oa (sq_g o F) (fun t => if t.testBit o = true then F t else 0) n
  refine Eq.trans e.symm ?_
  refine sq_fo_congr fun i _ => ?_
  try dsimp only
  unfold sq_g
  cases i.testBit o
  · rw [if_pos rfl, if_neg (by decide)]; rfl
  · rw [if_neg (by decide), if_pos rfl]; omega
/-- by first event, in words of the queries: inner and outer loop -/
theorem sq_b0 {f o : Nat} (hf : f ≤ 10) : sq_sm (fun t => if sq_I t = f then sq_g o (sq_F M R tn w st) t else 0) (2 ^ f) = 0 := sq_gi0 sq_oa sq_g0 hf
theorem sq_bs {f o l : Nat} (hl : l < 10) : sq_sm (fun t => if sq_I t = f then sq_g o (sq_F M R tn w st) t else 0) (2 ^ (l + 1)) = sq_sm (fun t => if sq_I t = f then sq_g o (sq_F M R tn w st) t else 0) (2 ^ l) + sq_C M R tn w st f o l := by
  have e := sq_fo_dbl sq_oa (fun t => if sq_I t = f then sq_g o (sq_F M R tn w st) t else 0) l
  refine Eq.trans e ?_
  try dsimp only
  rw [sq_cF hl]
  rfl
def sq_A (M : Nat → Nat → Nat → Nat → Bool) (R : Nat → Bool) (tn : Nat → Nat) (w st o n m : Nat) : Nat := sq_sm (fun t => if sq_I t < m then sq_g o (sq_F M R tn w st) t else 0) (2 ^ n)
def sq_B (M : Nat → Nat → Nat → Nat → Bool) (R : Nat → Bool) (tn : Nat → Nat) (w st f o l : Nat) : Nat := sq_sm (fun t => if sq_I t = f then sq_g o (sq_F M R tn w st) t else 0) (2 ^ l)
theorem sq_A0 {o n : Nat} : sq_A M R tn w st o n 0 = 0 := sq_go0 sq_oa sq_I _
theorem sq_As {o n m : Nat} : sq_A M R tn w st o n (m + 1) = sq_A M R tn w st o n m + sq_B M R tn w st m o n := sq_gos sq_oa sq_I m _
theorem sq_An {o n : Nat} (hn : n ≤ 10) : sq_A M R tn w st o n n = sq_sm (sq_g o (sq_F M R tn w st)) (2 ^ n) := sq_gon sq_g0 hn
theorem sq_A100 {n : Nat} (hn : n ≤ 10) : sq_A M R tn w st 100 n n = sq_sm (sq_F M R tn w st) (2 ^ n) := by
  rw [sq_An hn]
  exact sq_fo_congr fun i hi => sq_g100 (Nat.lt_of_lt_of_le hi (Nat.pow_le_pow_right (by decide) hn))
theorem sq_B100 {f n : Nat} (hn : n ≤ 10) : sq_B M R tn w st f 100 n = sq_sm (fun t => if sq_I t = f then sq_F M R tn w st t else 0) (2 ^ n) := by
  refine sq_fo_congr fun i hi => ?_
  try dsimp only
  rw [sq_g100 (Nat.lt_of_lt_of_le hi (Nat.pow_le_pow_right (by decide) hn))]
end
section
/-! numbers of the machine -/
def sq_kp (va bo ki : Nat → Int32) (f e k b : Nat) : Bool :=
  if ki k = 1 then (decide (e = f) || decide (va b < va e)) else if ki k = 2 then (decide (e = f) || decide (va e < va b)) else if ki k = 3 then decide (va e = bo k) else if ki k = 4 then decide (va e = va f) else true
def sq_mt (ty va sT bo ki : Nat → Int32) (f e k b : Nat) : Bool := (decide (sT k = 4) || decide (ty e = sT k)) && sq_kp va bo ki f e k b
def sq_bi (b : Bool) : Int32 := if b = true then 1 else 0
def sq_R (re : Nat → Int32) (k : Nat) : Bool := decide (re k = 1)
theorem sq_31 {n : Nat} (h : n ≤ 524288) : n < 2 ^ 31 := by omega
theorem sq_bit1 {s e : Nat} (hs : s < 1024) (he : e < 10) : (nI s >>> (nI e &&& 31)) &&& 1 = sq_bi (s.testBit e) := by
  rw [pk_shrN (by omega) _ e (s_l e (by omega)), pk_andN (Nat.lt_of_le_of_lt (Nat.div_le_self _ _) (by omega)) 1 (by decide), Nat.testBit_eq_decide_div_mod_eq]
  unfold sq_bi
  by_cases c : s / 2 ^ e % 2 = 1
  · rw [if_pos (decide_eq_true c), show s / 2 ^ e % 2 ^ 1 = 1 from c]; rfl
  · rw [if_neg (fun z => c (of_decide_eq_true z)), show s / 2 ^ e % 2 ^ 1 = 0 from by omega]; rfl
theorem sq_one : sq_bi true = 1 := rfl
theorem sq_nul : sq_bi false = 0 := rfl
theorem sq_n01 : ¬ (0 : Int32) = 1 := by decide
theorem sq_n10 : ¬ (1 : Int32) = 0 := by decide
theorem sq_shl {n : Nat} (hn : n ≤ 10) : (1 : Int32) <<< (nI n &&& 31) = nI (2 ^ n) := by
  have h : 2 ^ n ≤ 2 ^ 10 := Nat.pow_le_pow_right (by decide) hn
  have e := pk_shlN (n := 1) (nI n &&& 31) n (s_l n (by omega)) (by omega)
  rw [Nat.one_mul] at e
  exact e
theorem sq_p1024 {n : Nat} (hn : n ≤ 10) : 2 ^ n ≤ 1024 := Nat.le_trans (Nat.pow_le_pow_right (show 0 < 2 by decide) hn) (by decide)
def sq_fd (s : Nat) : Nat → Nat
  | 0 => 9
  | d + 1 => if s.testBit (9 - d) = true then 9 - d else sq_fd s d
theorem sq_fd10 : ∀ s, s < 1024 → sq_fd s 10 = sq_fi s 10 := by decide +kernel
theorem sq_fi_up {s m : Nat} (h : sq_ls s m ≠ 0) (d : Nat) : sq_ls s (m + d) ≠ 0 ∧ sq_fi s (m + d) = sq_fi s m := by
  induction d with
  | zero => exact ⟨h, rfl⟩
  | succ d ih =>
    cases b : s.testBit (m + d)
    · exact ⟨by show sq_ls s (m + d + 1) ≠ 0; rw [sq_ls_n b]; exact ih.1, by show sq_fi s (m + d + 1) = _; rw [sq_fi_n b]; exact ih.2⟩
    · exact ⟨by show sq_ls s (m + d + 1) ≠ 0; rw [sq_ls_y b]; omega, by show sq_fi s (m + d + 1) = _; rw [sq_fi_y b, if_neg ih.1]; exact ih.2⟩
/-- the first event, as the walk meets it -/
theorem sq_I_at {s e : Nat} (he : e < 10) (b : s.testBit e = true) (h : sq_ls s e = 0) : sq_I s = e := by
  have h1 : sq_ls s (e + 1) ≠ 0 := by rw [sq_ls_y b]; omega
  have h2 := (sq_fi_up h1 (9 - e)).2
  rw [show e + 1 + (9 - e) = 10 from by omega, sq_fi_y b, if_pos h] at h2
  exact h2
theorem sq_I_of {s e : Nat} (he : e ≤ 10) (h : sq_ls s e ≠ 0) : sq_fi s e = sq_I s := by
  have h2 := (sq_fi_up h (10 - e)).2
  rw [show e + (10 - e) = 10 from by omega] at h2
  exact h2.symm
theorem sq_at10 {s n : Nat} (M : Nat → Nat → Nat → Nat → Bool) (R : Nat → Bool) (hn : n ≤ 10) (h : s < 2 ^ n) : sq_ls s n = sq_L s ∧ sq_v M R s n = sq_V M R s := by
  have h2 := sq_up M R h (10 - n)
  rw [show n + (10 - n) = 10 from by omega] at h2
  exact ⟨h2.1.symm, h2.2.2.2.symm⟩
/-- longest, tightest: 0 stands for none -/
def sq_en (a : Nat) : Int32 := if a = 0 then (-4) else nI a
def sq_et (a : Nat) : Int32 := if a = 0 then (-4) else nI (a - 1)
theorem sq_en_lt {a b : Nat} (hb : 0 < b) (hb2 : b < 2 ^ 31) (ha : a < 2 ^ 31) : sq_en a < nI b ↔ a < b := by
  unfold sq_en
  by_cases h : a = 0
  · rw [if_pos h, h]
    refine ⟨fun _ => hb, fun _ => ?_⟩
    rw [Int32.lt_iff_toInt_lt, nI_toInt hb2, show (-4 : Int32).toInt = -4 from by decide]
    omega
  · rw [if_neg h]
    exact nI_ltI ha hb2
theorem sq_et_no {a : Nat} (ha : a < 2 ^ 31) : sq_et a = -4 ↔ a = 0 := by
  unfold sq_et
  by_cases h : a = 0
  · rw [if_pos h]; exact ⟨fun _ => h, fun _ => rfl⟩
  · rw [if_neg h]
    refine ⟨fun z => ?_, fun z => absurd z h⟩
    have z2 := congrArg Int32.toInt z
    rw [nI_toInt (by omega), show (-4 : Int32).toInt = -4 from by decide] at z2
    omega
/-- the relation's common part -/
def sq_W (n st w : Nat) (tn : Nat → Nat) (ti ki re : Nat → Int32) : Prop := n ≤ 10 ∧ st ≤ 4 ∧ w ≤ 40 ∧ (∀ i, i < n → ti i = nI (tn i)) ∧ (∀ i j, i ≤ j → j < n → tn i ≤ tn j) ∧ (∀ i, i < n → tn i ≤ 5 * (i + 1)) ∧ (∀ i, ki i = 0 ∨ ki i = 1 ∨ ki i = 2 ∨ ki i = 3 ∨ ki i = 4) ∧ (∀ i, re i = 0 ∨ re i = 1)
theorem sq_near {n st w : Nat} {tn : Nat → Nat} {ti ki re : Nat → Int32} (H : sq_W n st w tn ti ki re) {f l : Nat} (hf : f ≤ l) (hl : l < n) : ti l - ti f = nI (tn l - tn f) ∧ tn l - tn f < 2 ^ 31 := by
  obtain ⟨h1, h2, h3, h4, h5, h6, h7, h8⟩ := H
  have a := h5 f l hf hl
  have b := h6 l hl
  rw [h4 l hl, h4 f (by omega), pk_sub a]
  exact ⟨rfl, by omega⟩
theorem sq_nearI {n st w : Nat} {tn : Nat → Nat} {ti ki re : Nat → Int32} (H : sq_W n st w tn ti ki re) {f l : Nat} (hf : f ≤ l) (hl : l < n) : ti l - ti f ≤ nI w ↔ tn l - tn f ≤ w := by
  have h := sq_near H hf hl
  have hw := H.2.2.1
  rw [h.1]
  exact nI_leI h.2 (by omega)
end
section
/-! the component: a step's test, lengthen, growTo -/
variable {n st w : Nat} {tn : Nat → Nat} {ty va ti sT bo ki re : Nat → Int32}
theorem sq_ki {H : sq_W n st w tn ti ki re} (k : Nat) : ki k = 0 ∨ ki k = 1 ∨ ki k = 2 ∨ ki k = 3 ∨ ki k = 4 := H.2.2.2.2.2.2.1 k
theorem sq_re {H : sq_W n st w tn ti ki re} (k : Nat) : re k = 0 ∨ re k = 1 := H.2.2.2.2.2.2.2 k
theorem sq_kp0 {f e k b : Nat} (h : ki k = 0) : sq_kp va bo ki f e k b = true := by
  unfold sq_kp; rw [h]; rfl
theorem sq_kp1 {f e k b : Nat} (h : ki k = 1) : sq_kp va bo ki f e k b = (decide (e = f) || decide (va b < va e)) := by
  unfold sq_kp; rw [if_pos h]
theorem sq_kp2 {f e k b : Nat} (h : ki k = 2) : sq_kp va bo ki f e k b = (decide (e = f) || decide (va e < va b)) := by
  unfold sq_kp; rw [h, if_neg (by decide), if_pos rfl]
theorem sq_kp3 {f e k b : Nat} (h : ki k = 3) : sq_kp va bo ki f e k b = decide (va e = bo k) := by
  unfold sq_kp; rw [h, if_neg (by decide), if_neg (by decide), if_pos rfl]
theorem sq_kp4 {f e k b : Nat} (h : ki k = 4) : sq_kp va bo ki f e k b = decide (va e = va f) := by
  unfold sq_kp; rw [h, if_neg (by decide), if_neg (by decide), if_neg (by decide), if_pos rfl]
theorem sq_d1 {P : Int32 → Prop} {b : Bool} (h : P (sq_bi b)) (e : b = true) : P 1 := by rw [e] at h; exact h
theorem sq_d0 {P : Int32 → Prop} {b : Bool} (h : P (sq_bi b)) (e : b = false) : P 0 := by rw [e] at h; exact h
theorem sq_dt {p : Prop} {d : Decidable p} (h : p) : decide p = true := decide_eq_true h
theorem sq_df {p : Prop} {d : Decidable p} (h : ¬ p) : decide p = false := decide_eq_false h
theorem xq_s27 {post : Int32 → Prop} {e k b f : Nat} {wa le : Nat → Int32} (H : sq_W n st w tn ti ki re) (he : e < 10) (hk : k < 4) (hb : b < 10) (hf : f < 10) (h : post (sq_bi (sq_kp va bo ki f e k b))) : wX_suits_27 post (nI e) (nI k) (nI b) (nI f) (nI n) (nI st) (nI w) ty va ti sT bo ki re wa le := by
  have ek : (nI k).toNatClampNeg = k := nI_clamp (by omega)
  have ee : (nI e).toNatClampNeg = e := nI_clamp (by omega)
  have eb : (nI b).toNatClampNeg = b := nI_clamp (by omega)
  have ef : (nI f).toNatClampNeg = f := nI_clamp (by omega)
  have vk : vp_in (nI k) 4 := vp_in_nI hk (by omega)
  have ve : vp_in (nI e) 10 := vp_in_nI he (by omega)
  have vb : vp_in (nI b) 10 := vp_in_nI hb (by omega)
  have vf : vp_in (nI f) 10 := vp_in_nI hf (by omega)
  have q1 : nI e = nI f ↔ e = f := nI_eq (by omega) (by omega)
  unfold wX_suits_27
  rw [ek, ee, eb, ef]
  refine ⟨vk, ?_⟩
  rcases sq_ki (H := H) k with c | c | c | c | c
  · refine nm_r c (br_t (by decide) ?_)
    exact sq_d1 h (sq_kp0 c)
  · rw [sq_kp1 c] at h
    refine nm_r c (br_f (by decide) (br_f (by decide) (br_t rfl (br_c (fun q => ?_) (fun q => ⟨ve, vb, br_c (fun q2 => ?_) (fun q2 => ?_)⟩)))))
    · exact sq_d1 h (by rw [decide_eq_true (q1.mp q)]; rfl)
    · exact sq_d0 h (by rw [decide_eq_false (fun z => q (q1.mpr z)), decide_eq_false (fun z => absurd q2 (Int32.not_le.mpr z))]; rfl)
    · exact sq_d1 h (by rw [decide_eq_true (Int32.not_le.mp q2)]; simp)
  · rw [sq_kp2 c] at h
    refine nm_r c (br_f (by decide) (br_f (by decide) (br_f (by decide) (br_t rfl (br_c (fun q => ?_) (fun q => ⟨ve, vb, br_c (fun q2 => ?_) (fun q2 => ?_)⟩))))))
    · exact sq_d1 h (by rw [decide_eq_true (q1.mp q)]; rfl)
    · exact sq_d0 h (by rw [decide_eq_false (fun z => q (q1.mpr z)), decide_eq_false (fun z => absurd q2 (Int32.not_le.mpr z))]; rfl)
    · exact sq_d1 h (by rw [decide_eq_true (Int32.not_le.mp q2)]; simp)
  · rw [sq_kp3 c] at h
    refine nm_r c (br_f (by decide) (br_f (by decide) (br_f (by decide) (br_f (by decide) (br_t rfl ⟨ve, vk, br_c (fun q => ?_) (fun q => ?_)⟩)))))
    · exact sq_d1 h (decide_eq_true q)
    · exact sq_d0 h (decide_eq_false q)
  · rw [sq_kp4 c] at h
    refine nm_r c (br_f (by decide) (br_f (by decide) (br_f (by decide) (br_f (by decide) (br_f (by decide) (br_t rfl ⟨ve, vf, br_c (fun q => ?_) (fun q => ?_)⟩))))))
    · exact sq_d1 h (decide_eq_true q)
    · exact sq_d0 h (decide_eq_false q)
theorem xq_suits {post : Int32 → Prop} {e k b f : Nat} {wa le : Nat → Int32} (H : sq_W n st w tn ti ki re) (he : e < 10) (hk : k < 4) (hb : b < 10) (hf : f < 10) (h : post (sq_bi ((sq_mt ty va sT bo ki) f e k b))) : wpX_suits post (nI n, nI st, nI w, ty, va, ti, sT, bo, ki, re, wa, le) (nI e) (nI k) (nI b) (nI f) := by
  have ek : (nI k).toNatClampNeg = k := nI_clamp (by omega)
  have ee : (nI e).toNatClampNeg = e := nI_clamp (by omega)
  have vk : vp_in (nI k) 4 := vp_in_nI hk (by omega)
  have ve : vp_in (nI e) 10 := vp_in_nI he (by omega)
  unfold wpX_suits
  try dsimp only
  rw [ek, ee]
  unfold sq_mt at h
  refine ⟨vk, br_c (fun q => ?_) (fun q => ⟨vk, ve, br_c (fun q2 => ?_) (fun q2 => ?_)⟩)⟩
  · rw [decide_eq_true q] at h
    exact xq_s27 H he hk hb hf h
  · rw [decide_eq_true q2.symm, Bool.or_true] at h
    exact xq_s27 H he hk hb hf h
  · exact sq_d0 h (by rw [decide_eq_false q, decide_eq_false (fun z => q2 z.symm)]; rfl)
theorem xq_len {post : SX → Prop} {a b ga gb da db : Nat} {wa le : Nat → Int32} (ha : a < 40) (hb : b < 40) (ea : wa a = nI ga) (eb : wa b = nI gb) (la : le a = nI da) (lb : le b = nI db) (h1 : ga < 2 ^ 30) (h2 : da < 2 ^ 30) (h3 : db < 2 ^ 30)
    (h : ∀ wa' le' : Nat → Int32, (∀ i, i ≠ b → wa' i = wa i ∧ le' i = le i) → wa' b = nI (gb + ga) → le' b = nI (sq_ln db ga da) → post (nI n, nI st, nI w, ty, va, ti, sT, bo, ki, re, wa', le')) : wpX_lengthen post (nI n, nI st, nI w, ty, va, ti, sT, bo, ki, re, wa, le) (nI a) (nI b) := by
  have e1 : (nI a).toNatClampNeg = a := nI_clamp (by omega)
  have e2 : (nI b).toNatClampNeg = b := nI_clamp (by omega)
  have va' : vp_in (nI a) 40 := vp_in_nI ha (by omega)
  have vb' : vp_in (nI b) 40 := vp_in_nI hb (by omega)
  unfold wpX_lengthen
  try dsimp only
  rw [e1, e2, ea, eb, la, lb]
  refine ⟨va', br_c (fun q => ?_) (fun q => ⟨vb', va', vb', nm_e ⟨va', vb', br_c (fun q2 => ?_) (fun q2 => ⟨va', vb', nm_e ?_⟩)⟩⟩)⟩
  · have z : ga = 0 := (nI_eq (by omega) (by omega)).mp (q.trans nI_0.symm)
    refine h wa le (fun _ _ => ⟨rfl, rfl⟩) ?_ ?_
    · rw [eb, z]; rfl
    · rw [lb, z]; rfl
  · have z : ga ≠ 0 := fun z => q (by rw [z]; exact nI_0)
    have z2 : da < db := (nI_ltI (by omega) (by omega)).mp q2
    refine h _ le (fun i hi => ⟨pk_un hi, rfl⟩) ?_ ?_
    · rw [pk_us, nI_add]
    · rw [lb]; unfold sq_ln; rw [if_neg z, Nat.max_eq_left (by omega)]
  · have z : ga ≠ 0 := fun z => q (by rw [z]; exact nI_0)
    have z2 : ¬ da < db := fun z => q2 ((nI_ltI (by omega) (by omega)).mpr z)
    refine h _ _ (fun i hi => ⟨pk_un hi, pk_un hi⟩) ?_ ?_
    · rw [pk_us, nI_add]
    · rw [pk_us, nI_1]; unfold sq_ln; rw [if_neg z, Nat.max_eq_right (by omega)]
end
section
/-! the component: growTo -/
variable {n st w : Nat} {tn : Nat → Nat} {ty va ti sT bo ki re : Nat → Int32}
def xq_fr (to : Nat) (wa le wa' le' : Nat → Int32) : Prop := ∀ i, i ≠ to → wa' i = wa i ∧ le' i = le i
/-- what growTo finds in the cells ahead of e -/
def xq_A (M : Nat → Nat → Nat → Nat → Bool) (R : Nat → Bool) (st f o e : Nat) (wa le : Nat → Int32) : Prop := ∀ l k, f ≤ l → l < e → k < st → wa (l * 4 + k) = nI (sq_G M R f o l k l) ∧ le (l * 4 + k) = nI (sq_D M R f o l k l)
theorem sq_ln_le {d g x c : Nat} (h1 : d ≤ c) (h2 : x + 1 ≤ c) : sq_ln d g x ≤ c := by
  unfold sq_ln
  split
  · omega
  · omega
theorem xq_68 {post : SX → Prop} {J2 J20 : Int32 → Int32 → Int32 → Int32 → (Nat → Int32) → (Nat → Int32) → (Nat → Int32) → (Nat → Int32) → (Nat → Int32) → (Nat → Int32) → (Nat → Int32) → (Nat → Int32) → (Nat → Int32) → Prop} {e f o k m g1 d1 : Nat} {wa le wa' le' : Nat → Int32} (he : e < 10) (hfm : f ≤ m) (hm : m < e) (hk : k < st) (hst : st ≤ 4) (hA : xq_A (sq_mt ty va sT bo ki) (sq_R re) st f o e wa le) (fr : xq_fr (e * 4 + k) wa le wa' le') (hg : wa' (e * 4 + k) = nI g1) (hd : le' (e * 4 + k) = nI d1) (hd1 : d1 ≤ 11)
    (h : ∀ wa2 le2 : Nat → Int32, xq_fr (e * 4 + k) wa le wa2 le2 → wa2 (e * 4 + k) = nI (g1 + (if k = 0 then 0 else sq_G (sq_mt ty va sT bo ki) (sq_R re) f o m (k - 1) m)) → le2 (e * 4 + k) = nI (if k = 0 then d1 else sq_ln d1 (sq_G (sq_mt ty va sT bo ki) (sq_R re) f o m (k - 1) m) (sq_D (sq_mt ty va sT bo ki) (sq_R re) f o m (k - 1) m)) → J20 (nI (m + 1)) (nI n) (nI st) (nI w) ty va ti sT bo ki re wa2 le2) :
    wX_growTo_68 post J2 J20 (nI e) (nI f) (nI k) (nI (e * 4 + k)) (nI m) (nI (m * 4 + k)) 1 (nI n) (nI st) (nI w) ty va ti sT bo ki re wa' le' := by
  unfold wX_growTo_68
  refine br_f (by decide) (br_c (fun q => nm_r (nI_1 m) ?_) (fun q => ?_))
  · have z : k = 0 := by
      have := (nI_leI (b := 0) (show k < 2 ^ 31 by omega) (by omega)).mp q
      omega
    refine h wa' le' fr ?_ ?_
    · rw [hg, if_pos z]; rfl
    · rw [hd, if_pos z]
  · have z : k ≠ 0 := fun z => q (by rw [z]; decide)
    obtain ⟨j, rfl⟩ : ∃ j, k = j + 1 := ⟨k - 1, by omega⟩
    have e1 : nI (m * 4 + (j + 1)) - 1 = nI (m * 4 + j) := nI_pred (m * 4 + j)
    have c := hA m j hfm hm (by omega)
    have ne : m * 4 + j ≠ e * 4 + (j + 1) := by omega
    have f1 := fr _ ne
    rw [e1]
    have b1 := sq_G_le (M := (sq_mt ty va sT bo ki)) (R := (sq_R re)) (f := f) (o := o) (k := j) (show m < 10 by omega) (Nat.le_refl m)
    have b2 := sq_D_le (M := (sq_mt ty va sT bo ki)) (R := (sq_R re)) (f := f) (o := o) (k := j) (show m < 10 by omega) (Nat.le_refl m)
    refine xq_len (by omega) (by omega) (f1.1.trans c.1) hg (f1.2.trans c.2) hd (by omega) (by omega) (by omega) ?_
    intro wa2 le2 fr2 hg2 hd2
    refine nm_r (nI_1 m) (h wa2 le2 (fun i hi => ?_) ?_ ?_)
    · have x := fr2 i hi
      have y := fr i hi
      exact ⟨x.1.trans y.1, x.2.trans y.2⟩
    · rw [hg2, if_neg z]; rfl
    · rw [hd2, if_neg z]; rfl
theorem xq_20 {post : SX → Prop} {J2 : Int32 → Int32 → Int32 → Int32 → (Nat → Int32) → (Nat → Int32) → (Nat → Int32) → (Nat → Int32) → (Nat → Int32) → (Nat → Int32) → (Nat → Int32) → (Nat → Int32) → (Nat → Int32) → Prop} {e f o k : Nat} {wa le : Nat → Int32} (H : sq_W n st w tn ti ki re) (he : e < 10) (hk : k < st) (ho : o ≠ e) (hA : xq_A (sq_mt ty va sT bo ki) (sq_R re) st f o e wa le)
    (h : ∀ wa2 le2 : Nat → Int32, xq_fr (e * 4 + k) wa le wa2 le2 → wa2 (e * 4 + k) = nI (sq_G (sq_mt ty va sT bo ki) (sq_R re) f o e k e) → le2 (e * 4 + k) = nI (sq_D (sq_mt ty va sT bo ki) (sq_R re) f o e k e) → J2 (nI (k + 1)) (nI n) (nI st) (nI w) ty va ti sT bo ki re wa2 le2) :
    ∀ (d m : Nat) (wa' le' : Nat → Int32), m + d = e → f ≤ m → xq_fr (e * 4 + k) wa le wa' le' → wa' (e * 4 + k) = nI (sq_G (sq_mt ty va sT bo ki) (sq_R re) f o e k m) → le' (e * 4 + k) = nI (sq_D (sq_mt ty va sT bo ki) (sq_R re) f o e k m) → wX_growTo_20 post J2 (nI e) (nI f) (nI k) (nI (e * 4 + k)) (d + 1) (nI m) (nI n) (nI st) (nI w) ty va ti sT bo ki re wa' le' := by
  have hst : st ≤ 4 := H.2.1
  intro d
  induction d with
  | zero =>
    intro m wa' le' hm _ fr hg hd
    have z : m = e := by omega
    subst z
    rw [wX_growTo_20]
    exact br_t (nI_le (Nat.le_refl _) (by omega)) (nm_r (nI_1 k) (h wa' le' fr hg hd))
  | succ d ih =>
    intro m wa' le' hm hfm fr hg hd
    rw [wX_growTo_20]
    have vk : vp_in (nI k) 4 := vp_in_nI (by omega) (by omega)
    have ek : (nI k).toNatClampNeg = k := nI_clamp (by omega)
    have e6 : nI m * 4 + nI k = nI (m * 4 + k) := by
      rw [← nI_add, ← pk_mul]; rfl
    refine br_f (nI_ge (by omega) (by omega)) (nm_r e6 (xq_suits H he (by omega) (by omega) (by omega) ?_))
    have b1 := sq_G_le (M := (sq_mt ty va sT bo ki)) (R := (sq_R re)) (f := f) (o := o) (k := k) (show m < 10 by omega) (Nat.le_refl m)
    have b2 := sq_D_le (M := (sq_mt ty va sT bo ki)) (R := (sq_R re)) (f := f) (o := o) (k := k) (show m < 10 by omega) (Nat.le_refl m)
    have b3 := sq_D_le (M := (sq_mt ty va sT bo ki)) (R := (sq_R re)) (f := f) (o := o) (k := k) he (show m ≤ e by omega)
    cases a : (sq_mt ty va sT bo ki) f e k m
    · refine br_t rfl ?_
      unfold wX_growTo_68
      refine br_t rfl (nm_r (nI_1 m) (ih (m + 1) wa' le' (by omega) (by omega) fr ?_ ?_))
      · rw [hg, sq_G_n he (by omega) ho (by rw [a]; decide)]
      · rw [hd, sq_D_n he (by omega) ho (by rw [a]; decide)]
    · refine br_f (by decide) ⟨vk, ?_⟩
      rw [ek]
      refine br_c (fun q => ?_) (fun q => ?_)
      · have r : (sq_R re) k = true := decide_eq_true q
        have c := hA m k hfm (by omega) hk
        have ne : m * 4 + k ≠ e * 4 + k := by omega
        have f1 := fr _ ne
        refine xq_len (by omega) (by omega) (f1.1.trans c.1) hg (f1.2.trans c.2) hd (by omega) (by omega) (by omega) ?_
        intro wa1 le1 fr1 hg1 hd1
        refine xq_68 he hfm (by omega) hk hst hA (fun i hi => ?_) hg1 hd1 (sq_ln_le (by omega) (by omega)) ?_
        · have x := fr1 i hi
          have y := fr i hi
          exact ⟨x.1.trans y.1, x.2.trans y.2⟩
        · intro wa2 le2 fr2 hg2 hd2
          refine ih (m + 1) wa2 le2 (by omega) (by omega) fr2 ?_ ?_
          · rw [hg2, sq_G_y he (by omega) ho a, if_pos r]
          · rw [hd2, sq_D_y he (by omega) ho a, if_pos r]
      · have r : ¬ (sq_R re) k = true := fun z => q (of_decide_eq_true z)
        refine xq_68 he hfm (by omega) hk hst hA fr hg hd (by omega) ?_
        intro wa2 le2 fr2 hg2 hd2
        refine ih (m + 1) wa2 le2 (by omega) (by omega) fr2 ?_ ?_
        · rw [hg2, sq_G_y he (by omega) ho a, if_neg r]; rfl
        · rw [hd2, sq_D_y he (by omega) ho a, if_neg r]
/-- growTo: the row of e filled, the others as they were -/
theorem xq_2 {post : SX → Prop} {e f o : Nat} {wa le : Nat → Int32} (H : sq_W n st w tn ti ki re) (he : e < 10) (hfe : f < e) (ho : o ≠ e) (hA : xq_A (sq_mt ty va sT bo ki) (sq_R re) st f o e wa le)
    (h : ∀ wa2 le2 : Nat → Int32, (∀ i, i < e * 4 ∨ e * 4 + 4 ≤ i → wa2 i = wa i ∧ le2 i = le i) → (∀ k, k < st → wa2 (e * 4 + k) = nI (sq_G (sq_mt ty va sT bo ki) (sq_R re) f o e k e) ∧ le2 (e * 4 + k) = nI (sq_D (sq_mt ty va sT bo ki) (sq_R re) f o e k e)) → post (nI n, nI st, nI w, ty, va, ti, sT, bo, ki, re, wa2, le2)) :
    ∀ (d k : Nat) (wa' le' : Nat → Int32), k + d = st → (∀ i, i < e * 4 ∨ e * 4 + 4 ≤ i → wa' i = wa i ∧ le' i = le i) → (∀ j, j < k → wa' (e * 4 + j) = nI (sq_G (sq_mt ty va sT bo ki) (sq_R re) f o e j e) ∧ le' (e * 4 + j) = nI (sq_D (sq_mt ty va sT bo ki) (sq_R re) f o e j e)) → (∀ j, k ≤ j → j < 4 → wa' (e * 4 + j) = 0 ∧ le' (e * 4 + j) = 0) → wX_growTo_2 post (nI e) (nI f) (d + 1) (nI k) (nI n) (nI st) (nI w) ty va ti sT bo ki re wa' le' := by
  have hst : st ≤ 4 := H.2.1
  intro d
  induction d with
  | zero =>
    intro k wa' le' hk h1 h2 _
    have z : k = st := by omega
    subst z
    rw [wX_growTo_2]
    exact br_t (nI_le (Nat.le_refl _) (by omega)) (h wa' le' h1 h2)
  | succ d ih =>
    intro k wa' le' hk h1 h2 h3
    rw [wX_growTo_2]
    have e6 : nI e * 4 + nI k = nI (e * 4 + k) := by
      rw [← nI_add, ← pk_mul]; rfl
    have hA' : xq_A (sq_mt ty va sT bo ki) (sq_R re) st f o e wa' le' := by
      intro l j hl hle hj
      have x := h1 (l * 4 + j) (Or.inl (by omega))
      have y := hA l j hl hle hj
      exact ⟨x.1.trans y.1, x.2.trans y.2⟩
    have z := h3 k (Nat.le_refl k) (by omega)
    refine br_f (nI_ge (by omega) (by omega)) (nm_r e6 ⟨e - f + 1, xq_20 H he (by omega) ho hA' ?_ (e - f) f wa' le' (by omega) (Nat.le_refl f) (fun _ _ => ⟨rfl, rfl⟩) ?_ ?_⟩)
    · intro wa2 le2 fr hg hd
      refine ih (k + 1) wa2 le2 (by omega) (fun i hi => ?_) (fun j hj => ?_) (fun j hj hj4 => ?_)
      · have x := fr i (by omega)
        have y := h1 i hi
        exact ⟨x.1.trans y.1, x.2.trans y.2⟩
      · by_cases c : j = k
        · subst c; exact ⟨hg, hd⟩
        · have x := fr (e * 4 + j) (by omega)
          have y := h2 j (by omega)
          exact ⟨x.1.trans y.1, x.2.trans y.2⟩
      · have x := fr (e * 4 + j) (by omega)
        have y := h3 j (by omega) hj4
        exact ⟨x.1.trans y.1, x.2.trans y.2⟩
    · rw [z.1, sq_G_0 he hfe]; rfl
    · rw [z.2, sq_D_0 he hfe]; rfl
theorem xq_growTo {post : SX → Prop} {e f o : Nat} {wa le : Nat → Int32} (H : sq_W n st w tn ti ki re) (he : e < 10) (hfe : f < e) (ho : o ≠ e) (hA : xq_A (sq_mt ty va sT bo ki) (sq_R re) st f o e wa le) (h0 : ∀ j, j < 4 → wa (e * 4 + j) = 0 ∧ le (e * 4 + j) = 0)
    (h : ∀ wa2 le2 : Nat → Int32, (∀ i, i < e * 4 ∨ e * 4 + 4 ≤ i → wa2 i = wa i ∧ le2 i = le i) → (∀ k, k < st → wa2 (e * 4 + k) = nI (sq_G (sq_mt ty va sT bo ki) (sq_R re) f o e k e) ∧ le2 (e * 4 + k) = nI (sq_D (sq_mt ty va sT bo ki) (sq_R re) f o e k e)) → post (nI n, nI st, nI w, ty, va, ti, sT, bo, ki, re, wa2, le2)) : wpX_growTo post (nI n, nI st, nI w, ty, va, ti, sT, bo, ki, re, wa, le) (nI e) (nI f) :=
  ⟨st + 1, xq_2 H he hfe ho hA h st 0 wa le (by omega) (fun _ _ => ⟨rfl, rfl⟩) (fun j hj => absurd hj (Nat.not_lt_zero j)) (fun j _ hj => h0 j hj)⟩
end
section
/-! the component: growFrom -/
theorem sq_Ibit {n : Nat} (hn : n ≤ 10) : ∀ s, s < 2 ^ n → s ≠ 0 → s.testBit (sq_I s) = true := by
  refine sq_ind n (fun z => absurd rfl z) ?_
  intro e s he hs ih _
  rw [sq_Is (by omega) hs]
  by_cases h0 : sq_L s = 0
  · rw [if_pos h0]; exact sq_hi hs
  · rw [if_neg h0]
    have hz : s ≠ 0 := fun z => h0 (by rw [z]; exact sq_L0)
    have h1 := sq_Ilt' (n := e) (by omega) hs hz
    rw [sq_bit hs (by omega)]
    exact ih hz
theorem sq_Vdead (M : Nat → Nat → Nat → Nat → Bool) (R : Nat → Bool) {n : Nat} (hn : n ≤ 10) : ∀ s, s < 2 ^ n → s ≠ 0 → M (sq_I s) (sq_I s) 0 (sq_I s) = false → ∀ k, sq_V M R s k = 0 := by
  refine sq_ind n (fun z => absurd rfl z) ?_
  intro e s he hs ih _ hM k
  rw [sq_Is (by omega) hs] at hM
  rw [sq_Vs M R (by omega) hs]
  unfold sq_nx
  by_cases h0 : sq_L s = 0
  · rw [if_pos h0] at hM
    rw [if_pos h0, if_neg]
    intro z
    rw [hM] at z
    exact nomatch z.2
  · rw [if_neg h0] at hM
    have hz : s ≠ 0 := fun z => h0 (by rw [z]; exact sq_L0)
    have v := ih hz hM
    rw [if_neg h0, v k, v (k - 1)]
    repeat' split
    all_goals rfl
def sq_dead (M : Nat → Nat → Nat → Nat → Bool) (f o : Nat) : Prop := f = o ∨ M f f 0 f = false
theorem sq_u_dead {M : Nat → Nat → Nat → Nat → Bool} {R : Nat → Bool} {f o k t : Nat} (h : sq_dead M f o) (ht : t < 2 ^ 10) (h0 : t ≠ 0) : sq_u M R f o k t = 0 := by
  unfold sq_u
  by_cases c : sq_I t = f ∧ t.testBit o = false
  · rw [if_pos c]
    rcases h with h | h
    · have b := sq_Ibit (n := 10) (by decide) t ht h0
      rw [c.1, h, c.2] at b
      exact nomatch b
    · refine sq_Vdead M R (n := 10) (by decide) t ht h0 ?_ k
      rw [c.1]; exact h
  · rw [if_neg c]
theorem sq_G_dead {M : Nat → Nat → Nat → Nat → Bool} {R : Nat → Bool} {f o k l : Nat} (h : sq_dead M f o) (hl : l < 10) : sq_G M R f o l k l = 0 := by
  have hp := Nat.two_pow_pos l
  exact sq_fo_zero sq_oa fun i hi => sq_u_dead h (sq_p10 hl hi) (by omega)
theorem sq_G_o {M : Nat → Nat → Nat → Nat → Bool} {R : Nat → Bool} {f k l : Nat} (_ : l < 10) : sq_G M R f l l k l = 0 := by
  refine sq_fo_zero sq_oa fun i hi => ?_
  try dsimp only
  unfold sq_u
  rw [sq_hi hi, if_neg (fun c => nomatch c.2)]
def sq_Ck (M : Nat → Nat → Nat → Nat → Bool) (R : Nat → Bool) (tn : Nat → Nat) (w f o l k : Nat) : Nat := if tn l - tn f ≤ w then sq_G M R f o l k l else 0
def sq_Ek (M : Nat → Nat → Nat → Nat → Bool) (R : Nat → Bool) (tn : Nat → Nat) (w f o l k : Nat) : Nat := if tn l - tn f ≤ w then sq_D M R f o l k l else 0
theorem sq_Ckn {M : Nat → Nat → Nat → Nat → Bool} {R : Nat → Bool} {tn : Nat → Nat} {w f o l k : Nat} (h : tn l - tn f ≤ w) : sq_Ck M R tn w f o l k = sq_G M R f o l k l ∧ sq_Ek M R tn w f o l k = sq_D M R f o l k l := ⟨if_pos h, if_pos h⟩
theorem sq_Ckz {M : Nat → Nat → Nat → Nat → Bool} {R : Nat → Bool} {tn : Nat → Nat} {w f o l k : Nat} (h : tn l - tn f ≤ w → sq_G M R f o l k l = 0) : sq_Ck M R tn w f o l k = 0 ∧ sq_Ek M R tn w f o l k = 0 := by
  unfold sq_Ck sq_Ek
  by_cases c : tn l - tn f ≤ w
  · rw [if_pos c, if_pos c]; exact ⟨h c, sq_D_z (h c)⟩
  · rw [if_neg c, if_neg c]; exact ⟨rfl, rfl⟩
def xq_P (M : Nat → Nat → Nat → Nat → Bool) (R : Nat → Bool) (tn : Nat → Nat) (w st n f o : Nat) (wa le : Nat → Int32) : Prop := ∀ l k, f ≤ l → l < n → k < st → wa (l * 4 + k) = nI (sq_Ck M R tn w f o l k) ∧ le (l * 4 + k) = nI (sq_Ek M R tn w f o l k)
variable {n st w : Nat} {tn : Nat → Nat} {ty va ti sT bo ki re : Nat → Int32}
theorem xq_74 {post : SX → Prop} {f o : Nat} {lo : Int32} (H : sq_W n st w tn ti ki re) (hlo : ∀ e, e < 10 → (nI e = lo ↔ e = o)) (h : ∀ wa' le' : Nat → Int32, xq_P (sq_mt ty va sT bo ki) (sq_R re) tn w st n f o wa' le' → post (nI n, nI st, nI w, ty, va, ti, sT, bo, ki, re, wa', le')) :
    ∀ (d e : Nat) (wa le : Nat → Int32), e + d = n → f < e → xq_P (sq_mt ty va sT bo ki) (sq_R re) tn w st e f o wa le → (∀ l k, e ≤ l → l < 10 → k < 4 → wa (l * 4 + k) = 0 ∧ le (l * 4 + k) = 0) → wX_growFrom_74 post (nI f) lo (d + 1) (nI e) (nI n) (nI st) (nI w) ty va ti sT bo ki re wa le := by
  have hn : n ≤ 10 := H.1
  have hst : st ≤ 4 := H.2.1
  have hw : w ≤ 40 := H.2.2.1
  have mono := H.2.2.2.2.1
  intro d
  induction d with
  | zero =>
    intro e wa le he _ hP _
    have z : e = n := by omega
    subst z
    rw [wX_growFrom_74]
    exact br_t (nI_le (Nat.le_refl _) (by omega)) (h wa le hP)
  | succ d ih =>
    intro e wa le he hfe hP hZ
    rw [wX_growFrom_74]
    have ve : vp_in (nI e) 10 := vp_in_nI (by omega) (by omega)
    have vf : vp_in (nI f) 10 := vp_in_nI (by omega) (by omega)
    have ee : (nI e).toNatClampNeg = e := nI_clamp (by omega)
    have ef : (nI f).toNatClampNeg = f := nI_clamp (by omega)
    have skip : (∀ k, tn e - tn f ≤ w → sq_G (sq_mt ty va sT bo ki) (sq_R re) f o e k e = 0) → wX_growFrom_74 post (nI f) lo (d + 1) (nI (e + 1)) (nI n) (nI st) (nI w) ty va ti sT bo ki re wa le := by
      intro hz
      refine ih (e + 1) wa le (by omega) (by omega) ?_ (fun l k hl hl2 hk => hZ l k (by omega) hl2 hk)
      intro l k hl hl2 hk
      by_cases c : l = e
      · subst c
        have a := hZ l k (Nat.le_refl l) (by omega) (by omega)
        have b := sq_Ckz (hz k)
        rw [a.1, a.2, b.1, b.2]
        exact ⟨rfl, rfl⟩
      · exact hP l k hl (by omega) hk
    dsimp only
    rw [ee, ef]
    refine br_f (nI_ge (by omega) (by omega)) (br_c (fun q => nm_r (nI_1 e) ?_) (fun q => ⟨ve, vf, br_c (fun q2 => nm_r (nI_1 e) ?_) (fun q2 => ?_)⟩))
    · have z := (hlo e (by omega)).mp q
      refine skip (fun k _ => ?_)
      rw [← z]
      exact sq_G_o (by omega)
    · refine skip (fun k z => ?_)
      have a := (sq_nearI H (show f ≤ e by omega) (by omega)).mpr z
      exact absurd q2 (Int32.not_lt.mpr a)
    · have near : tn e - tn f ≤ w := (sq_nearI H (show f ≤ e by omega) (by omega)).mp (Int32.not_lt.mp q2)
      have ho : o ≠ e := fun z => q ((hlo e (by omega)).mpr z.symm)
      refine xq_growTo H (by omega) hfe ho ?_ (fun j hj => hZ e j (Nat.le_refl e) (by omega) hj) ?_
      · intro l k hl hle hk
        have a := hP l k hl hle hk
        have m := mono l e (by omega) (by omega)
        have b := sq_Ckn (M := (sq_mt ty va sT bo ki)) (R := (sq_R re)) (o := o) (k := k) (show tn l - tn f ≤ w by omega)
        rw [b.1, b.2] at a
        exact a
      · intro wa2 le2 fr cl
        refine nm_r (nI_1 e) (ih (e + 1) wa2 le2 (by omega) (by omega) ?_ ?_)
        · intro l k hl hl2 hk
          by_cases c : l = e
          · subst c
            have b := sq_Ckn (M := (sq_mt ty va sT bo ki)) (R := (sq_R re)) (o := o) (k := k) near
            rw [b.1, b.2]
            exact cl k hk
          · have x := fr (l * 4 + k) (Or.inl (by omega))
            have y := hP l k hl (by omega) hk
            exact ⟨x.1.trans y.1, x.2.trans y.2⟩
        · intro l k hl hl2 hk
          have x := fr (l * 4 + k) (Or.inr (by omega))
          have y := hZ l k (by omega) hl2 hk
          exact ⟨x.1.trans y.1, x.2.trans y.2⟩
theorem xq_gf2 {post : SX → Prop} {f o : Nat} {lo : Int32} (H : sq_W n st w tn ti ki re) (hf : f < n) (hlo : ∀ e, e < 10 → (nI e = lo ↔ e = o)) (h : ∀ wa' le' : Nat → Int32, xq_P (sq_mt ty va sT bo ki) (sq_R re) tn w st n f o wa' le' → post (nI n, nI st, nI w, ty, va, ti, sT, bo, ki, re, wa', le')) :
    ∀ (d i : Nat) (wa le : Nat → Int32), i + d = 40 → (∀ j, j < i → wa j = 0 ∧ le j = 0) → wX_growFrom_2 post (nI f) lo (nI n) (nI st) (nI w) (d + 1) (nI i) ty va ti sT bo ki re wa le := by
  have hn : n ≤ 10 := H.1
  have hst : st ≤ 4 := H.2.1
  intro d
  induction d with
  | zero =>
    intro i wa le hi hz
    have z : i = 40 := by omega
    subst z
    rw [wX_growFrom_2]
    have e4 : nI f * 4 = nI (f * 4) := pk_mul f 4
    have v4 : vp_in (nI (f * 4)) 40 := vp_in_nI (by omega) (by omega)
    have c4 : (nI (f * 4)).toNatClampNeg = f * 4 := nI_clamp (by omega)
    have dead : st = 0 ∨ sq_dead (sq_mt ty va sT bo ki) f o → post (nI n, nI st, nI w, ty, va, ti, sT, bo, ki, re, wa, le) := by
      intro dd
      refine h wa le (fun l k hl hl2 hk => ?_)
      have a := hz (l * 4 + k) (by omega)
      rcases dd with dd | dd
      · omega
      · have b := sq_Ckz (M := (sq_mt ty va sT bo ki)) (R := (sq_R re)) (tn := tn) (w := w) (fun _ => sq_G_dead (k := k) dd (show l < 10 by omega))
        rw [a.1, a.2, b.1, b.2]
        exact ⟨rfl, rfl⟩
    rw [e4, c4]
    refine br_t (nI_le (a := 40) (Nat.le_refl 40) (by omega)) (br_c (fun q => dead (Or.inl ?_)) (fun q => br_c (fun q2 => dead (Or.inr (Or.inl ((hlo f (by omega)).mp q2)))) (fun q2 => ?_)))
    · exact (nI_eq (b := 0) (show st < 2 ^ 31 by omega) (by omega)).mp q
    · refine xq_suits (k := 0) H (by omega) (by omega) (by omega) (by omega) ?_
      cases a : (sq_mt ty va sT bo ki) f f 0 f
      · exact br_t rfl (dead (Or.inr (Or.inr a)))
      · have ho : f ≠ o := fun z => q2 ((hlo f (by omega)).mpr z)
        refine br_f (by decide) ⟨v4, nm_e ⟨v4, nm_e (nm_r (nI_1 f) ⟨n - (f + 1) + 1, xq_74 H hlo h (n - (f + 1)) (f + 1) _ _ (by omega) (by omega) ?_ ?_⟩)⟩⟩
        · intro l k hl hl2 hk
          have z : l = f := by omega
          subst z
          have b := sq_Ckn (M := (sq_mt ty va sT bo ki)) (R := (sq_R re)) (o := o) (k := k) (show tn l - tn l ≤ w by omega)
          rw [b.1, b.2, sq_G_f (by omega), sq_D_f (by omega)]
          by_cases c : k = 0
          · subst c
            rw [if_pos ⟨ho, rfl, a⟩]
            exact ⟨pk_us, pk_us⟩
          · rw [if_neg (fun z => c z.2.1)]
            have x := hz (l * 4 + k) (by omega)
            exact ⟨(pk_un (by omega)).trans x.1, (pk_un (by omega)).trans x.2⟩
        · intro l k hl hl2 hk
          have x := hz (l * 4 + k) (by omega)
          exact ⟨(pk_un (by omega)).trans x.1, (pk_un (by omega)).trans x.2⟩
  | succ d ih =>
    intro i wa le hi hz
    rw [wX_growFrom_2]
    have vi : vp_in (nI i) 40 := vp_in_nI (by omega) (by omega)
    have ei : (nI i).toNatClampNeg = i := nI_clamp (by omega)
    dsimp only
    rw [ei]
    refine br_f (nI_ge (b := 40) (by omega) (by omega)) ⟨vi, nm_e ⟨vi, nm_e (nm_r (nI_1 i) (ih (i + 1) _ _ (by omega) (fun j hj => ?_)))⟩⟩
    by_cases c : j = i
    · subst c; exact ⟨pk_us, pk_us⟩
    · have x := hz j (by omega)
      exact ⟨(pk_un c).trans x.1, (pk_un c).trans x.2⟩
theorem xq_growFrom {post : SX → Prop} {f o : Nat} {lo : Int32} {wa le : Nat → Int32} (H : sq_W n st w tn ti ki re) (hf : f < n) (hlo : ∀ e, e < 10 → (nI e = lo ↔ e = o)) (h : ∀ wa' le' : Nat → Int32, xq_P (sq_mt ty va sT bo ki) (sq_R re) tn w st n f o wa' le' → post (nI n, nI st, nI w, ty, va, ti, sT, bo, ki, re, wa', le')) : wpX_growFrom post (nI n, nI st, nI w, ty, va, ti, sT, bo, ki, re, wa, le) (nI f) lo :=
  ⟨41, xq_gf2 H hf hlo h 40 0 wa le rfl (fun j hj => absurd hj (Nat.not_lt_zero j))⟩
theorem sq_lo1 : ∀ e, e < 10 → (nI e = (-1) ↔ e = 100) := by
  intro e he
  constructor
  · intro z
    have z2 := congrArg Int32.toInt z
    rw [nI_toInt (by omega), show (-1 : Int32).toInt = -1 from by decide] at z2
    omega
  · intro z; omega
end
section
/-! the component: the queries -/
theorem sq_C_k {M : Nat → Nat → Nat → Nat → Bool} {R : Nat → Bool} {tn : Nat → Nat} {w st f o l : Nat} (h : 0 < st) : sq_C M R tn w st f o l = sq_Ck M R tn w f o l (st - 1) ∧ sq_E M R tn w st f o l = sq_Ek M R tn w f o l (st - 1) := by
  unfold sq_C sq_Ck sq_E sq_Ek
  by_cases c : tn l - tn f ≤ w
  · rw [if_pos c, if_pos c, if_pos ⟨h, c⟩, if_pos ⟨h, c⟩]; exact ⟨rfl, rfl⟩
  · rw [if_neg c, if_neg c, if_neg (fun z => c z.2), if_neg (fun z => c z.2)]; exact ⟨rfl, rfl⟩
theorem sq_C_0 {M : Nat → Nat → Nat → Nat → Bool} {R : Nat → Bool} {tn : Nat → Nat} {w f o l : Nat} : sq_C M R tn w 0 f o l = 0 := if_neg (fun z => absurd z.1 (Nat.lt_irrefl 0))
theorem sq_C_le {M : Nat → Nat → Nat → Nat → Bool} {R : Nat → Bool} {tn : Nat → Nat} {w st f o l : Nat} (hl : l < 10) : sq_C M R tn w st f o l ≤ 524288 := by
  have b := sq_G_le (M := M) (R := R) (f := f) (o := o) (k := st - 1) hl (Nat.le_refl l)
  unfold sq_C
  split
  · exact b
  · omega
theorem sq_E_le {M : Nat → Nat → Nat → Nat → Bool} {R : Nat → Bool} {tn : Nat → Nat} {w st f o l : Nat} (hl : l < 10) : sq_E M R tn w st f o l ≤ 10 := by
  have b := sq_D_le (M := M) (R := R) (f := f) (o := o) (k := st - 1) hl (Nat.le_refl l)
  unfold sq_E
  split
  · exact b
  · omega
theorem sq_E_z {M : Nat → Nat → Nat → Nat → Bool} {R : Nat → Bool} {tn : Nat → Nat} {w st f o l : Nat} (h : sq_C M R tn w st f o l = 0) : sq_E M R tn w st f o l = 0 := by
  unfold sq_C at h
  unfold sq_E
  by_cases c : 0 < st ∧ tn l - tn f ≤ w
  · rw [if_pos c] at h
    rw [if_pos c]; exact sq_D_z h
  · rw [if_neg c]
theorem sq_E_p {M : Nat → Nat → Nat → Nat → Bool} {R : Nat → Bool} {tn : Nat → Nat} {w st f o l : Nat} (hl : l < 10) (h : 0 < sq_C M R tn w st f o l) : 0 < sq_E M R tn w st f o l ∧ 0 < st := by
  unfold sq_C at h
  unfold sq_E
  by_cases c : 0 < st ∧ tn l - tn f ≤ w
  · rw [if_pos c] at h
    rw [if_pos c]; exact ⟨sq_D_p hl (Nat.le_refl l) h, c.1⟩
  · rw [if_neg c] at h
    omega
variable {n st w : Nat} {tn : Nat → Nat} {ty va ti sT bo ki re : Nat → Int32}
theorem xq_lc {l : Nat} (h : 0 < st) : ((nI l * 4) + nI st) - 1 = nI (l * 4 + (st - 1)) := by
  obtain ⟨j, rfl⟩ : ∃ j, st = j + 1 := ⟨st - 1, by omega⟩
  have e1 : nI l * 4 = nI (l * 4) := pk_mul l 4
  rw [e1, nI_add, ← Nat.add_assoc, nI_pred]
  rfl
theorem xq_last {post : Int32 → Prop} {wa le : Nat → Int32} {l : Nat} (h0 : 0 < st) (h : post (nI (l * 4 + (st - 1)))) : wpX_lastCell post (nI n, nI st, nI w, ty, va, ti, sT, bo, ki, re, wa, le) (nI l) := by
  unfold wpX_lastCell
  try dsimp only
  rw [xq_lc h0]
  exact h
theorem xq_fgt {post : Int32 → Prop} {wa le : Nat → Int32} {f o l : Nat} (H : sq_W n st w tn ti ki re) (P : xq_P (sq_mt ty va sT bo ki) (sq_R re) tn w st n f o wa le) (hf : f ≤ l) (hl : l < n) (h : post (nI (sq_C (sq_mt ty va sT bo ki) (sq_R re) tn w st f o l))) : wpX_findsGrownTo post (nI n, nI st, nI w, ty, va, ti, sT, bo, ki, re, wa, le) (nI l) := by
  have hn : n ≤ 10 := H.1
  have hst : st ≤ 4 := H.2.1
  unfold wpX_findsGrownTo
  try dsimp only
  refine br_c (fun q => ?_) (fun q => ?_)
  · have z : st = 0 := (nI_eq (b := 0) (show st < 2 ^ 31 by omega) (by omega)).mp q
    subst z
    rw [sq_C_0] at h
    exact h
  · have z : 0 < st := Nat.pos_of_ne_zero (fun z => q (by rw [z]; rfl))
    refine xq_last z ⟨vp_in_nI (by omega) (by omega), ?_⟩
    rw [nI_clamp (by omega), (P l (st - 1) hf hl (by omega)).1, ← (sq_C_k z).1]
    exact h
/-- countEndingAt -/
theorem xq_ce4 {post : Int32 → SX → Prop} {l : Nat} (H : sq_W n st w tn ti ki re) (hl : l < n) (h : ∀ wa' le' : Nat → Int32, post (nI (sq_N (sq_mt ty va sT bo ki) (sq_R re) tn w st l)) (nI n, nI st, nI w, ty, va, ti, sT, bo, ki, re, wa', le')) :
    ∀ (d m : Nat) (wa le : Nat → Int32), m + d = l + 1 → wX_countEndingAt_4 post (nI l) (d + 1) (nI (sq_Nm (sq_mt ty va sT bo ki) (sq_R re) tn w st l m)) (nI m) (nI n) (nI st) (nI w) ty va ti sT bo ki re wa le := by
  have hn : n ≤ 10 := H.1
  intro d
  induction d with
  | zero =>
    intro m wa le hm
    have z : m = l + 1 := by omega
    subst z
    rw [wX_countEndingAt_4]
    refine br_t (nI_lt (by omega) (by omega)) ?_
    rw [sq_Nn (by omega)]
    exact h wa le
  | succ d ih =>
    intro m wa le hm
    rw [wX_countEndingAt_4]
    refine br_f (nI_nlt (by omega) (by omega)) (xq_growFrom H (by omega) sq_lo1 (fun wa' le' P => ?_))
    try dsimp only
    refine xq_fgt H P (by omega) hl ?_
    refine nm_r (e' := nI (sq_Nm (sq_mt ty va sT bo ki) (sq_R re) tn w st l (m + 1))) ?_ (nm_r (nI_1 m) (ih (m + 1) wa' le' (by omega)))
    rw [nI_add, sq_Ns (by omega)]
theorem xq_ce {post : Int32 → SX → Prop} {l : Nat} {wa le : Nat → Int32} (H : sq_W n st w tn ti ki re) (hl : l < n) (h : ∀ wa' le' : Nat → Int32, post (nI (sq_N (sq_mt ty va sT bo ki) (sq_R re) tn w st l)) (nI n, nI st, nI w, ty, va, ti, sT, bo, ki, re, wa', le')) : wpX_countEndingAt post (nI n, nI st, nI w, ty, va, ti, sT, bo, ki, re, wa, le) (nI l) := by
  have a := xq_ce4 H hl h (l + 1) 0 wa le (by omega)
  rw [sq_N0] at a
  exact ⟨_, a⟩
/-- countBeginningAt -/
theorem xq_cb11 {post : Int32 → SX → Prop} {f o : Nat} {wa le : Nat → Int32} (H : sq_W n st w tn ti ki re) (P : xq_P (sq_mt ty va sT bo ki) (sq_R re) tn w st n f o wa le) (h : post (nI (sq_B (sq_mt ty va sT bo ki) (sq_R re) tn w st f o n)) (nI n, nI st, nI w, ty, va, ti, sT, bo, ki, re, wa, le)) :
    ∀ (d l : Nat), l + d = n → f ≤ l → wX_countBeginningAt_11 post (nI n) (nI st) (nI w) ty va ti sT bo ki re wa le (d + 1) (nI (sq_B (sq_mt ty va sT bo ki) (sq_R re) tn w st f o l)) (nI l) := by
  have hn : n ≤ 10 := H.1
  intro d
  induction d with
  | zero =>
    intro l hl _
    have z : l = n := by omega
    subst z
    rw [wX_countBeginningAt_11]
    exact br_t (nI_le (Nat.le_refl _) (by omega)) h
  | succ d ih =>
    intro l hl hf
    rw [wX_countBeginningAt_11]
    refine br_f (nI_ge (by omega) (by omega)) (xq_fgt H P hf (by omega) ?_)
    refine nm_r (e' := nI (sq_B (sq_mt ty va sT bo ki) (sq_R re) tn w st f o (l + 1))) ?_ (nm_r (nI_1 l) (ih (l + 1) (by omega) (by omega)))
    rw [nI_add]
    exact congrArg nI (sq_bs (by omega)).symm
theorem xq_cb {post : Int32 → SX → Prop} {f o : Nat} {lo : Int32} {wa le : Nat → Int32} (H : sq_W n st w tn ti ki re) (hf : f < n) (hlo : ∀ e, e < 10 → (nI e = lo ↔ e = o)) (h : ∀ wa' le' : Nat → Int32, post (nI (sq_B (sq_mt ty va sT bo ki) (sq_R re) tn w st f o n)) (nI n, nI st, nI w, ty, va, ti, sT, bo, ki, re, wa', le')) : wpX_countBeginningAt post (nI n, nI st, nI w, ty, va, ti, sT, bo, ki, re, wa, le) (nI f) lo := by
  have hn : n ≤ 10 := H.1
  unfold wpX_countBeginningAt
  try dsimp only
  refine xq_growFrom H hf hlo (fun wa' le' P => ?_)
  try dsimp only
  have a := xq_cb11 H P (h wa' le') (n - f) f (by omega) (Nat.le_refl f)
  have b : sq_B (sq_mt ty va sT bo ki) (sq_R re) tn w st f o f = 0 := sq_b0 (by omega)
  rw [b] at a
  exact ⟨_, a⟩
/-- countLeavingOut -/
theorem xq_cl4 {post : Int32 → SX → Prop} {o : Nat} {lo : Int32} (H : sq_W n st w tn ti ki re) (hlo : ∀ e, e < 10 → (nI e = lo ↔ e = o)) (h : ∀ wa' le' : Nat → Int32, post (nI (sq_A (sq_mt ty va sT bo ki) (sq_R re) tn w st o n n)) (nI n, nI st, nI w, ty, va, ti, sT, bo, ki, re, wa', le')) :
    ∀ (d m : Nat) (wa le : Nat → Int32), m + d = n → wX_countLeavingOut_4 post lo (d + 1) (nI (sq_A (sq_mt ty va sT bo ki) (sq_R re) tn w st o n m)) (nI m) (nI n) (nI st) (nI w) ty va ti sT bo ki re wa le := by
  have hn : n ≤ 10 := H.1
  intro d
  induction d with
  | zero =>
    intro m wa le hm
    have z : m = n := by omega
    subst z
    rw [wX_countLeavingOut_4]
    exact br_t (nI_le (Nat.le_refl _) (by omega)) (h wa le)
  | succ d ih =>
    intro m wa le hm
    rw [wX_countLeavingOut_4]
    refine br_f (nI_ge (by omega) (by omega)) (xq_cb H (by omega) hlo (fun wa' le' => ?_))
    try dsimp only
    refine nm_r (e' := nI (sq_A (sq_mt ty va sT bo ki) (sq_R re) tn w st o n (m + 1))) ?_ (nm_r (nI_1 m) (ih (m + 1) wa' le' (by omega)))
    rw [nI_add, sq_As]
theorem xq_cl {post : Int32 → SX → Prop} {o : Nat} {lo : Int32} {wa le : Nat → Int32} (H : sq_W n st w tn ti ki re) (hlo : ∀ e, e < 10 → (nI e = lo ↔ e = o)) (h : ∀ wa' le' : Nat → Int32, post (nI (sq_A (sq_mt ty va sT bo ki) (sq_R re) tn w st o n n)) (nI n, nI st, nI w, ty, va, ti, sT, bo, ki, re, wa', le')) : wpX_countLeavingOut post (nI n, nI st, nI w, ty, va, ti, sT, bo, ki, re, wa, le) lo := by
  have a := xq_cl4 H hlo h n 0 wa le (by omega)
  rw [sq_A0] at a
  exact ⟨_, a⟩
end
section
/-! the component: longest, tightest, lastValues -/
def sq_LL (M : Nat → Nat → Nat → Nat → Bool) (R : Nat → Bool) (tn : Nat → Nat) (w st f l : Nat) : Nat := sq_fo (fun a b => max a b) (fun t => if sq_I t = f then sq_gL M R tn w st t else 0) (2 ^ l)
def sq_AL (M : Nat → Nat → Nat → Nat → Bool) (R : Nat → Bool) (tn : Nat → Nat) (w st n m : Nat) : Nat := sq_fo (fun a b => max a b) (fun t => if sq_I t < m then sq_gL M R tn w st t else 0) (2 ^ n)
def sq_TT (M : Nat → Nat → Nat → Nat → Bool) (R : Nat → Bool) (tn : Nat → Nat) (w st f l : Nat) : Nat := sq_fo sq_tm (fun t => if sq_I t = f then sq_gT M R tn w st t else 0) (2 ^ l)
def sq_AT (M : Nat → Nat → Nat → Nat → Bool) (R : Nat → Bool) (tn : Nat → Nat) (w st n m : Nat) : Nat := sq_fo sq_tm (fun t => if sq_I t < m then sq_gT M R tn w st t else 0) (2 ^ n)
theorem sq_LL0 {M : Nat → Nat → Nat → Nat → Bool} {R : Nat → Bool} {tn : Nat → Nat} {w st f : Nat} (hf : f ≤ 10) : sq_LL M R tn w st f f = 0 := sq_gi0 sq_om sq_gL0 hf
theorem sq_LLs {M : Nat → Nat → Nat → Nat → Bool} {R : Nat → Bool} {tn : Nat → Nat} {w st f l : Nat} (hl : l < 10) : sq_LL M R tn w st f (l + 1) = max (sq_LL M R tn w st f l) (sq_E M R tn w st f 100 l) := by
  rw [← sq_cL hl]
  exact sq_fo_dbl sq_om _ l
theorem sq_AL0 {M : Nat → Nat → Nat → Nat → Bool} {R : Nat → Bool} {tn : Nat → Nat} {w st n : Nat} : sq_AL M R tn w st n 0 = 0 := sq_go0 sq_om sq_I _
theorem sq_ALs {M : Nat → Nat → Nat → Nat → Bool} {R : Nat → Bool} {tn : Nat → Nat} {w st n m : Nat} : sq_AL M R tn w st n (m + 1) = max (sq_AL M R tn w st n m) (sq_LL M R tn w st m n) := sq_gos sq_om sq_I m _
theorem sq_ALn {M : Nat → Nat → Nat → Nat → Bool} {R : Nat → Bool} {tn : Nat → Nat} {w st n : Nat} (hn : n ≤ 10) : sq_AL M R tn w st n n = sq_mx (sq_gL M R tn w st) (2 ^ n) := sq_gon sq_gL0 hn
theorem sq_TT0 {M : Nat → Nat → Nat → Nat → Bool} {R : Nat → Bool} {tn : Nat → Nat} {w st f : Nat} (hf : f ≤ 10) : sq_TT M R tn w st f f = 0 := sq_gi0 sq_ot sq_gT0 hf
theorem sq_TTs {M : Nat → Nat → Nat → Nat → Bool} {R : Nat → Bool} {tn : Nat → Nat} {w st f l : Nat} (hl : l < 10) : sq_TT M R tn w st f (l + 1) = sq_tm (sq_TT M R tn w st f l) (if 0 < sq_C M R tn w st f 100 l then tn l - tn f + 1 else 0) := by
  rw [← sq_cT hl]
  exact sq_fo_dbl sq_ot _ l
theorem sq_AT0 {M : Nat → Nat → Nat → Nat → Bool} {R : Nat → Bool} {tn : Nat → Nat} {w st n : Nat} : sq_AT M R tn w st n 0 = 0 := sq_go0 sq_ot sq_I _
theorem sq_ATs {M : Nat → Nat → Nat → Nat → Bool} {R : Nat → Bool} {tn : Nat → Nat} {w st n m : Nat} : sq_AT M R tn w st n (m + 1) = sq_tm (sq_AT M R tn w st n m) (sq_TT M R tn w st m n) := sq_gos sq_ot sq_I m _
theorem sq_ATn {M : Nat → Nat → Nat → Nat → Bool} {R : Nat → Bool} {tn : Nat → Nat} {w st n : Nat} (hn : n ≤ 10) : sq_AT M R tn w st n n = sq_fo sq_tm (sq_gT M R tn w st) (2 ^ n) := sq_gon sq_gT0 hn
theorem sq_le0 {c : Nat} (h : c < 2 ^ 31) : nI c ≤ 0 ↔ c = 0 := by
  have a : nI c ≤ nI 0 ↔ c ≤ 0 := nI_leI h (by omega)
  exact a.trans ⟨fun z => by omega, fun z => by omega⟩
def sq_vn (va : Nat → Int32) (i : Nat) : Nat := (va i).toBitVec.toNat
theorem sq_vnI (va : Nat → Int32) (i : Nat) : va i = nI (sq_vn va i) := Int32.toBitVec_inj.mp (by show _ = BitVec.ofNat 32 _; unfold sq_vn; simp)
variable {n st w : Nat} {tn : Nat → Nat} {ty va ti sT bo ki re : Nat → Int32}
theorem xq_l21 {post : Int32 → SX → Prop} {J5 : Int32 → Int32 → Int32 → Int32 → Int32 → (Nat → Int32) → (Nat → Int32) → (Nat → Int32) → (Nat → Int32) → (Nat → Int32) → (Nat → Int32) → (Nat → Int32) → (Nat → Int32) → (Nat → Int32) → Prop} {f a0 : Nat} {wa le : Nat → Int32} (H : sq_W n st w tn ti ki re) (P : xq_P (sq_mt ty va sT bo ki) (sq_R re) tn w st n f 100 wa le)
    (h : ∀ a, a = max a0 (sq_LL (sq_mt ty va sT bo ki) (sq_R re) tn w st f n) → a ≤ 10 → J5 (sq_en a) (nI (f + 1)) (nI n) (nI st) (nI w) ty va ti sT bo ki re wa le) :
    ∀ (d l a : Nat), l + d = n → f ≤ l → a = max a0 (sq_LL (sq_mt ty va sT bo ki) (sq_R re) tn w st f l) → a ≤ 10 → wX_longest_21 post J5 (nI f) (nI n) (nI st) (nI w) ty va ti sT bo ki re wa le (d + 1) (sq_en a) (nI l) := by
  have hn : n ≤ 10 := H.1
  have hst : st ≤ 4 := H.2.1
  intro d
  induction d with
  | zero =>
    intro l a hl _ ha hb
    have z : l = n := by omega
    subst z
    rw [wX_longest_21]
    exact br_t (nI_le (Nat.le_refl _) (by omega)) (nm_r (nI_1 f) (h a ha hb))
  | succ d ih =>
    intro l a hl hf ha hb
    rw [wX_longest_21]
    have s := sq_LLs (M := (sq_mt ty va sT bo ki)) (R := (sq_R re)) (tn := tn) (w := w) (st := st) (f := f) (show l < 10 by omega)
    have c1 := sq_C_le (M := (sq_mt ty va sT bo ki)) (R := (sq_R re)) (tn := tn) (w := w) (st := st) (f := f) (o := 100) (show l < 10 by omega)
    have c2 := sq_E_le (M := (sq_mt ty va sT bo ki)) (R := (sq_R re)) (tn := tn) (w := w) (st := st) (f := f) (o := 100) (show l < 10 by omega)
    refine br_f (nI_ge (by omega) (by omega)) (xq_fgt H P hf (by omega) (br_c (fun q => nm_r (nI_1 l) (ih (l + 1) a (by omega) (by omega) ?_ hb)) (fun q => ?_)))
    · have z := sq_E_z ((sq_le0 (by omega)).mp q)
      rw [s, z, Nat.max_zero]
      exact ha
    · have z : 0 < sq_C (sq_mt ty va sT bo ki) (sq_R re) tn w st f 100 l := Nat.pos_of_ne_zero (fun z => q ((sq_le0 (by omega)).mpr z))
      have z2 := sq_E_p (show l < 10 by omega) z
      have v : vp_in (nI (l * 4 + (st - 1))) 40 := vp_in_nI (by omega) (by omega)
      have e : le (nI (l * 4 + (st - 1))).toNatClampNeg = nI (sq_E (sq_mt ty va sT bo ki) (sq_R re) tn w st f 100 l) := by
        rw [nI_clamp (by omega), (P l (st - 1) hf (by omega) (by omega)).2, ← (sq_C_k z2.2).2]
      have en := sq_en_lt (a := a) z2.1 (by omega) (by omega)
      refine xq_last z2.2 ⟨v, br_c (fun q2 => nm_r (nI_1 l) (ih (l + 1) a (by omega) (by omega) ?_ hb)) (fun q2 => xq_last z2.2 ⟨v, nm_r (e' := sq_en (sq_E (sq_mt ty va sT bo ki) (sq_R re) tn w st f 100 l)) ?_ (nm_r (nI_1 l) (ih (l + 1) _ (by omega) (by omega) ?_ c2))⟩)⟩
      · rw [e] at q2
        have k : ¬ a < sq_E (sq_mt ty va sT bo ki) (sq_R re) tn w st f 100 l := fun z => absurd (en.mpr z) (Int32.not_lt.mpr q2)
        rw [s]
        omega
      · rw [e]
        unfold sq_en
        rw [if_neg (by omega)]
      · rw [e] at q2
        have k : a < sq_E (sq_mt ty va sT bo ki) (sq_R re) tn w st f 100 l := en.mp (Int32.not_le.mp q2)
        rw [s]
        omega
theorem xq_l5 {post : Int32 → SX → Prop} (H : sq_W n st w tn ti ki re) (h : ∀ wa' le' : Nat → Int32, post (sq_en (sq_AL (sq_mt ty va sT bo ki) (sq_R re) tn w st n n)) (nI n, nI st, nI w, ty, va, ti, sT, bo, ki, re, wa', le')) :
    ∀ (d m a : Nat) (wa le : Nat → Int32), m + d = n → a = sq_AL (sq_mt ty va sT bo ki) (sq_R re) tn w st n m → a ≤ 10 → wX_longest_5 post (d + 1) (sq_en a) (nI m) (nI n) (nI st) (nI w) ty va ti sT bo ki re wa le := by
  have hn : n ≤ 10 := H.1
  intro d
  induction d with
  | zero =>
    intro m a wa le hm ha hb
    have z : m = n := by omega
    subst z
    rw [wX_longest_5, ha]
    exact br_t (nI_le (Nat.le_refl _) (by omega)) (h wa le)
  | succ d ih =>
    intro m a wa le hm ha hb
    rw [wX_longest_5]
    refine br_f (nI_ge (by omega) (by omega)) (xq_growFrom H (by omega) sq_lo1 (fun wa' le' P => ?_))
    try dsimp only
    refine ⟨_, xq_l21 (a0 := a) H P (fun a' ha' hb' => ih (m + 1) a' wa' le' (by omega) ?_ hb') (n - m) m a (by omega) (Nat.le_refl m) ?_ hb⟩
    · rw [ha', sq_ALs, ha]
    · rw [sq_LL0 (by omega), Nat.max_zero]
theorem xq_longest {post : Int32 → SX → Prop} {wa le : Nat → Int32} (H : sq_W n st w tn ti ki re) (h : ∀ wa' le' : Nat → Int32, post (sq_en (sq_AL (sq_mt ty va sT bo ki) (sq_R re) tn w st n n)) (nI n, nI st, nI w, ty, va, ti, sT, bo, ki, re, wa', le')) : wpX_longest post (nI n, nI st, nI w, ty, va, ti, sT, bo, ki, re, wa, le) :=
  ⟨_, xq_l5 H h n 0 0 wa le (by omega) sq_AL0.symm (by omega)⟩
theorem xq_t21 {post : Int32 → SX → Prop} {J5 : Int32 → Int32 → Int32 → Int32 → Int32 → (Nat → Int32) → (Nat → Int32) → (Nat → Int32) → (Nat → Int32) → (Nat → Int32) → (Nat → Int32) → (Nat → Int32) → (Nat → Int32) → (Nat → Int32) → Prop} {f a0 : Nat} {wa le : Nat → Int32} (H : sq_W n st w tn ti ki re) (P : xq_P (sq_mt ty va sT bo ki) (sq_R re) tn w st n f 100 wa le)
    (h : ∀ a, a = sq_tm a0 (sq_TT (sq_mt ty va sT bo ki) (sq_R re) tn w st f n) → a ≤ 51 → J5 (sq_et a) (nI (f + 1)) (nI n) (nI st) (nI w) ty va ti sT bo ki re wa le) :
    ∀ (d l a : Nat), l + d = n → f ≤ l → a = sq_tm a0 (sq_TT (sq_mt ty va sT bo ki) (sq_R re) tn w st f l) → a ≤ 51 → wX_tightest_21 post J5 (nI f) (nI n) (nI st) (nI w) ty va ti sT bo ki re wa le (d + 1) (sq_et a) (nI l) := by
  have hn : n ≤ 10 := H.1
  have hst : st ≤ 4 := H.2.1
  have tb := H.2.2.2.2.2.1
  intro d
  induction d with
  | zero =>
    intro l a hl _ ha hb
    have z : l = n := by omega
    subst z
    rw [wX_tightest_21]
    exact br_t (nI_le (Nat.le_refl _) (by omega)) (nm_r (nI_1 f) (h a ha hb))
  | succ d ih =>
    intro l a hl hf ha hb
    rw [wX_tightest_21]
    have s := sq_TTs (M := (sq_mt ty va sT bo ki)) (R := (sq_R re)) (tn := tn) (w := w) (st := st) (f := f) (show l < 10 by omega)
    have c1 := sq_C_le (M := (sq_mt ty va sT bo ki)) (R := (sq_R re)) (tn := tn) (w := w) (st := st) (f := f) (o := 100) (show l < 10 by omega)
    have tl := tb l (by omega)
    have vl : vp_in (nI l) 10 := vp_in_nI (by omega) (by omega)
    have vf : vp_in (nI f) 10 := vp_in_nI (by omega) (by omega)
    have el : (nI l).toNatClampNeg = l := nI_clamp (by omega)
    have ef : (nI f).toNatClampNeg = f := nI_clamp (by omega)
    have nr := sq_near H hf (show l < n by omega)
    have nx : sq_tm a0 (sq_TT (sq_mt ty va sT bo ki) (sq_R re) tn w st f (l + 1)) = sq_tm a (if 0 < sq_C (sq_mt ty va sT bo ki) (sq_R re) tn w st f 100 l then tn l - tn f + 1 else 0) := by
      rw [s, ← sq_ot.2.1, ← ha]
    refine br_f (nI_ge (by omega) (by omega)) ⟨vl, vf, nm_r (e' := nI (tn l - tn f)) ?_ (xq_fgt H P hf (by omega) (br_c (fun q => nm_r (nI_1 l) (ih (l + 1) a (by omega) (by omega) ?_ hb)) (fun q => ?_)))⟩
    · rw [el, ef]; exact nr.1
    · have z := (sq_le0 (by omega)).mp q
      rw [nx, if_neg (by omega), sq_ot.2.2]
    · have z : 0 < sq_C (sq_mt ty va sT bo ki) (sq_R re) tn w st f 100 l := Nat.pos_of_ne_zero (fun z => q ((sq_le0 (by omega)).mpr z))
      rw [if_pos z] at nx
      have tk : sq_et (tn l - tn f + 1) = nI (tn l - tn f) := by
        unfold sq_et
        rw [if_neg (by omega)]; rfl
      have nw : ∀ x : Int32, x = nI l + 1 → sq_tm a (tn l - tn f + 1) = tn l - tn f + 1 → wX_tightest_21 post J5 (nI f) (nI n) (nI st) (nI w) ty va ti sT bo ki re wa le (d + 1) (nI (tn l - tn f)) x := by
        intro x ex e
        rw [ex, nI_1 l, ← tk]
        exact ih (l + 1) _ (by omega) (by omega) (by rw [nx, e]) (by omega)
      refine br_c (fun q2 => fun x ex => nw x ex ?_) (fun q2 => br_c (fun q3 => nm_r (nI_1 l) (ih (l + 1) a (by omega) (by omega) ?_ hb)) (fun q3 => fun x ex => nw x ex ?_))
      · have a1 := (sq_et_no (by omega)).mp q2
        unfold sq_tm
        rw [if_pos a1]
      · have a1 : a ≠ 0 := fun z => q2 ((sq_et_no (by omega)).mpr z)
        have a2 : a - 1 ≤ tn l - tn f := by
          unfold sq_et at q3
          rw [if_neg a1] at q3
          exact (nI_leI (by omega) (by omega)).mp q3
        rw [nx]
        unfold sq_tm
        rw [if_neg a1, if_neg (by omega), if_pos (by omega)]
      · have a1 : a ≠ 0 := fun z => q2 ((sq_et_no (by omega)).mpr z)
        have a2 : ¬ a - 1 ≤ tn l - tn f := by
          unfold sq_et at q3
          rw [if_neg a1] at q3
          exact fun z => q3 ((nI_leI (by omega) (by omega)).mpr z)
        unfold sq_tm
        rw [if_neg a1, if_neg (by omega), if_neg (by omega)]
theorem xq_t5 {post : Int32 → SX → Prop} (H : sq_W n st w tn ti ki re) (h : ∀ wa' le' : Nat → Int32, post (sq_et (sq_AT (sq_mt ty va sT bo ki) (sq_R re) tn w st n n)) (nI n, nI st, nI w, ty, va, ti, sT, bo, ki, re, wa', le')) :
    ∀ (d m a : Nat) (wa le : Nat → Int32), m + d = n → a = sq_AT (sq_mt ty va sT bo ki) (sq_R re) tn w st n m → a ≤ 51 → wX_tightest_5 post (d + 1) (sq_et a) (nI m) (nI n) (nI st) (nI w) ty va ti sT bo ki re wa le := by
  have hn : n ≤ 10 := H.1
  intro d
  induction d with
  | zero =>
    intro m a wa le hm ha hb
    have z : m = n := by omega
    subst z
    rw [wX_tightest_5, ha]
    exact br_t (nI_le (Nat.le_refl _) (by omega)) (h wa le)
  | succ d ih =>
    intro m a wa le hm ha hb
    rw [wX_tightest_5]
    refine br_f (nI_ge (by omega) (by omega)) (xq_growFrom H (by omega) sq_lo1 (fun wa' le' P => ?_))
    try dsimp only
    refine ⟨_, xq_t21 (a0 := a) H P (fun a' ha' hb' => ih (m + 1) a' wa' le' (by omega) ?_ hb') (n - m) m a (by omega) (Nat.le_refl m) ?_ hb⟩
    · rw [ha', sq_ATs, ha]
    · rw [sq_TT0 (by omega), sq_ot.2.2]
theorem xq_tightest {post : Int32 → SX → Prop} {wa le : Nat → Int32} (H : sq_W n st w tn ti ki re) (h : ∀ wa' le' : Nat → Int32, post (sq_et (sq_AT (sq_mt ty va sT bo ki) (sq_R re) tn w st n n)) (nI n, nI st, nI w, ty, va, ti, sT, bo, ki, re, wa', le')) : wpX_tightest post (nI n, nI st, nI w, ty, va, ti, sT, bo, ki, re, wa, le) :=
  ⟨_, xq_t5 H h n 0 0 wa le (by omega) sq_AT0.symm (by omega)⟩
def sq_S (M : Nat → Nat → Nat → Nat → Bool) (R : Nat → Bool) (tn : Nat → Nat) (w st : Nat) (vn : Nat → Nat) (N : Nat) : Nat := sq_sm (fun t => vn (sq_L t - 1) * sq_F M R tn w st t) N
theorem xq_v4 {post : Int32 → SX → Prop} (H : sq_W n st w tn ti ki re) (h : ∀ wa' le' : Nat → Int32, post (nI (sq_S (sq_mt ty va sT bo ki) (sq_R re) tn w st (sq_vn va) (2 ^ n))) (nI n, nI st, nI w, ty, va, ti, sT, bo, ki, re, wa', le')) :
    ∀ (d m : Nat) (wa le : Nat → Int32), m + d = n → wX_lastValues_4 post (d + 1) (nI (sq_S (sq_mt ty va sT bo ki) (sq_R re) tn w st (sq_vn va) (2 ^ m))) (nI m) (nI n) (nI st) (nI w) ty va ti sT bo ki re wa le := by
  have hn : n ≤ 10 := H.1
  intro d
  induction d with
  | zero =>
    intro m wa le hm
    have z : m = n := by omega
    subst z
    rw [wX_lastValues_4]
    exact br_t (nI_le (Nat.le_refl _) (by omega)) (h wa le)
  | succ d ih =>
    intro m wa le hm
    rw [wX_lastValues_4]
    have vm : vp_in (nI m) 10 := vp_in_nI (by omega) (by omega)
    have em : (nI m).toNatClampNeg = m := nI_clamp (by omega)
    refine br_f (nI_ge (by omega) (by omega)) ⟨vm, xq_ce H (by omega) (fun wa' le' => ?_)⟩
    try dsimp only
    refine nm_r (e' := nI (sq_S (sq_mt ty va sT bo ki) (sq_R re) tn w st (sq_vn va) (2 ^ (m + 1)))) ?_ (nm_r (nI_1 m) (ih (m + 1) wa' le' (by omega)))
    rw [em, sq_vnI va m, pk_mul, nI_add]
    exact congrArg nI (sq_vs (by omega)).symm
theorem xq_lastValues {post : Int32 → SX → Prop} {wa le : Nat → Int32} (H : sq_W n st w tn ti ki re) (h : ∀ wa' le' : Nat → Int32, post (nI (sq_S (sq_mt ty va sT bo ki) (sq_R re) tn w st (sq_vn va) (2 ^ n))) (nI n, nI st, nI w, ty, va, ti, sT, bo, ki, re, wa', le')) : wpX_lastValues post (nI n, nI st, nI w, ty, va, ti, sT, bo, ki, re, wa, le) := by
  have a := xq_v4 H h n 0 wa le (by omega)
  have b : sq_S (sq_mt ty va sT bo ki) (sq_R re) tn w st (sq_vn va) (2 ^ 0) = 0 := sq_v1
  rw [b] at a
  exact ⟨_, a⟩
end
section
/-! the reference: first, last, size, a step's test, take, findsOf -/
variable {n st w : Nat} {tn : Nat → Nat} {ty va ti sT bo ki re : Nat → Int32}
theorem yq_f6 {post : Int32 → Prop} {s : Nat} {wy be : Nat → Int32} (hs : s < 1024) (h : post (nI (sq_I s))) : ∀ r, r ≤ 10 → wY_firstOf_6 post (nI s) (nI n) (nI st) (nI w) ty va ti sT bo ki re wy be (r + 1) (nI (sq_fd s (10 - r))) (nI r + (-1)) := by
  intro r
  induction r with
  | zero =>
    intro _
    rw [wY_firstOf_6]
    have e : sq_fd s (10 - 0) = sq_I s := sq_fd10 s hs
    rw [e]
    exact br_t (by decide) h
  | succ r ih =>
    intro hr
    rw [wY_firstOf_6, pk_m1]
    have ih' := ih (by omega)
    have e : sq_fd s (10 - r) = if s.testBit r = true then r else sq_fd s (10 - (r + 1)) := by
      rw [show 10 - r = (10 - (r + 1)) + 1 from by omega]
      show (if s.testBit (9 - (10 - (r + 1))) = true then 9 - (10 - (r + 1)) else sq_fd s (10 - (r + 1))) = _
      rw [show 9 - (10 - (r + 1)) = r from by omega]
    refine br_f (nI_pos (by omega)) ?_
    rw [sq_bit1 hs (by omega)]
    rw [e] at ih'
    cases b : s.testBit r
    · rw [b] at ih'
      exact br_f (by decide) (nm_e ih')
    · rw [b] at ih'
      exact br_t rfl (nm_e ih')
theorem yq_first {post : Int32 → Prop} {s : Nat} {wy be : Nat → Int32} (hs : s < 1024) (h : post (nI (sq_I s))) : wpY_firstOf post (nI n, nI st, nI w, ty, va, ti, sT, bo, ki, re, wy, be) (nI s) := ⟨11, yq_f6 hs h 10 (by omega)⟩
theorem yq_l4 {post : Int32 → Prop} {s : Nat} {wy be : Nat → Int32} (hs : s < 1024) (h : post (nI (sq_L s - 1))) : ∀ d i, i + d = 10 → wY_lastOf_4 post (nI s) (nI n) (nI st) (nI w) ty va ti sT bo ki re wy be (d + 1) (nI (sq_ls s i - 1)) (nI i) := by
  intro d
  induction d with
  | zero =>
    intro i hi
    have z : i = 10 := by omega
    subst z
    rw [wY_lastOf_4]
    exact br_t (nI_le (a := 10) (Nat.le_refl 10) (by omega)) h
  | succ d ih =>
    intro i hi
    rw [wY_lastOf_4]
    have ih' := ih (i + 1) (by omega)
    refine br_f (nI_ge (b := 10) (by omega) (by omega)) ?_
    rw [sq_bit1 hs (by omega)]
    cases b : s.testBit i
    · rw [sq_ls_n b] at ih'
      exact br_f (by decide) (nm_r (nI_1 i) ih')
    · rw [sq_ls_y b] at ih'
      exact br_t rfl (nm_r (nI_1 i) ih')
theorem yq_last {post : Int32 → Prop} {s : Nat} {wy be : Nat → Int32} (hs : s < 1024) (h : post (nI (sq_L s - 1))) : wpY_lastOf post (nI n, nI st, nI w, ty, va, ti, sT, bo, ki, re, wy, be) (nI s) := ⟨11, yq_l4 hs h 10 0 (by omega)⟩
theorem yq_z4 {post : Int32 → Prop} {s : Nat} {wy be : Nat → Int32} (hs : s < 1024) (h : post (nI (sq_Z s))) : ∀ d i, i + d = 10 → wY_sizeOf_4 post (nI s) (nI n) (nI st) (nI w) ty va ti sT bo ki re wy be (d + 1) (nI (sq_sz s i)) (nI i) := by
  intro d
  induction d with
  | zero =>
    intro i hi
    have z : i = 10 := by omega
    subst z
    rw [wY_sizeOf_4]
    exact br_t (nI_le (a := 10) (Nat.le_refl 10) (by omega)) h
  | succ d ih =>
    intro i hi
    rw [wY_sizeOf_4]
    have ih' := ih (i + 1) (by omega)
    refine br_f (nI_ge (b := 10) (by omega) (by omega)) ?_
    rw [sq_bit1 hs (by omega)]
    refine nm_r (e' := nI (sq_sz s (i + 1))) ?_ (nm_r (nI_1 i) ih')
    cases b : s.testBit i
    · rw [sq_sz_n b]
      exact Int32.add_zero _
    · rw [sq_sz_y b]
      exact nI_1 _
theorem yq_size {post : Int32 → Prop} {s : Nat} {wy be : Nat → Int32} (hs : s < 1024) (h : post (nI (sq_Z s))) : wpY_sizeOf post (nI n, nI st, nI w, ty, va, ti, sT, bo, ki, re, wy, be) (nI s) := ⟨11, yq_z4 hs h 10 0 (by omega)⟩
/-- the event ahead of e: none (then e is the first), or b -/
def yq_bf (lo : Int32) (l f e b : Nat) : Prop := (l = 0 ∧ lo = -1 ∧ e = f) ∨ (l = b + 1 ∧ lo = nI b ∧ e ≠ f ∧ b < 10)
theorem yq_m27 {post : Int32 → Prop} {lo : Int32} {l e k b f : Nat} {wy be : Nat → Int32} (H : sq_W n st w tn ti ki re) (he : e < 10) (hk : k < 4) (hf : f < 10) (hl : yq_bf lo l f e b) (h : post (sq_bi (sq_kp va bo ki f e k b))) : wY_meets_27 post (nI e) (nI k) lo (nI f) (nI n) (nI st) (nI w) ty va ti sT bo ki re wy be := by
  have ek : (nI k).toNatClampNeg = k := nI_clamp (by omega)
  have ee : (nI e).toNatClampNeg = e := nI_clamp (by omega)
  have ef : (nI f).toNatClampNeg = f := nI_clamp (by omega)
  have vk : vp_in (nI k) 4 := vp_in_nI hk (by omega)
  have ve : vp_in (nI e) 10 := vp_in_nI he (by omega)
  have vf : vp_in (nI f) 10 := vp_in_nI hf (by omega)
  unfold wY_meets_27
  rw [ek, ee, ef]
  refine ⟨vk, ?_⟩
  rcases sq_ki (H := H) k with c | c | c | c | c
  · rw [c]
    exact br_f (by decide) ⟨vk, br_f (by decide) ⟨vk, br_f (by decide) ⟨vk, br_t rfl (sq_d1 h (sq_kp0 c))⟩⟩⟩
  · rw [sq_kp1 c] at h
    rw [c]
    refine br_t rfl ?_
    rcases hl with ⟨_, rfl, hef⟩ | ⟨_, rfl, hef, hb⟩
    · exact br_t (by decide) (sq_d1 h (by rw [decide_eq_true hef]; rfl))
    · have eb : (nI b).toNatClampNeg = b := nI_clamp (by omega)
      rw [eb]
      refine br_f (nI_pos (by omega)) ⟨ve, vp_in_nI hb (by omega), br_c (fun q => ?_) (fun q => ?_)⟩
      · exact sq_d0 h (by rw [decide_eq_false hef, decide_eq_false (fun z => absurd q (Int32.not_le.mpr z))]; rfl)
      · exact sq_d1 h (by rw [decide_eq_true (Int32.not_le.mp q)]; simp)
  · rw [sq_kp2 c] at h
    rw [c]
    refine br_f (by decide) ⟨vk, br_t rfl ?_⟩
    rcases hl with ⟨_, rfl, hef⟩ | ⟨_, rfl, hef, hb⟩
    · exact br_t (by decide) (sq_d1 h (by rw [decide_eq_true hef]; rfl))
    · have eb : (nI b).toNatClampNeg = b := nI_clamp (by omega)
      rw [eb]
      refine br_f (nI_pos (by omega)) ⟨ve, vp_in_nI hb (by omega), br_c (fun q => ?_) (fun q => ?_)⟩
      · exact sq_d0 h (by rw [decide_eq_false hef, decide_eq_false (fun z => absurd q (Int32.not_le.mpr z))]; rfl)
      · exact sq_d1 h (by rw [decide_eq_true (Int32.not_le.mp q)]; simp)
  · rw [sq_kp3 c] at h
    rw [c]
    refine br_f (by decide) ⟨vk, br_f (by decide) ⟨vk, br_t rfl ⟨ve, vk, br_c (fun q => ?_) (fun q => ?_)⟩⟩⟩
    · exact sq_d1 h (decide_eq_true q)
    · exact sq_d0 h (decide_eq_false q)
  · rw [sq_kp4 c] at h
    rw [c]
    refine br_f (by decide) ⟨vk, br_f (by decide) ⟨vk, br_f (by decide) ⟨vk, br_f (by decide) ⟨ve, vf, br_c (fun q => ?_) (fun q => ?_)⟩⟩⟩⟩
    · exact sq_d1 h (decide_eq_true q)
    · exact sq_d0 h (decide_eq_false q)
theorem yq_meets {post : Int32 → Prop} {lo : Int32} {l e k b f : Nat} {wy be : Nat → Int32} (H : sq_W n st w tn ti ki re) (he : e < 10) (hk : k < 4) (hf : f < 10) (hl : yq_bf lo l f e b) (h : post (sq_bi ((sq_mt ty va sT bo ki) f e k b))) : wpY_meets post (nI n, nI st, nI w, ty, va, ti, sT, bo, ki, re, wy, be) (nI e) (nI k) lo (nI f) := by
  have ek : (nI k).toNatClampNeg = k := nI_clamp (by omega)
  have ee : (nI e).toNatClampNeg = e := nI_clamp (by omega)
  have vk : vp_in (nI k) 4 := vp_in_nI hk (by omega)
  have ve : vp_in (nI e) 10 := vp_in_nI he (by omega)
  unfold wpY_meets
  try dsimp only
  rw [ek, ee]
  unfold sq_mt at h
  refine ⟨vk, br_c (fun q => ?_) (fun q => ⟨ve, vk, br_c (fun q2 => ?_) (fun q2 => ?_)⟩)⟩
  · rw [decide_eq_true q] at h
    exact yq_m27 H he hk hf hl h
  · rw [decide_eq_true q2, Bool.or_true] at h
    exact yq_m27 H he hk hf hl h
  · exact sq_d0 h (by rw [decide_eq_false q, decide_eq_false q2]; rfl)
theorem yq_110 {post : SY → Prop} {J35 : Int32 → (Nat → Int32) → (Nat → Int32) → (Nat → Int32) → (Nat → Int32) → (Nat → Int32) → (Nat → Int32) → (Nat → Int32) → (Nat → Int32) → (Nat → Int32) → Prop} {lo : Int32} {l e k b f z x : Nat} {wy be : Nat → Int32} (H : sq_W n st w tn ti ki re) (he : e < 10) (hk : k < 4) (hf : f < 10) (hl : yq_bf lo l f e b)
    (h1 : (sq_mt ty va sT bo ki) f e k b = true → x = z) (h0 : (sq_mt ty va sT bo ki) f e k b = false → x = 0) (h : ∀ wy' : Nat → Int32, (∀ i, i ≠ k → wy' i = wy i) → wy' k = nI x → J35 (nI (k + 1)) ty va ti sT bo ki re wy' be) : wY_take_110 post J35 (nI e) lo (nI f) (nI k) (nI z) (nI n) (nI st) (nI w) ty va ti sT bo ki re wy be := by
  have ek : (nI k).toNatClampNeg = k := nI_clamp (by omega)
  have vk : vp_in (nI k) 4 := vp_in_nI hk (by omega)
  unfold wY_take_110
  refine yq_meets H he hk hf hl ?_
  rw [ek]
  cases a : (sq_mt ty va sT bo ki) f e k b
  · refine br_t rfl ⟨vk, nm_e (nm_r (nI_1 k) (h _ (fun i hi => pk_un hi) ?_))⟩
    rw [pk_us, h0 a]; rfl
  · refine br_f (by decide) ⟨vk, nm_e (nm_r (nI_1 k) (h _ (fun i hi => pk_un hi) ?_))⟩
    rw [pk_us, h1 a]
theorem yq_35 {post : SY → Prop} {lo : Int32} {l e b f : Nat} {v : Nat → Nat} {be : Nat → Int32} (H : sq_W n st w tn ti ki re) (he : e < 10) (hf : f < 10) (hl : yq_bf lo l f e b) (hb : l ≠ 0 → ∀ j, j < st → be j = nI (v j))
    (h : ∀ wy' : Nat → Int32, (∀ j, j < st → wy' j = nI (sq_nx (sq_mt ty va sT bo ki) (sq_R re) l f e v j)) → post (nI n, nI st, nI w, ty, va, ti, sT, bo, ki, re, wy', be)) :
    ∀ (d k : Nat) (wy : Nat → Int32), k + d = st → (∀ j, j < k → wy j = nI (sq_nx (sq_mt ty va sT bo ki) (sq_R re) l f e v j)) → wY_take_35 post (nI e) lo (nI f) (nI n) (nI st) (nI w) (d + 1) (nI k) ty va ti sT bo ki re wy be := by
  have hst : st ≤ 4 := H.2.1
  intro d
  induction d with
  | zero =>
    intro k wy hk hI
    have z : k = st := by omega
    subst z
    rw [wY_take_35]
    exact br_t (nI_le (Nat.le_refl _) (by omega)) (h wy hI)
  | succ d ih =>
    intro k wy hk hI
    rw [wY_take_35]
    have ek : (nI k).toNatClampNeg = k := nI_clamp (by omega)
    have vk : vp_in (nI k) 4 := vp_in_nI (by omega) (by omega)
    dsimp only
    rw [ek]
    have nx : ∀ wy' : Nat → Int32, (∀ i, i ≠ k → wy' i = wy i) → wy' k = nI (sq_nx (sq_mt ty va sT bo ki) (sq_R re) l f e v k) → wY_take_35 post (nI e) lo (nI f) (nI n) (nI st) (nI w) (d + 1) (nI (k + 1)) ty va ti sT bo ki re wy' be := by
      intro wy' h1 h2
      refine ih (k + 1) wy' (by omega) (fun j hj => ?_)
      by_cases c : j = k
      · subst c; exact h2
      · rw [h1 j c]; exact hI j (by omega)
    rcases hl with ⟨hl0, hlo, hef⟩ | ⟨hl0, hlo, hef, hb10⟩
    · have hl' : yq_bf lo l f e e := Or.inl ⟨hl0, hlo, hef⟩
      have t89 : ∀ z0 : Int32, wY_take_89 post (wY_take_35 post (nI e) lo (nI f) (nI n) (nI st) (nI w) (d + 1)) (nI e) lo (nI f) (nI k) z0 (nI n) (nI st) (nI w) ty va ti sT bo ki re wy be := by
        intro z0
        unfold wY_take_89
        refine br_f (by rw [hlo]; decide) (br_c (fun q => ?_) (fun q => ?_))
        · have z : k = 0 := (nI_eq (b := 0) (by omega) (by omega)).mp q
          refine yq_110 (z := 1) H he (by omega) hf hl' (fun a => ?_) (fun a => ?_) nx
          · unfold sq_nx
            rw [if_pos hl0, if_pos ⟨z, by rw [z, ← hef] at a; exact a⟩]
          · unfold sq_nx
            rw [if_pos hl0, if_neg]
            intro y
            rw [z, ← hef, y.2] at a
            exact nomatch a
        · have z : k ≠ 0 := fun z => q (by rw [z]; rfl)
          refine yq_110 (z := 0) H he (by omega) hf hl' (fun a => ?_) (fun a => ?_) nx
          · unfold sq_nx
            rw [if_pos hl0, if_neg (fun y => z y.1)]
          · unfold sq_nx
            rw [if_pos hl0, if_neg (fun y => z y.1)]
      have t65 : ∀ z0 : Int32, wY_take_65 post (wY_take_35 post (nI e) lo (nI f) (nI n) (nI st) (nI w) (d + 1)) (nI e) lo (nI f) (nI k) z0 (nI n) (nI st) (nI w) ty va ti sT bo ki re wy be := by
        intro z0
        unfold wY_take_65
        refine br_c (fun q => t89 z0) (fun q => ⟨?_, t89 _⟩)
        have z : k ≠ 0 := fun z => q (by rw [z]; decide)
        obtain ⟨j, rfl⟩ : ∃ j, k = j + 1 := ⟨k - 1, by omega⟩
        rw [nI_pred]
        exact vp_in_nI (by omega) (by omega)
      exact br_f (nI_ge (by omega) (by omega)) ⟨vk, br_c (fun q => t65 0) (fun q => ⟨vk, t65 _⟩)⟩
    · have hl' : yq_bf lo l f e b := Or.inr ⟨hl0, hlo, hef, hb10⟩
      have hz : ¬ l = 0 := by omega
      have hb' := hb hz
      have hlb : l - 1 = b := by omega
      have t110 : ∀ z : Nat, z = (if (sq_R re) k = true then v k else 0) + (if k = 0 then 0 else v (k - 1)) → wY_take_89 post (wY_take_35 post (nI e) lo (nI f) (nI n) (nI st) (nI w) (d + 1)) (nI e) lo (nI f) (nI k) (nI z) (nI n) (nI st) (nI w) ty va ti sT bo ki re wy be := by
        intro z ez
        unfold wY_take_89
        refine br_t (by rw [hlo]; exact nI_pos' (by omega)) (yq_110 H he (by omega) hf hl' (fun a => ?_) (fun a => ?_) nx)
        · unfold sq_nx
          rw [if_neg hz, hlb, if_pos a, ez]
        · unfold sq_nx
          rw [if_neg hz, hlb, if_neg (by rw [a]; decide)]
      have t65 : ∀ z : Nat, z = (if (sq_R re) k = true then v k else 0) → wY_take_65 post (wY_take_35 post (nI e) lo (nI f) (nI n) (nI st) (nI w) (d + 1)) (nI e) lo (nI f) (nI k) (nI z) (nI n) (nI st) (nI w) ty va ti sT bo ki re wy be := by
        intro z ez
        unfold wY_take_65
        refine br_c (fun q => ?_) (fun q => ?_)
        · have y : k = 0 := by
            have := (nI_leI (b := 0) (show k < 2 ^ 31 by omega) (by omega)).mp q
            omega
          exact t110 z (by rw [if_pos y, ez]; rfl)
        · have y : k ≠ 0 := fun z => q (by rw [z]; decide)
          obtain ⟨j, rfl⟩ : ∃ j, k = j + 1 := ⟨k - 1, by omega⟩
          rw [nI_pred, nI_clamp (by omega), hb' j (by omega), nI_add]
          exact ⟨vp_in_nI (by omega) (by omega), t110 _ (by rw [if_neg y, ez]; rfl)⟩
      refine br_f (nI_ge (by omega) (by omega)) ⟨vk, br_c (fun q => t65 0 ?_) (fun q => ⟨vk, ?_⟩)⟩
      · rw [if_neg]
        intro y
        have y2 := of_decide_eq_true y
        rw [q] at y2
        exact absurd y2 (by decide)
      · rw [hb' k (by omega)]
        refine t65 (v k) ?_
        rcases sq_re (H := H) k with r | r
        · exact absurd r q
        · rw [if_pos (show (sq_R re) k = true from decide_eq_true r)]
theorem yq_3 {post : SY → Prop} {lo : Int32} {l e b f : Nat} {v : Nat → Nat} {wy : Nat → Int32} (H : sq_W n st w tn ti ki re) (he : e < 10) (hf : f < 10) (hl : yq_bf lo l f e b) (hb : l ≠ 0 → ∀ j, j < st → wy j = nI (v j))
    (h : ∀ wy' be' : Nat → Int32, (∀ j, j < st → wy' j = nI (sq_nx (sq_mt ty va sT bo ki) (sq_R re) l f e v j)) → post (nI n, nI st, nI w, ty, va, ti, sT, bo, ki, re, wy', be')) :
    ∀ (d k : Nat) (be : Nat → Int32), k + d = st → (∀ j, j < k → be j = wy j) → wY_take_3 post (nI e) lo (nI f) (nI n) (nI st) (nI w) (d + 1) (nI k) ty va ti sT bo ki re wy be := by
  have hst : st ≤ 4 := H.2.1
  intro d
  induction d with
  | zero =>
    intro k be hk hI
    have z : k = st := by omega
    subst z
    rw [wY_take_3]
    refine br_t (nI_le (Nat.le_refl _) (by omega)) ⟨_, yq_35 (v := v) H he hf hl (fun z j hj => ?_) (fun wy' hw => h wy' be hw) k 0 wy (by omega) (fun j hj => absurd hj (Nat.not_lt_zero j))⟩
    rw [hI j hj]; exact hb z j hj
  | succ d ih =>
    intro k be hk hI
    rw [wY_take_3]
    have ek : (nI k).toNatClampNeg = k := nI_clamp (by omega)
    have vk : vp_in (nI k) 4 := vp_in_nI (by omega) (by omega)
    dsimp only
    rw [ek]
    refine br_f (nI_ge (by omega) (by omega)) ⟨vk, vk, nm_e (nm_r (nI_1 k) (ih (k + 1) _ (by omega) (fun j hj => ?_)))⟩
    by_cases c : j = k
    · subst c; exact pk_us
    · rw [pk_un c]; exact hI j (by omega)
theorem yq_take {post : SY → Prop} {lo : Int32} {l e b f : Nat} {v : Nat → Nat} {wy be : Nat → Int32} (H : sq_W n st w tn ti ki re) (he : e < 10) (hf : f < 10) (hl : yq_bf lo l f e b) (hb : l ≠ 0 → ∀ j, j < st → wy j = nI (v j))
    (h : ∀ wy' be' : Nat → Int32, (∀ j, j < st → wy' j = nI (sq_nx (sq_mt ty va sT bo ki) (sq_R re) l f e v j)) → post (nI n, nI st, nI w, ty, va, ti, sT, bo, ki, re, wy', be')) : wpY_take post (nI n, nI st, nI w, ty, va, ti, sT, bo, ki, re, wy, be) (nI e) lo (nI f) :=
  ⟨_, yq_3 H he hf hl hb h st 0 be (by omega) (fun j hj => absurd hj (Nat.not_lt_zero j))⟩
end
section
/-! the reference: findsOf -/
theorem sq_fi_lt {s : Nat} (n : Nat) (h : sq_ls s n ≠ 0) : sq_fi s n < sq_ls s n ∧ sq_ls s n ≤ n := by
  induction n with
  | zero => exact absurd rfl h
  | succ n ih =>
    cases b : s.testBit n
    · rw [sq_ls_n b] at h ⊢
      rw [sq_fi_n b]
      have := ih h
      exact ⟨this.1, by omega⟩
    · rw [sq_ls_y b, sq_fi_y b]
      refine ⟨?_, Nat.le_refl _⟩
      by_cases c : sq_ls s n = 0
      · rw [if_pos c]; omega
      · rw [if_neg c]
        have := ih c
        omega
theorem sq_nx_f {M : Nat → Nat → Nat → Nat → Bool} {R : Nat → Bool} {s e k : Nat} {v : Nat → Nat} (he : e ≤ 10) : sq_nx M R (sq_ls s e) (sq_fi s e) e v k = sq_nx M R (sq_ls s e) (sq_I s) e v k := by
  by_cases c : sq_ls s e = 0
  · unfold sq_nx; rw [if_pos c, if_pos c]
  · rw [sq_I_of he c]
def yq_lo (l : Nat) : Int32 := if l = 0 then (-1) else nI (l - 1)
theorem sq_F_le {M : Nat → Nat → Nat → Nat → Bool} {R : Nat → Bool} {tn : Nat → Nat} {w st s : Nat} (hs : s < 2 ^ 10) : sq_F M R tn w st s ≤ 1024 := by
  have h := sq_Vle M R (n := 10) (by decide) s hs (st - 1)
  have h2 : 2 ^ sq_L s ≤ 2 ^ 10 := Nat.pow_le_pow_right (by decide) (sq_Lle (n := 10) (by decide) hs)
  unfold sq_F
  split
  · omega
  · omega
variable {n st w : Nat} {tn : Nat → Nat} {ty va ti sT bo ki re : Nat → Int32}
theorem yq_11 {post : Int32 → SY → Prop} {s : Nat} (H : sq_W n st w tn ti ki re) (hs : s < 2 ^ n) (h0 : s ≠ 0) (h : ∀ wy be : Nat → Int32, post (nI (sq_F (sq_mt ty va sT bo ki) (sq_R re) tn w st s)) (nI n, nI st, nI w, ty, va, ti, sT, bo, ki, re, wy, be)) :
    ∀ (d e : Nat) (wy be : Nat → Int32), e + d = n → (sq_ls s e ≠ 0 → ∀ k, k < st → wy k = nI (sq_v (sq_mt ty va sT bo ki) (sq_R re) s e k)) → wY_findsOf_11 post (nI s) (nI (sq_I s)) (d + 1) (yq_lo (sq_ls s e)) (nI e) (nI n) (nI st) (nI w) ty va ti sT bo ki re wy be := by
  have hn : n ≤ 10 := H.1
  have hst : st ≤ 4 := H.2.1
  have hp := sq_p1024 hn
  have hI := sq_Ilt' hn hs h0
  intro d
  induction d with
  | zero =>
    intro e wy be he hv
    have z : e = n := by omega
    subst z
    have t := sq_at10 (sq_mt ty va sT bo ki) (sq_R re) hn hs
    have hL := sq_Lpos hn hs h0
    have hL2 := sq_Lle hn hs
    have hL3 := sq_Ilt hn s hs h0
    rw [t.1, t.2] at hv
    rw [wY_findsOf_11, t.1]
    obtain ⟨b, hb⟩ : ∃ b, sq_L s = b + 1 := ⟨sq_L s - 1, by omega⟩
    have eb : yq_lo (sq_L s) = nI b := by
      unfold yq_lo
      rw [hb, if_neg (by omega)]; rfl
    have cb : (nI b).toNatClampNeg = b := nI_clamp (by omega)
    have ci : (nI (sq_I s)).toNatClampNeg = sq_I s := nI_clamp (by omega)
    have hF : sq_F (sq_mt ty va sT bo ki) (sq_R re) tn w st s = if 0 < b + 1 ∧ 0 < st ∧ tn b - tn (sq_I s) ≤ w then sq_V (sq_mt ty va sT bo ki) (sq_R re) s (st - 1) else 0 := by
      unfold sq_F
      rw [hb, Nat.add_sub_cancel]
    have hh := h wy be
    rw [hF] at hh
    dsimp only
    rw [eb, cb, ci]
    have near := sq_nearI H (show sq_I s ≤ b by omega) (show b < e by omega)
    refine br_t (nI_le (Nat.le_refl _) (by omega)) (br_f (nI_pos (by omega)) ⟨vp_in_nI (by omega) (by omega), vp_in_nI (by omega) (by omega), br_c (fun q => ?_) (fun q => ?_)⟩)
    · have k : ¬ tn b - tn (sq_I s) ≤ w := fun z => absurd q (Int32.not_lt.mpr (near.mpr z))
      rw [if_neg (fun z => k z.2.2)] at hh
      exact br_t rfl hh
    · have k : tn b - tn (sq_I s) ≤ w := near.mp (Int32.not_lt.mp q)
      refine br_f (by decide) (br_c (fun q2 => ?_) (fun q2 => ?_))
      · have y := (sq_le0 (c := st) (by omega)).mp q2
        rw [if_neg (fun z => absurd z.2.1 (by omega))] at hh
        exact hh
      · have y : st ≠ 0 := fun z => q2 ((sq_le0 (c := st) (by omega)).mpr z)
        obtain ⟨j, rfl⟩ : ∃ j, st = j + 1 := ⟨st - 1, by omega⟩
        rw [if_pos ⟨by omega, by omega, k⟩] at hh
        rw [nI_pred, nI_clamp (by omega), hv (by omega) j (by omega)]
        exact ⟨vp_in_nI (by omega) (by omega), hh⟩
  | succ d ih =>
    intro e wy be he hv
    rw [wY_findsOf_11]
    refine br_f (nI_ge (by omega) (by omega)) ?_
    rw [sq_bit1 (by omega) (by omega)]
    have ih' := ih (e + 1)
    cases b : s.testBit e
    · refine br_f (by decide) (nm_r (nI_1 e) ?_)
      have a := ih' wy be (by omega)
      rw [sq_ls_n b, sq_v_n b] at a
      exact a hv
    · have el : yq_lo (sq_ls s (e + 1)) = nI e := by
        unfold yq_lo
        rw [sq_ls_y b, if_neg (by omega)]; rfl
      rw [el] at ih'
      refine br_t rfl (yq_take (l := sq_ls s e) (b := sq_ls s e - 1) (v := sq_v (sq_mt ty va sT bo ki) (sq_R re) s e) H (by omega) (by omega) ?_ hv (fun wy' be' hw => nm_r (nI_1 e) (ih' wy' be' (by omega) (fun _ k hk => ?_))))
      · unfold yq_lo
        by_cases c : sq_ls s e = 0
        · refine Or.inl ⟨c, if_pos c, (sq_I_at (by omega) b c).symm⟩
        · have l := sq_fi_lt e c
          rw [sq_I_of (by omega) c] at l
          exact Or.inr ⟨by omega, if_neg c, by omega, by omega⟩
      · rw [hw k hk, sq_v_y b, sq_nx_f (by omega)]
theorem yq_finds1 {post : Int32 → SY → Prop} {s : Nat} {wy be : Nat → Int32} (H : sq_W n st w tn ti ki re) (hs : s < 2 ^ n) (h0 : s ≠ 0) (h : ∀ wy' be' : Nat → Int32, post (nI (sq_F (sq_mt ty va sT bo ki) (sq_R re) tn w st s)) (nI n, nI st, nI w, ty, va, ti, sT, bo, ki, re, wy', be')) : wpY_findsOf post (nI n, nI st, nI w, ty, va, ti, sT, bo, ki, re, wy, be) (nI s) := by
  have hp := sq_p1024 H.1
  unfold wpY_findsOf
  try dsimp only
  exact yq_first (by omega) ⟨_, yq_11 H hs h0 h n 0 wy be (by omega) (fun z => absurd rfl z)⟩
/-- is it an event: both sides -/
theorem xq_ev0 {post : Int32 → Prop} {x : Int32} {wa le : Nat → Int32} (hx : x < 0 ∨ nI n ≤ x) (h : post 0) : wpX_isEvent post (nI n, nI st, nI w, ty, va, ti, sT, bo, ki, re, wa, le) x := by
  unfold wpX_isEvent
  try dsimp only
  exact br_c (fun _ => h) (fun q => br_t (hx.resolve_left q) h)
theorem xq_ev1 {post : Int32 → Prop} {j : Nat} {wa le : Nat → Int32} (hn : n ≤ 10) (hj : j < n) (h : post 1) : wpX_isEvent post (nI n, nI st, nI w, ty, va, ti, sT, bo, ki, re, wa, le) (nI j) := by
  unfold wpX_isEvent
  try dsimp only
  exact br_f (nI_pos (by omega)) (br_f (nI_ge hj (by omega)) h)
theorem yq_ev0 {post : Int32 → Prop} {x : Int32} {wa le : Nat → Int32} (hx : x < 0 ∨ nI n ≤ x) (h : post 0) : wpY_isEvent post (nI n, nI st, nI w, ty, va, ti, sT, bo, ki, re, wa, le) x := by
  unfold wpY_isEvent
  try dsimp only
  exact br_c (fun _ => h) (fun q => br_t (hx.resolve_left q) h)
theorem yq_ev1 {post : Int32 → Prop} {j : Nat} {wa le : Nat → Int32} (hn : n ≤ 10) (hj : j < n) (h : post 1) : wpY_isEvent post (nI n, nI st, nI w, ty, va, ti, sT, bo, ki, re, wa, le) (nI j) := by
  unfold wpY_isEvent
  try dsimp only
  exact br_f (nI_pos (by omega)) (br_f (nI_ge hj (by omega)) h)
end
section
/-! the reference: the queries, loops over all sets -/
theorem sq_Zpos' {n t : Nat} (hn : n ≤ 10) (ht : t < 2 ^ n) (h0 : t ≠ 0) : 0 < sq_Z t := by
  rcases sq_cases ht with z | ⟨e, s, he, hs, q⟩
  · exact absurd z h0
  · rw [q]; exact sq_Zpos (by omega) hs
theorem sq_sm1 {g : Nat → Nat} (h : g 0 = 0) : sq_sm g 1 = 0 := (sq_fo_1 sq_oa g).trans h
variable {n st w : Nat} {tn : Nat → Nat} {ty va ti sT bo ki re : Nat → Int32}
theorem yq_findsL {post : Int32 → SY → Prop} (H : sq_W n st w tn ti ki re) (h : ∀ wy be : Nat → Int32, post (nI (sq_sm (sq_F (sq_mt ty va sT bo ki) (sq_R re) tn w st) (2 ^ n))) (nI n, nI st, nI w, ty, va, ti, sT, bo, ki, re, wy, be)) :
    ∀ (d i : Nat) (wy be : Nat → Int32), i + d = 2 ^ n → 0 < i → wY_finds_4 post (d + 1) (nI (sq_sm (sq_F (sq_mt ty va sT bo ki) (sq_R re) tn w st) i)) (nI i) (nI n) (nI st) (nI w) ty va ti sT bo ki re wy be := by
  have hn : n ≤ 10 := H.1
  have hp := sq_p1024 hn
  intro d
  induction d with
  | zero =>
    intro i wy be hi _
    have z : i = 2 ^ n := by omega
    subst z
    rw [wY_finds_4]
    dsimp only
    rw [sq_shl hn]
    exact br_t (nI_le (Nat.le_refl _) (by omega)) (h wy be)
  | succ d ih =>
    intro i wy be hi h0
    rw [wY_finds_4]
    dsimp only
    rw [sq_shl hn]
    refine br_f (nI_ge (by omega) (by omega)) ?_
    have hs : i < 2 ^ n := by omega
    have hz : i ≠ 0 := by omega
    have h1024 : i < 1024 := by omega
    have nx : ∀ (y : Nat) (wy' be' : Nat → Int32), y = (sq_F (sq_mt ty va sT bo ki) (sq_R re) tn w st) i → ∀ x : Int32, x = nI i + 1 → wY_finds_4 post (d + 1) (nI (sq_sm (sq_F (sq_mt ty va sT bo ki) (sq_R re) tn w st) i) + nI y) x (nI n) (nI st) (nI w) ty va ti sT bo ki re wy' be' := by
      intro y wy' be' ey x ex
      rw [ex, nI_1 i, nI_add, ey]
      exact ih (i + 1) wy' be' (by omega) (by omega)
    have sk : (sq_F (sq_mt ty va sT bo ki) (sq_R re) tn w st) i = 0 → ∀ x : Int32, x = nI i + 1 → wY_finds_4 post (d + 1) (nI (sq_sm (sq_F (sq_mt ty va sT bo ki) (sq_R re) tn w st) i)) x (nI n) (nI st) (nI w) ty va ti sT bo ki re wy be := by
      intro ey x ex
      have a := nx 0 wy be ey.symm x ex
      rw [nI_add, Nat.add_zero] at a
      exact a
    refine yq_finds1 H hs hz (fun wy' be' => ?_)
    try dsimp only
    exact nm_e (nx _ wy' be' rfl)
theorem yq_findsS {post : Int32 → SY → Prop} {wy be : Nat → Int32} (H : sq_W n st w tn ti ki re) (h : ∀ wy be : Nat → Int32, post (nI (sq_sm (sq_F (sq_mt ty va sT bo ki) (sq_R re) tn w st) (2 ^ n))) (nI n, nI st, nI w, ty, va, ti, sT, bo, ki, re, wy, be)) : ∃ m, wY_finds_4 post m 0 1 (nI n) (nI st) (nI w) ty va ti sT bo ki re wy be := by
  have hp := Nat.two_pow_pos n
  have a := yq_findsL H h (2 ^ n - 1) 1 wy be (by omega) (by omega)
  rw [sq_sm1 (sq_F0)] at a
  exact ⟨_, a⟩
theorem yq_endL {post : Int32 → SY → Prop} {e : Nat} (he : e < 10) (H : sq_W n st w tn ti ki re) (h : ∀ wy be : Nat → Int32, post (nI (sq_sm (fun t => if sq_L t - 1 = e then sq_F (sq_mt ty va sT bo ki) (sq_R re) tn w st t else 0) (2 ^ n))) (nI n, nI st, nI w, ty, va, ti, sT, bo, ki, re, wy, be)) :
    ∀ (d i : Nat) (wy be : Nat → Int32), i + d = 2 ^ n → 0 < i → wY_endingAt_15 post (nI e) (d + 1) (nI (sq_sm (fun t => if sq_L t - 1 = e then sq_F (sq_mt ty va sT bo ki) (sq_R re) tn w st t else 0) i)) (nI i) (nI n) (nI st) (nI w) ty va ti sT bo ki re wy be := by
  have hn : n ≤ 10 := H.1
  have hp := sq_p1024 hn
  intro d
  induction d with
  | zero =>
    intro i wy be hi _
    have z : i = 2 ^ n := by omega
    subst z
    rw [wY_endingAt_15]
    dsimp only
    rw [sq_shl hn]
    exact br_t (nI_le (Nat.le_refl _) (by omega)) (h wy be)
  | succ d ih =>
    intro i wy be hi h0
    rw [wY_endingAt_15]
    dsimp only
    rw [sq_shl hn]
    refine br_f (nI_ge (by omega) (by omega)) ?_
    have hs : i < 2 ^ n := by omega
    have hz : i ≠ 0 := by omega
    have h1024 : i < 1024 := by omega
    have nx : ∀ (y : Nat) (wy' be' : Nat → Int32), y = (fun t => if sq_L t - 1 = e then sq_F (sq_mt ty va sT bo ki) (sq_R re) tn w st t else 0) i → ∀ x : Int32, x = nI i + 1 → wY_endingAt_15 post (nI e) (d + 1) (nI (sq_sm (fun t => if sq_L t - 1 = e then sq_F (sq_mt ty va sT bo ki) (sq_R re) tn w st t else 0) i) + nI y) x (nI n) (nI st) (nI w) ty va ti sT bo ki re wy' be' := by
      intro y wy' be' ey x ex
      rw [ex, nI_1 i, nI_add, ey]
      exact ih (i + 1) wy' be' (by omega) (by omega)
    have sk : (fun t => if sq_L t - 1 = e then sq_F (sq_mt ty va sT bo ki) (sq_R re) tn w st t else 0) i = 0 → ∀ x : Int32, x = nI i + 1 → wY_endingAt_15 post (nI e) (d + 1) (nI (sq_sm (fun t => if sq_L t - 1 = e then sq_F (sq_mt ty va sT bo ki) (sq_R re) tn w st t else 0) i)) x (nI n) (nI st) (nI w) ty va ti sT bo ki re wy be := by
      intro ey x ex
      have a := nx 0 wy be ey.symm x ex
      rw [nI_add, Nat.add_zero] at a
      exact a
    have hL := sq_Lle hn hs
    refine yq_last h1024 (br_c (fun q => ?_) (fun q => ?_))
    · have c : sq_L i - 1 = e := (nI_eq (by omega) (by omega)).mp q
      refine yq_finds1 H hs hz (fun wy' be' => ?_)
      try dsimp only
      exact nm_e (nx _ wy' be' (if_pos c).symm)
    · have c : ¬ sq_L i - 1 = e := fun z => q (by rw [z])
      exact sk (if_neg c)
theorem yq_endS {post : Int32 → SY → Prop} {e : Nat} (he : e < 10) {wy be : Nat → Int32} (H : sq_W n st w tn ti ki re) (h : ∀ wy be : Nat → Int32, post (nI (sq_sm (fun t => if sq_L t - 1 = e then sq_F (sq_mt ty va sT bo ki) (sq_R re) tn w st t else 0) (2 ^ n))) (nI n, nI st, nI w, ty, va, ti, sT, bo, ki, re, wy, be)) : ∃ m, wY_endingAt_15 post (nI e) m 0 1 (nI n) (nI st) (nI w) ty va ti sT bo ki re wy be := by
  have hp := Nat.two_pow_pos n
  have a := yq_endL he H h (2 ^ n - 1) 1 wy be (by omega) (by omega)
  rw [sq_sm1 (by rw [sq_F0]; split <;> rfl)] at a
  exact ⟨_, a⟩
theorem yq_begL {post : Int32 → SY → Prop} {e : Nat} (he : e < 10) (H : sq_W n st w tn ti ki re) (h : ∀ wy be : Nat → Int32, post (nI (sq_sm (fun t => if sq_I t = e then sq_F (sq_mt ty va sT bo ki) (sq_R re) tn w st t else 0) (2 ^ n))) (nI n, nI st, nI w, ty, va, ti, sT, bo, ki, re, wy, be)) :
    ∀ (d i : Nat) (wy be : Nat → Int32), i + d = 2 ^ n → 0 < i → wY_beginningAt_15 post (nI e) (d + 1) (nI (sq_sm (fun t => if sq_I t = e then sq_F (sq_mt ty va sT bo ki) (sq_R re) tn w st t else 0) i)) (nI i) (nI n) (nI st) (nI w) ty va ti sT bo ki re wy be := by
  have hn : n ≤ 10 := H.1
  have hp := sq_p1024 hn
  intro d
  induction d with
  | zero =>
    intro i wy be hi _
    have z : i = 2 ^ n := by omega
    subst z
    rw [wY_beginningAt_15]
    dsimp only
    rw [sq_shl hn]
    exact br_t (nI_le (Nat.le_refl _) (by omega)) (h wy be)
  | succ d ih =>
    intro i wy be hi h0
    rw [wY_beginningAt_15]
    dsimp only
    rw [sq_shl hn]
    refine br_f (nI_ge (by omega) (by omega)) ?_
    have hs : i < 2 ^ n := by omega
    have hz : i ≠ 0 := by omega
    have h1024 : i < 1024 := by omega
    have nx : ∀ (y : Nat) (wy' be' : Nat → Int32), y = (fun t => if sq_I t = e then sq_F (sq_mt ty va sT bo ki) (sq_R re) tn w st t else 0) i → ∀ x : Int32, x = nI i + 1 → wY_beginningAt_15 post (nI e) (d + 1) (nI (sq_sm (fun t => if sq_I t = e then sq_F (sq_mt ty va sT bo ki) (sq_R re) tn w st t else 0) i) + nI y) x (nI n) (nI st) (nI w) ty va ti sT bo ki re wy' be' := by
      intro y wy' be' ey x ex
      rw [ex, nI_1 i, nI_add, ey]
      exact ih (i + 1) wy' be' (by omega) (by omega)
    have sk : (fun t => if sq_I t = e then sq_F (sq_mt ty va sT bo ki) (sq_R re) tn w st t else 0) i = 0 → ∀ x : Int32, x = nI i + 1 → wY_beginningAt_15 post (nI e) (d + 1) (nI (sq_sm (fun t => if sq_I t = e then sq_F (sq_mt ty va sT bo ki) (sq_R re) tn w st t else 0) i)) x (nI n) (nI st) (nI w) ty va ti sT bo ki re wy be := by
      intro ey x ex
      have a := nx 0 wy be ey.symm x ex
      rw [nI_add, Nat.add_zero] at a
      exact a
    have hL := sq_Ilt' hn hs hz
    refine yq_first h1024 (br_c (fun q => ?_) (fun q => ?_))
    · have c : sq_I i = e := (nI_eq (by omega) (by omega)).mp q
      refine yq_finds1 H hs hz (fun wy' be' => ?_)
      try dsimp only
      exact nm_e (nx _ wy' be' (if_pos c).symm)
    · have c : ¬ sq_I i = e := fun z => q (by rw [z])
      exact sk (if_neg c)
theorem yq_begS {post : Int32 → SY → Prop} {e : Nat} (he : e < 10) {wy be : Nat → Int32} (H : sq_W n st w tn ti ki re) (h : ∀ wy be : Nat → Int32, post (nI (sq_sm (fun t => if sq_I t = e then sq_F (sq_mt ty va sT bo ki) (sq_R re) tn w st t else 0) (2 ^ n))) (nI n, nI st, nI w, ty, va, ti, sT, bo, ki, re, wy, be)) : ∃ m, wY_beginningAt_15 post (nI e) m 0 1 (nI n) (nI st) (nI w) ty va ti sT bo ki re wy be := by
  have hp := Nat.two_pow_pos n
  have a := yq_begL he H h (2 ^ n - 1) 1 wy be (by omega) (by omega)
  rw [sq_sm1 (by rw [sq_F0]; split <;> rfl)] at a
  exact ⟨_, a⟩
theorem yq_usL {post : Int32 → SY → Prop} {e : Nat} (he : e < 10) (H : sq_W n st w tn ti ki re) (h : ∀ wy be : Nat → Int32, post (nI (sq_sm (fun t => if t.testBit e = true then sq_F (sq_mt ty va sT bo ki) (sq_R re) tn w st t else 0) (2 ^ n))) (nI n, nI st, nI w, ty, va, ti, sT, bo, ki, re, wy, be)) :
    ∀ (d i : Nat) (wy be : Nat → Int32), i + d = 2 ^ n → 0 < i → wY_using_15 post (nI e) (d + 1) (nI (sq_sm (fun t => if t.testBit e = true then sq_F (sq_mt ty va sT bo ki) (sq_R re) tn w st t else 0) i)) (nI i) (nI n) (nI st) (nI w) ty va ti sT bo ki re wy be := by
  have hn : n ≤ 10 := H.1
  have hp := sq_p1024 hn
  intro d
  induction d with
  | zero =>
    intro i wy be hi _
    have z : i = 2 ^ n := by omega
    subst z
    rw [wY_using_15]
    dsimp only
    rw [sq_shl hn]
    exact br_t (nI_le (Nat.le_refl _) (by omega)) (h wy be)
  | succ d ih =>
    intro i wy be hi h0
    rw [wY_using_15]
    dsimp only
    rw [sq_shl hn]
    refine br_f (nI_ge (by omega) (by omega)) ?_
    have hs : i < 2 ^ n := by omega
    have hz : i ≠ 0 := by omega
    have h1024 : i < 1024 := by omega
    have nx : ∀ (y : Nat) (wy' be' : Nat → Int32), y = (fun t => if t.testBit e = true then sq_F (sq_mt ty va sT bo ki) (sq_R re) tn w st t else 0) i → ∀ x : Int32, x = nI i + 1 → wY_using_15 post (nI e) (d + 1) (nI (sq_sm (fun t => if t.testBit e = true then sq_F (sq_mt ty va sT bo ki) (sq_R re) tn w st t else 0) i) + nI y) x (nI n) (nI st) (nI w) ty va ti sT bo ki re wy' be' := by
      intro y wy' be' ey x ex
      rw [ex, nI_1 i, nI_add, ey]
      exact ih (i + 1) wy' be' (by omega) (by omega)
    have sk : (fun t => if t.testBit e = true then sq_F (sq_mt ty va sT bo ki) (sq_R re) tn w st t else 0) i = 0 → ∀ x : Int32, x = nI i + 1 → wY_using_15 post (nI e) (d + 1) (nI (sq_sm (fun t => if t.testBit e = true then sq_F (sq_mt ty va sT bo ki) (sq_R re) tn w st t else 0) i)) x (nI n) (nI st) (nI w) ty va ti sT bo ki re wy be := by
      intro ey x ex
      have a := nx 0 wy be ey.symm x ex
      rw [nI_add, Nat.add_zero] at a
      exact a
    rw [sq_bit1 h1024 he]
    cases b : i.testBit e
    · exact br_f (by decide) (sk (if_neg (by rw [b]; decide)))
    · refine br_t rfl (yq_finds1 H hs hz (fun wy' be' => ?_))
      try dsimp only
      exact nm_e (nx _ wy' be' (if_pos b).symm)
theorem yq_usS {post : Int32 → SY → Prop} {e : Nat} (he : e < 10) {wy be : Nat → Int32} (H : sq_W n st w tn ti ki re) (h : ∀ wy be : Nat → Int32, post (nI (sq_sm (fun t => if t.testBit e = true then sq_F (sq_mt ty va sT bo ki) (sq_R re) tn w st t else 0) (2 ^ n))) (nI n, nI st, nI w, ty, va, ti, sT, bo, ki, re, wy, be)) : ∃ m, wY_using_15 post (nI e) m 0 1 (nI n) (nI st) (nI w) ty va ti sT bo ki re wy be := by
  have hp := Nat.two_pow_pos n
  have a := yq_usL he H h (2 ^ n - 1) 1 wy be (by omega) (by omega)
  rw [sq_sm1 (by rw [sq_F0]; split <;> rfl)] at a
  exact ⟨_, a⟩
theorem yq_woL {post : Int32 → SY → Prop} {e : Nat} (he : e < 10) (H : sq_W n st w tn ti ki re) (h : ∀ wy be : Nat → Int32, post (nI (sq_sm (sq_g e (sq_F (sq_mt ty va sT bo ki) (sq_R re) tn w st)) (2 ^ n))) (nI n, nI st, nI w, ty, va, ti, sT, bo, ki, re, wy, be)) :
    ∀ (d i : Nat) (wy be : Nat → Int32), i + d = 2 ^ n → 0 < i → wY_without_15 post (nI e) (d + 1) (nI (sq_sm (sq_g e (sq_F (sq_mt ty va sT bo ki) (sq_R re) tn w st)) i)) (nI i) (nI n) (nI st) (nI w) ty va ti sT bo ki re wy be := by
  have hn : n ≤ 10 := H.1
  have hp := sq_p1024 hn
  intro d
  induction d with
  | zero =>
    intro i wy be hi _
    have z : i = 2 ^ n := by omega
    subst z
    rw [wY_without_15]
    dsimp only
    rw [sq_shl hn]
    exact br_t (nI_le (Nat.le_refl _) (by omega)) (h wy be)
  | succ d ih =>
    intro i wy be hi h0
    rw [wY_without_15]
    dsimp only
    rw [sq_shl hn]
    refine br_f (nI_ge (by omega) (by omega)) ?_
    have hs : i < 2 ^ n := by omega
    have hz : i ≠ 0 := by omega
    have h1024 : i < 1024 := by omega
    have nx : ∀ (y : Nat) (wy' be' : Nat → Int32), y = (sq_g e (sq_F (sq_mt ty va sT bo ki) (sq_R re) tn w st)) i → ∀ x : Int32, x = nI i + 1 → wY_without_15 post (nI e) (d + 1) (nI (sq_sm (sq_g e (sq_F (sq_mt ty va sT bo ki) (sq_R re) tn w st)) i) + nI y) x (nI n) (nI st) (nI w) ty va ti sT bo ki re wy' be' := by
      intro y wy' be' ey x ex
      rw [ex, nI_1 i, nI_add, ey]
      exact ih (i + 1) wy' be' (by omega) (by omega)
    have sk : (sq_g e (sq_F (sq_mt ty va sT bo ki) (sq_R re) tn w st)) i = 0 → ∀ x : Int32, x = nI i + 1 → wY_without_15 post (nI e) (d + 1) (nI (sq_sm (sq_g e (sq_F (sq_mt ty va sT bo ki) (sq_R re) tn w st)) i)) x (nI n) (nI st) (nI w) ty va ti sT bo ki re wy be := by
      intro ey x ex
      have a := nx 0 wy be ey.symm x ex
      rw [nI_add, Nat.add_zero] at a
      exact a
    rw [sq_bit1 h1024 he]
    cases b : i.testBit e
    · refine br_t rfl (yq_finds1 H hs hz (fun wy' be' => ?_))
      try dsimp only
      exact nm_e (nx _ wy' be' (if_pos b).symm)
    · exact br_f (by decide) (sk (if_neg (by rw [b]; decide)))
theorem yq_woS {post : Int32 → SY → Prop} {e : Nat} (he : e < 10) {wy be : Nat → Int32} (H : sq_W n st w tn ti ki re) (h : ∀ wy be : Nat → Int32, post (nI (sq_sm (sq_g e (sq_F (sq_mt ty va sT bo ki) (sq_R re) tn w st)) (2 ^ n))) (nI n, nI st, nI w, ty, va, ti, sT, bo, ki, re, wy, be)) : ∃ m, wY_without_15 post (nI e) m 0 1 (nI n) (nI st) (nI w) ty va ti sT bo ki re wy be := by
  have hp := Nat.two_pow_pos n
  have a := yq_woL he H h (2 ^ n - 1) 1 wy be (by omega) (by omega)
  rw [sq_sm1 (sq_g0)] at a
  exact ⟨_, a⟩
theorem yq_lvL {post : Int32 → SY → Prop} (H : sq_W n st w tn ti ki re) (h : ∀ wy be : Nat → Int32, post (nI (sq_sm (fun t => sq_vn va (sq_L t - 1) * sq_F (sq_mt ty va sT bo ki) (sq_R re) tn w st t) (2 ^ n))) (nI n, nI st, nI w, ty, va, ti, sT, bo, ki, re, wy, be)) :
    ∀ (d i : Nat) (wy be : Nat → Int32), i + d = 2 ^ n → 0 < i → wY_lastValues_4 post (d + 1) (nI (sq_sm (fun t => sq_vn va (sq_L t - 1) * sq_F (sq_mt ty va sT bo ki) (sq_R re) tn w st t) i)) (nI i) (nI n) (nI st) (nI w) ty va ti sT bo ki re wy be := by
  have hn : n ≤ 10 := H.1
  have hp := sq_p1024 hn
  intro d
  induction d with
  | zero =>
    intro i wy be hi _
    have z : i = 2 ^ n := by omega
    subst z
    rw [wY_lastValues_4]
    dsimp only
    rw [sq_shl hn]
    exact br_t (nI_le (Nat.le_refl _) (by omega)) (h wy be)
  | succ d ih =>
    intro i wy be hi h0
    rw [wY_lastValues_4]
    dsimp only
    rw [sq_shl hn]
    refine br_f (nI_ge (by omega) (by omega)) ?_
    have hs : i < 2 ^ n := by omega
    have hz : i ≠ 0 := by omega
    have h1024 : i < 1024 := by omega
    have nx : ∀ (y : Nat) (wy' be' : Nat → Int32), y = (fun t => sq_vn va (sq_L t - 1) * sq_F (sq_mt ty va sT bo ki) (sq_R re) tn w st t) i → ∀ x : Int32, x = nI i + 1 → wY_lastValues_4 post (d + 1) (nI (sq_sm (fun t => sq_vn va (sq_L t - 1) * sq_F (sq_mt ty va sT bo ki) (sq_R re) tn w st t) i) + nI y) x (nI n) (nI st) (nI w) ty va ti sT bo ki re wy' be' := by
      intro y wy' be' ey x ex
      rw [ex, nI_1 i, nI_add, ey]
      exact ih (i + 1) wy' be' (by omega) (by omega)
    have sk : (fun t => sq_vn va (sq_L t - 1) * sq_F (sq_mt ty va sT bo ki) (sq_R re) tn w st t) i = 0 → ∀ x : Int32, x = nI i + 1 → wY_lastValues_4 post (d + 1) (nI (sq_sm (fun t => sq_vn va (sq_L t - 1) * sq_F (sq_mt ty va sT bo ki) (sq_R re) tn w st t) i)) x (nI n) (nI st) (nI w) ty va ti sT bo ki re wy be := by
      intro ey x ex
      have a := nx 0 wy be ey.symm x ex
      rw [nI_add, Nat.add_zero] at a
      exact a
    have hL := sq_Lle hn hs
    have hL2 := sq_Lpos hn hs hz
    refine yq_last h1024 ⟨vp_in_nI (by omega) (by omega), yq_finds1 H hs hz (fun wy' be' => ?_)⟩
    try dsimp only
    rw [nI_clamp (by omega), sq_vnI va (sq_L i - 1), pk_mul]
    exact nm_e (nx _ wy' be' rfl)
theorem yq_lvS {post : Int32 → SY → Prop} {wy be : Nat → Int32} (H : sq_W n st w tn ti ki re) (h : ∀ wy be : Nat → Int32, post (nI (sq_sm (fun t => sq_vn va (sq_L t - 1) * sq_F (sq_mt ty va sT bo ki) (sq_R re) tn w st t) (2 ^ n))) (nI n, nI st, nI w, ty, va, ti, sT, bo, ki, re, wy, be)) : ∃ m, wY_lastValues_4 post m 0 1 (nI n) (nI st) (nI w) ty va ti sT bo ki re wy be := by
  have hp := Nat.two_pow_pos n
  have a := yq_lvL H h (2 ^ n - 1) 1 wy be (by omega) (by omega)
  rw [sq_sm1 (by rw [sq_F0]; rfl)] at a
  exact ⟨_, a⟩
theorem yq_longL {post : Int32 → SY → Prop} (H : sq_W n st w tn ti ki re) (h : ∀ wy be : Nat → Int32, post (sq_en (sq_mx (sq_gL (sq_mt ty va sT bo ki) (sq_R re) tn w st) (2 ^ n))) (nI n, nI st, nI w, ty, va, ti, sT, bo, ki, re, wy, be)) :
    ∀ (d i a : Nat) (wy be : Nat → Int32), i + d = 2 ^ n → 0 < i → a = sq_mx (sq_gL (sq_mt ty va sT bo ki) (sq_R re) tn w st) i → a ≤ 10 → wY_longest_5 post (d + 1) (sq_en a) (nI i) (nI n) (nI st) (nI w) ty va ti sT bo ki re wy be := by
  have hn : n ≤ 10 := H.1
  have hp := sq_p1024 hn
  intro d
  induction d with
  | zero =>
    intro i a wy be hi _ ha _
    have z : i = 2 ^ n := by omega
    subst z
    rw [wY_longest_5]
    dsimp only
    rw [sq_shl hn, ha]
    exact br_t (nI_le (Nat.le_refl _) (by omega)) (h wy be)
  | succ d ih =>
    intro i a wy be hi h0 ha hb
    rw [wY_longest_5]
    dsimp only
    rw [sq_shl hn]
    refine br_f (nI_ge (by omega) (by omega)) ?_
    have hs : i < 2 ^ n := by omega
    have hz : i ≠ 0 := by omega
    have h1024 : i < 1024 := by omega
    have hZ := sq_Zpos' hn hs hz
    have hZ2 := sq_Zle hn i hs
    have hL := sq_Lle hn hs
    have hF := sq_F_le (M := (sq_mt ty va sT bo ki)) (R := (sq_R re)) (tn := tn) (w := w) (st := st) (s := i) (by omega)
    have en := sq_en_lt (a := a) hZ (by omega) (by omega)
    have ms : sq_mx (sq_gL (sq_mt ty va sT bo ki) (sq_R re) tn w st) (i + 1) = max a (if 0 < sq_F (sq_mt ty va sT bo ki) (sq_R re) tn w st i then sq_Z i else 0) := by
      rw [sq_mx_s, ← ha]; rfl
    refine yq_size h1024 (br_c (fun q => nm_r (nI_1 i) (ih (i + 1) a wy be (by omega) (by omega) ?_ hb)) (fun q => yq_finds1 H hs hz (fun wy' be' => ?_)))
    · have k : ¬ a < sq_Z i := fun z => absurd (en.mpr z) (Int32.not_lt.mpr q)
      rw [ms]
      split
      · omega
      · omega
    · have k : a < sq_Z i := en.mp (Int32.not_le.mp q)
      try dsimp only
      refine br_c (fun q2 => nm_r (nI_1 i) (ih (i + 1) a wy' be' (by omega) (by omega) ?_ hb)) (fun q2 => nm_r (nI_1 i) ?_)
      · have y := (sq_le0 (by omega)).mp q2
        rw [ms, if_neg (by omega)]
        omega
      · have y : 0 < sq_F (sq_mt ty va sT bo ki) (sq_R re) tn w st i := Nat.pos_of_ne_zero (fun z => q2 ((sq_le0 (by omega)).mpr z))
        have e : nI (sq_Z i) = sq_en (sq_Z i) := by
          unfold sq_en
          rw [if_neg (by omega)]
        rw [e]
        refine ih (i + 1) (sq_Z i) wy' be' (by omega) (by omega) ?_ (by omega)
        rw [ms, if_pos y]
        omega
theorem yq_longS {post : Int32 → SY → Prop} {wy be : Nat → Int32} (H : sq_W n st w tn ti ki re) (h : ∀ wy be : Nat → Int32, post (sq_en (sq_mx (sq_gL (sq_mt ty va sT bo ki) (sq_R re) tn w st) (2 ^ n))) (nI n, nI st, nI w, ty, va, ti, sT, bo, ki, re, wy, be)) : ∃ m, wY_longest_5 post m (-4) 1 (nI n) (nI st) (nI w) ty va ti sT bo ki re wy be := by
  have hp := Nat.two_pow_pos n
  have a := yq_longL H h (2 ^ n - 1) 1 0 wy be (by omega) (by omega) ((sq_fo_1 sq_om _).trans sq_gL0).symm (by omega)
  exact ⟨_, a⟩
theorem yq_tightL {post : Int32 → SY → Prop} (H : sq_W n st w tn ti ki re) (h : ∀ wy be : Nat → Int32, post (sq_et (sq_fo sq_tm (sq_gT (sq_mt ty va sT bo ki) (sq_R re) tn w st) (2 ^ n))) (nI n, nI st, nI w, ty, va, ti, sT, bo, ki, re, wy, be)) :
    ∀ (d i a : Nat) (wy be : Nat → Int32), i + d = 2 ^ n → 0 < i → a = sq_fo sq_tm (sq_gT (sq_mt ty va sT bo ki) (sq_R re) tn w st) i → a ≤ 51 → wY_tightest_5 post (d + 1) (sq_et a) (nI i) (nI n) (nI st) (nI w) ty va ti sT bo ki re wy be := by
  have hn : n ≤ 10 := H.1
  have hp := sq_p1024 hn
  have tb := H.2.2.2.2.2.1
  intro d
  induction d with
  | zero =>
    intro i a wy be hi _ ha _
    have z : i = 2 ^ n := by omega
    subst z
    rw [wY_tightest_5]
    dsimp only
    rw [sq_shl hn, ha]
    exact br_t (nI_le (Nat.le_refl _) (by omega)) (h wy be)
  | succ d ih =>
    intro i a wy be hi h0 ha hb
    rw [wY_tightest_5]
    dsimp only
    rw [sq_shl hn]
    refine br_f (nI_ge (by omega) (by omega)) ?_
    have hs : i < 2 ^ n := by omega
    have hz : i ≠ 0 := by omega
    have h1024 : i < 1024 := by omega
    have hI := sq_Ilt hn i hs hz
    have hL := sq_Lle hn hs
    have hF := sq_F_le (M := (sq_mt ty va sT bo ki)) (R := (sq_R re)) (tn := tn) (w := w) (st := st) (s := i) (by omega)
    have tl := tb (sq_L i - 1) (by omega)
    have nr := sq_near H (show sq_I i ≤ sq_L i - 1 by omega) (show sq_L i - 1 < n by omega)
    have ms : sq_fo sq_tm (sq_gT (sq_mt ty va sT bo ki) (sq_R re) tn w st) (i + 1) = sq_tm a (if 0 < sq_F (sq_mt ty va sT bo ki) (sq_R re) tn w st i then tn (sq_L i - 1) - tn (sq_I i) + 1 else 0) := by
      rw [sq_fo_s, ← ha]; rfl
    refine yq_first h1024 (yq_last h1024 ⟨vp_in_nI (by omega) (by omega), vp_in_nI (by omega) (by omega), nm_r (e' := nI (tn (sq_L i - 1) - tn (sq_I i))) ?_ ?_⟩)
    · rw [nI_clamp (by omega), nI_clamp (by omega)]; exact nr.1
    · generalize hc : tn (sq_L i - 1) - tn (sq_I i) = c at ms nr
      have cb : c ≤ 50 := by omega
      have et : sq_et (c + 1) = nI c := by
        unfold sq_et
        rw [if_neg (by omega)]; rfl
      have t56 : (a = 0 ∨ c + 1 < a) → wY_tightest_56 post (wY_tightest_5 post (d + 1)) (sq_et a) (nI i) (nI c) (nI n) (nI st) (nI w) ty va ti sT bo ki re wy be := by
        intro hac
        unfold wY_tightest_56
        refine yq_finds1 H hs hz (fun wy' be' => ?_)
        try dsimp only
        refine br_c (fun q2 => nm_r (nI_1 i) (ih (i + 1) a wy' be' (by omega) (by omega) ?_ hb)) (fun q2 => nm_r (nI_1 i) ?_)
        · have y := (sq_le0 (by omega)).mp q2
          rw [ms, if_neg (by omega), sq_ot.2.2]
        · have y : 0 < sq_F (sq_mt ty va sT bo ki) (sq_R re) tn w st i := Nat.pos_of_ne_zero (fun z => q2 ((sq_le0 (by omega)).mpr z))
          rw [← et]
          refine ih (i + 1) (c + 1) wy' be' (by omega) (by omega) ?_ (by omega)
          rw [ms, if_pos y]
          unfold sq_tm
          rcases hac with hac | hac
          · rw [if_pos hac]
          · rw [if_neg (by omega), if_neg (by omega), if_neg (by omega)]
      refine br_c (fun q => t56 (Or.inl ((sq_et_no (by omega)).mp q))) (fun q => ?_)
      have a1 : a ≠ 0 := fun z => q ((sq_et_no (by omega)).mpr z)
      have ea : sq_et a = nI (a - 1) := if_neg a1
      refine br_c (fun q2 => nm_r (nI_1 i) (ih (i + 1) a wy be (by omega) (by omega) ?_ hb)) (fun q2 => t56 (Or.inr ?_))
      · rw [ea] at q2
        have k := (nI_leI (by omega) (by omega)).mp q2
        rw [ms]
        by_cases y : 0 < sq_F (sq_mt ty va sT bo ki) (sq_R re) tn w st i
        · rw [if_pos y]
          unfold sq_tm
          rw [if_neg a1, if_neg (by omega), if_pos (by omega)]
        · rw [if_neg y, sq_ot.2.2]
      · rw [ea] at q2
        have k : ¬ a - 1 ≤ c := fun z => q2 ((nI_leI (by omega) (by omega)).mpr z)
        omega
theorem yq_tightS {post : Int32 → SY → Prop} {wy be : Nat → Int32} (H : sq_W n st w tn ti ki re) (h : ∀ wy be : Nat → Int32, post (sq_et (sq_fo sq_tm (sq_gT (sq_mt ty va sT bo ki) (sq_R re) tn w st) (2 ^ n))) (nI n, nI st, nI w, ty, va, ti, sT, bo, ki, re, wy, be)) : ∃ m, wY_tightest_5 post m (-4) 1 (nI n) (nI st) (nI w) ty va ti sT bo ki re wy be := by
  have hp := Nat.two_pow_pos n
  have a := yq_tightL H h (2 ^ n - 1) 1 0 wy be (by omega) (by omega) ((sq_fo_1 sq_ot _).trans sq_gT0).symm (by omega)
  exact ⟨_, a⟩
end
section
/-! the relation, and the calls that don't search -/
def i_Rel (_ : Nat) (u : SX) (v : SY) : Prop := ∃ (n st w : Nat) (tn : Nat → Nat) (ty va ti sT bo ki re wa le wy be : Nat → Int32), sq_W n st w tn ti ki re ∧ u = (nI n, nI st, nI w, ty, va, ti, sT, bo, ki, re, wa, le) ∧ v = (nI n, nI st, nI w, ty, va, ti, sT, bo, ki, re, wy, be)
theorem i_up {k : Nat} {u : SX} {v : SY} (h : i_Rel k u v) : i_Rel (k + 4) u v := h
theorem rq_mk {k n st w : Nat} {tn : Nat → Nat} {ty va ti sT bo ki re wa le wy be : Nat → Int32} (H : sq_W n st w tn ti ki re) : i_Rel k (nI n, nI st, nI w, ty, va, ti, sT, bo, ki, re, wa, le) (nI n, nI st, nI w, ty, va, ti, sT, bo, ki, re, wy, be) := ⟨n, st, w, tn, ty, va, ti, sT, bo, ki, re, wa, le, wy, be, H, rfl, rfl⟩
theorem i_vc0 : wpX_init (fun u => wpY_init (fun v => i_Rel 0 u v)) := by
  intro a ea b eb
  cases eb.trans ea.symm
  exact rq_mk (n := 0) (st := 1) (w := 10) (tn := fun _ => 0) ⟨by omega, by omega, by omega, fun i hi => absurd hi (Nat.not_lt_zero i), fun i j _ hj => absurd hj (Nat.not_lt_zero j), fun i hi => absurd hi (Nat.not_lt_zero i), fun i => Or.inl rfl, fun i => Or.inl rfl⟩
theorem i_vc_begin {k : Nat} {u : SX} {v : SY} (I : i_Rel k u v) (hk : k + 4 ≤ 2048) : wpX_begin (fun u' => wpY_begin (fun v' => i_Rel (k + 4) u' v') v) u := by
  obtain ⟨n, st, w, tn, ty, va, ti, sT, bo, ki, re, wa, le, wy, be, H, rfl, rfl⟩ := I
  obtain ⟨h1, h2, h3, h4, h5, h6, h7, h8⟩ := H
  exact rq_mk (k := k + 4) (n := n) (st := 0) (w := w) (tn := tn) ⟨h1, by omega, h3, h4, h5, h6, h7, h8⟩
theorem i_vc_restart {k : Nat} {u : SX} {v : SY} (I : i_Rel k u v) (hk : k + 4 ≤ 2048) : wpX_restart (fun u' => wpY_restart (fun v' => i_Rel (k + 4) u' v') v) u := by
  obtain ⟨n, st, w, tn, ty, va, ti, sT, bo, ki, re, wa, le, wy, be, H, rfl, rfl⟩ := I
  obtain ⟨h1, h2, h3, h4, h5, h6, h7, h8⟩ := H
  exact rq_mk (k := k + 4) (n := 0) (st := st) (w := w) (tn := tn) ⟨by omega, h2, h3, fun i hi => absurd hi (Nat.not_lt_zero i), fun i j _ hj => absurd hj (Nat.not_lt_zero j), fun i hi => absurd hi (Nat.not_lt_zero i), h7, h8⟩
theorem i_vc_events {k : Nat} {u : SX} {v : SY} (I : i_Rel k u v) (hk : k + 4 ≤ 2048) : wpX_events (fun r => wpY_events (fun r' => r' = r ∧ i_Rel (k + 4) u v) v) u := by
  obtain ⟨n, st, w, tn, ty, va, ti, sT, bo, ki, re, wa, le, wy, be, H, rfl, rfl⟩ := I
  exact ⟨rfl, rq_mk H⟩
theorem i_vc_window {k : Nat} {u : SX} {v : SY} (I : i_Rel k u v) (hk : k + 4 ≤ 2048) (v1 : Int32) : wpX_window (fun r u' => wpY_window (fun r' v' => r' = r ∧ i_Rel (k + 4) u' v') v v1) u v1 := by
  obtain ⟨n, st, w, tn, ty, va, ti, sT, bo, ki, re, wa, le, wy, be, H, rfl, rfl⟩ := I
  unfold wpX_window wpY_window
  dsimp only
  refine br_c (fun a => br_t a ⟨rfl, rq_mk H⟩) (fun a => br_c (fun b => br_f a (br_t b ?_)) (fun b => br_f a (br_f b ⟨rfl, rq_mk H⟩)))
  obtain ⟨j, hj, rfl⟩ := nI_of a
  have c : j ≤ 40 := (nI_leI (b := 40) hj (by omega)).mp b
  obtain ⟨h1, h2, h3, h4, h5, h6, h7, h8⟩ := H
  exact ⟨rfl, rq_mk (w := j) ⟨h1, h2, c, h4, h5, h6, h7, h8⟩⟩
variable {n st w : Nat} {tn : Nat → Nat} {ty va ti sT bo ki re : Nat → Int32}
theorem yq_any {post : Int32 → SY → Prop} {v1 v2 v3 : Int32} {wy be : Nat → Int32} (h : ∀ z0 : Int32, wY_step_26 post v1 v2 v3 z0 (nI n) (nI st) (nI w) ty va ti sT bo ki re wy be) : wpY_step post (nI n, nI st, nI w, ty, va, ti, sT, bo, ki, re, wy, be) v1 v2 v3 := by
  unfold wpY_step wY_step_9 wY_step_25 wY_step_21
  dsimp only
  exact br_c (fun _ => br_c (fun _ => h 0) (fun _ => br_c (fun _ => h 0) (fun _ => h 1))) (fun _ => br_c (fun _ => h 1) (fun _ => br_c (fun _ => h 0) (fun _ => br_c (fun _ => h 0) (fun _ => h 1))))
theorem yq_good {post : Int32 → SY → Prop} {v1 v2 : Int32} {c : Nat} {wy be : Nat → Int32} (hc : c ≤ 4 ∨ (8 ≤ c ∧ c ≤ 12)) (h : wY_step_26 post v1 v2 (nI c) 1 (nI n) (nI st) (nI w) ty va ti sT bo ki re wy be) : wpY_step post (nI n, nI st, nI w, ty, va, ti, sT, bo, ki, re, wy, be) v1 v2 (nI c) := by
  unfold wpY_step wY_step_9 wY_step_25 wY_step_21
  dsimp only
  refine br_f (nI_pos (by omega)) (br_c (fun _ => h) (fun q => ?_))
  have z : ¬ c ≤ 4 := fun z => q (nI_le (b := 4) z (by omega))
  exact br_f (nI_nlt (b := 8) (by omega) (by omega)) (br_f (nI_nlt (a := 12) (by omega) (by omega)) h)
theorem yq_badv {post : Int32 → SY → Prop} {v1 v2 v3 : Int32} {wy be : Nat → Int32} (hb : v3 < 0 ∨ ∃ c, c < 2 ^ 31 ∧ v3 = nI c ∧ ¬ (c ≤ 4 ∨ (8 ≤ c ∧ c ≤ 12))) (h : wY_step_26 post v1 v2 v3 0 (nI n) (nI st) (nI w) ty va ti sT bo ki re wy be) : wpY_step post (nI n, nI st, nI w, ty, va, ti, sT, bo, ki, re, wy, be) v1 v2 v3 := by
  unfold wpY_step wY_step_9 wY_step_25 wY_step_21
  dsimp only
  rcases hb with hb | ⟨c, hc, rfl, hn⟩
  · refine br_t hb (br_t ?_ h)
    rw [Int32.lt_iff_toInt_lt] at hb ⊢
    have e1 : (0 : Int32).toInt = 0 := by decide
    have e2 : (8 : Int32).toInt = 8 := by decide
    omega
  · refine br_f (nI_pos (by omega)) (br_f (nI_ge (a := 4) (by omega) (by omega)) (br_c (fun _ => h) (fun q => br_t ?_ h)))
    have z : ¬ c < 8 := fun z => q (nI_lt (b := 8) z (by omega))
    exact nI_lt (a := 12) (by omega) (by omega)
theorem yq_26b {post : Int32 → SY → Prop} {v1 v2 v3 z0 : Int32} {wy be : Nat → Int32} (hb : v1 < 0 ∨ 4 < v1 ∨ v2 < 0 ∨ ¬ v2 ≤ 9 ∨ z0 = 0) (h : post (-1) (nI n, nI st, nI w, ty, va, ti, sT, bo, ki, re, wy, be)) : wY_step_26 post v1 v2 v3 z0 (nI n) (nI st) (nI w) ty va ti sT bo ki re wy be := by
  unfold wY_step_26
  refine br_c (fun _ => h) (fun a => br_c (fun _ => h) (fun b => br_c (fun _ => h) (fun c => br_c (fun _ => h) (fun d => br_c (fun _ => h) (fun e => ?_)))))
  rcases hb with hb | hb | hb | hb | hb
  · exact absurd hb a
  · exact absurd hb b
  · exact absurd hb c
  · exact absurd (Int32.not_le.mp hb) d
  · exact absurd hb e
theorem i_vc_step {k : Nat} {u : SX} {v : SY} (I : i_Rel k u v) (hk : k + 4 ≤ 2048) (v1 : Int32) (v2 : Int32) (v3 : Int32) : wpX_step (fun r u' => wpY_step (fun r' v' => r' = r ∧ i_Rel (k + 4) u' v') v v1 v2 v3) u v1 v2 v3 := by
  obtain ⟨n, st, w, tn, ty, va, ti, sT, bo, ki, re, wa, le, wy, be, H, rfl, rfl⟩ := I
  have hst : st ≤ 4 := H.2.1
  unfold wpX_step
  dsimp only
  have bad : (v1 < 0 ∨ 4 < v1 ∨ v2 < 0 ∨ ¬ v2 ≤ 9) → wpY_step (fun r' v' => r' = (-1) ∧ i_Rel (k + 4) (nI n, nI st, nI w, ty, va, ti, sT, bo, ki, re, wa, le) v') (nI n, nI st, nI w, ty, va, ti, sT, bo, ki, re, wy, be) v1 v2 v3 := by
    intro hb
    refine yq_any (fun z0 => yq_26b ?_ ⟨rfl, rq_mk H⟩)
    rcases hb with hb | hb | hb | hb
    · exact Or.inl hb
    · exact Or.inr (Or.inl hb)
    · exact Or.inr (Or.inr (Or.inl hb))
    · exact Or.inr (Or.inr (Or.inr (Or.inl hb)))
  have bad3 : (v3 < 0 ∨ ∃ c, c < 2 ^ 31 ∧ v3 = nI c ∧ ¬ (c ≤ 4 ∨ (8 ≤ c ∧ c ≤ 12))) → wpY_step (fun r' v' => r' = (-1) ∧ i_Rel (k + 4) (nI n, nI st, nI w, ty, va, ti, sT, bo, ki, re, wa, le) v') (nI n, nI st, nI w, ty, va, ti, sT, bo, ki, re, wy, be) v1 v2 v3 := by
    intro hb
    exact yq_badv hb (yq_26b (Or.inr (Or.inr (Or.inr (Or.inr rfl)))) ⟨rfl, rq_mk H⟩)
  refine br_c (fun a => bad (Or.inl a)) (fun a1 => br_c (fun a => bad (Or.inr (Or.inl a))) (fun a2 => br_c (fun a => bad (Or.inr (Or.inr (Or.inl a)))) (fun a3 => br_c (fun a4 => ?_) (fun a => bad (Or.inr (Or.inr (Or.inr a)))))))
  refine br_c (fun a => bad3 (Or.inl a)) (fun a5 => ?_)
  obtain ⟨c, hc, rfl⟩ := nI_of a5
  refine br_c (fun a6 => ?_) (fun a => bad3 (Or.inr ⟨c, hc, rfl, ?_⟩))
  · have c16 : c < 16 := (nI_ltI (b := 16) hc (by omega)).mp a6
    have e8 : nI c - nI c / 8 * 8 = nI (c % 8) := pk_rem (d := 8) hc (by omega) (by omega)
    have d8 : nI c / 8 = nI (c / 8) := pk_div (d := 8) hc (by omega) (by omega)
    refine ⟨by decide, nm_r e8 (br_c (fun a7 => ?_) (fun a => bad3 (Or.inr ⟨c, hc, rfl, ?_⟩)))⟩
    · have c4 : c % 8 ≤ 4 := (nI_leI (b := 4) (by omega) (by omega)).mp a7
      have good : c ≤ 4 ∨ (8 ≤ c ∧ c ≤ 12) := by omega
      refine br_c (fun a8 => ?_) (fun a8 => ?_)
      · have st4 : st < 4 := (nI_ltI (b := 4) (by omega) (by omega)).mp a8
        have vs : vp_in (nI st) 4 := vp_in_nI st4 (by omega)
        have es : (nI st).toNatClampNeg = st := nI_clamp (by omega)
        rw [es, d8]
        refine ⟨vs, nm_e ⟨vs, nm_e ⟨vs, nm_e ⟨by decide, vs, nm_e (nm_r (nI_1 st) ?_)⟩⟩⟩⟩
        refine yq_good good ?_
        have fin : ∀ z0 : Int32, vp_nar .boolean z0 = nI (c / 8) → wY_step_117 (fun r' v' => r' = nI (st + 1) ∧ i_Rel (k + 4) (nI n, nI (st + 1), nI w, ty, va, ti, upd sT st v1, upd bo st v2, upd ki st (nI (c % 8)), upd re st (nI (c / 8)), wa, le) v') z0 (nI st) (nI n) (nI st) (nI w) ty va ti (upd sT st v1) (upd bo st v2) (upd ki st (nI (c % 8))) re wy be := by
          intro z0 ez
          unfold wY_step_117
          rw [es, ez]
          refine ⟨vs, nm_e (nm_r (nI_1 st) ⟨rfl, rq_mk (tn := tn) ?_⟩)⟩
          obtain ⟨h1, h2, h3, h4, h5, h6, h7, h8⟩ := H
          refine ⟨h1, by omega, h3, h4, h5, h6, fun i => ?_, fun i => ?_⟩
          · by_cases q : i = st
            · subst q
              rw [pk_us]
              have z : c % 8 = 0 ∨ c % 8 = 1 ∨ c % 8 = 2 ∨ c % 8 = 3 ∨ c % 8 = 4 := by omega
              rcases z with z | z | z | z | z
              · rw [z]; exact Or.inl rfl
              · rw [z]; exact Or.inr (Or.inl rfl)
              · rw [z]; exact Or.inr (Or.inr (Or.inl rfl))
              · rw [z]; exact Or.inr (Or.inr (Or.inr (Or.inl rfl)))
              · rw [z]; exact Or.inr (Or.inr (Or.inr (Or.inr rfl)))
            · rw [pk_un q]; exact h7 i
          · by_cases q : i = st
            · subst q
              rw [pk_us]
              have z : c / 8 = 0 ∨ c / 8 = 1 := by omega
              rcases z with z | z
              · rw [z]; exact Or.inl rfl
              · rw [z]; exact Or.inr rfl
            · rw [pk_un q]; exact h8 i
        have nf : ¬ nI st = 4 := fun z => by
          have := (nI_eq (b := 4) (show st < 2 ^ 31 by omega) (by omega)).mp z
          omega
        unfold wY_step_26
        rw [es, e8]
        refine br_f a1 (br_f a2 (br_f a3 (br_f (Int32.not_lt.mpr a4) (br_f (by decide) (br_f nf ⟨vs, nm_e ⟨vs, nm_e ⟨by decide, vs, nm_e (br_c (fun a9 => fin 0 ?_) (fun a9 => fin 1 ?_))⟩⟩⟩)))))
        · have z : c ≤ 7 := (nI_leI (b := 7) (by omega) (by omega)).mp a9
          rw [show c / 8 = 0 from by omega]; rfl
        · have z : ¬ c ≤ 7 := fun z => a9 (nI_le (b := 7) z (by omega))
          rw [show c / 8 = 1 from by omega]; rfl
      · have st4 : st = 4 := by
          have z : ¬ st < 4 := fun z => a8 (nI_lt (b := 4) z (by omega))
          omega
        refine yq_good good ?_
        unfold wY_step_26
        exact br_f a1 (br_f a2 (br_f a3 (br_f (Int32.not_lt.mpr a4) (br_f (by decide) (br_t (by rw [st4]; rfl) ⟨rfl, rq_mk H⟩)))))
    · have z : ¬ c % 8 ≤ 4 := fun z => a (nI_le (b := 4) z (by omega))
      omega
  · have z : ¬ c < 16 := fun z => a (nI_lt (b := 16) z (by omega))
    omega
end
section
/-! the calls that search -/
theorem i_vc_finds {k : Nat} {u : SX} {v : SY} (I : i_Rel k u v) (hk : k + 4 ≤ 2048) : wpX_finds (fun r u' => wpY_finds (fun r' v' => r' = r ∧ i_Rel (k + 4) u' v') v) u := by
  obtain ⟨n, st, w, tn, ty, va, ti, sT, bo, ki, re, wa, le, wy, be, H, rfl, rfl⟩ := I
  unfold wpX_finds
  dsimp only
  refine xq_cl H sq_lo1 (fun wa' le' => ?_)
  dsimp only
  unfold wpY_finds
  dsimp only
  refine yq_findsS H (fun wy' be' => ⟨?_, rq_mk H⟩)
  rw [sq_A100 H.1]
theorem i_vc_endingAt {k : Nat} {u : SX} {v : SY} (I : i_Rel k u v) (hk : k + 4 ≤ 2048) (v1 : Int32) : wpX_endingAt (fun r u' => wpY_endingAt (fun r' v' => r' = r ∧ i_Rel (k + 4) u' v') v v1) u v1 := by
  obtain ⟨n, st, w, tn, ty, va, ti, sT, bo, ki, re, wa, le, wy, be, H, rfl, rfl⟩ := I
  have hn : n ≤ 10 := H.1
  unfold wpX_endingAt wpY_endingAt
  dsimp only
  rcases pk_ix v1 (show n < 2 ^ 31 by omega) with a | a | ⟨j, hj, rfl⟩
  · exact xq_ev0 (Or.inl a) (br_t rfl (yq_ev0 (Or.inl a) (br_t rfl ⟨rfl, rq_mk H⟩)))
  · exact xq_ev0 (Or.inr a) (br_t rfl (yq_ev0 (Or.inr a) (br_t rfl ⟨rfl, rq_mk H⟩)))
  · refine xq_ev1 hn hj (br_f (by decide) (xq_ce H hj (fun wa' le' => ?_)))
    dsimp only
    refine yq_ev1 hn hj (br_f (by decide) (yq_endS (by omega) H (fun wy' be' => ⟨?_, rq_mk H⟩)))
    rw [sq_Ny hn hj]
theorem i_vc_beginningAt {k : Nat} {u : SX} {v : SY} (I : i_Rel k u v) (hk : k + 4 ≤ 2048) (v1 : Int32) : wpX_beginningAt (fun r u' => wpY_beginningAt (fun r' v' => r' = r ∧ i_Rel (k + 4) u' v') v v1) u v1 := by
  obtain ⟨n, st, w, tn, ty, va, ti, sT, bo, ki, re, wa, le, wy, be, H, rfl, rfl⟩ := I
  have hn : n ≤ 10 := H.1
  unfold wpX_beginningAt wpY_beginningAt
  dsimp only
  rcases pk_ix v1 (show n < 2 ^ 31 by omega) with a | a | ⟨j, hj, rfl⟩
  · exact xq_ev0 (Or.inl a) (br_t rfl (yq_ev0 (Or.inl a) (br_t rfl ⟨rfl, rq_mk H⟩)))
  · exact xq_ev0 (Or.inr a) (br_t rfl (yq_ev0 (Or.inr a) (br_t rfl ⟨rfl, rq_mk H⟩)))
  · refine xq_ev1 hn hj (br_f (by decide) (xq_cb H hj sq_lo1 (fun wa' le' => ?_)))
    dsimp only
    refine yq_ev1 hn hj (br_f (by decide) (yq_begS (by omega) H (fun wy' be' => ⟨?_, rq_mk H⟩)))
    rw [sq_B100 hn]
theorem sq_loe {j : Nat} (hj : j < 10) : ∀ e, e < 10 → (nI e = nI j ↔ e = j) := fun _ he => nI_eq (by omega) (by omega)
theorem i_vc_using {k : Nat} {u : SX} {v : SY} (I : i_Rel k u v) (hk : k + 4 ≤ 2048) (v1 : Int32) : wpX_using (fun r u' => wpY_using (fun r' v' => r' = r ∧ i_Rel (k + 4) u' v') v v1) u v1 := by
  obtain ⟨n, st, w, tn, ty, va, ti, sT, bo, ki, re, wa, le, wy, be, H, rfl, rfl⟩ := I
  have hn : n ≤ 10 := H.1
  unfold wpX_using wpY_using
  dsimp only
  rcases pk_ix v1 (show n < 2 ^ 31 by omega) with a | a | ⟨j, hj, rfl⟩
  · exact xq_ev0 (Or.inl a) (br_t rfl (yq_ev0 (Or.inl a) (br_t rfl ⟨rfl, rq_mk H⟩)))
  · exact xq_ev0 (Or.inr a) (br_t rfl (yq_ev0 (Or.inr a) (br_t rfl ⟨rfl, rq_mk H⟩)))
  · refine xq_ev1 hn hj (br_f (by decide) (xq_cl H sq_lo1 (fun wa' le' => ?_)))
    dsimp only
    refine xq_cl H (sq_loe (show j < 10 by omega)) (fun wa2 le2 => ?_)
    dsimp only
    refine yq_ev1 hn hj (br_f (by decide) (yq_usS (by omega) H (fun wy' be' => ⟨?_, rq_mk H⟩)))
    have e := sq_wo (F := sq_F (sq_mt ty va sT bo ki) (sq_R re) tn w st) (o := j) (n := 2 ^ n)
    rw [sq_A100 hn, sq_An hn, pk_sub (by omega)]
    exact congrArg nI (by omega)
theorem i_vc_longest {k : Nat} {u : SX} {v : SY} (I : i_Rel k u v) (hk : k + 4 ≤ 2048) : wpX_longest (fun r u' => wpY_longest (fun r' v' => r' = r ∧ i_Rel (k + 4) u' v') v) u := by
  obtain ⟨n, st, w, tn, ty, va, ti, sT, bo, ki, re, wa, le, wy, be, H, rfl, rfl⟩ := I
  refine xq_longest H (fun wa' le' => ?_)
  unfold wpY_longest
  dsimp only
  refine yq_longS H (fun wy' be' => ⟨?_, rq_mk H⟩)
  rw [sq_ALn H.1]
theorem i_vc_tightest {k : Nat} {u : SX} {v : SY} (I : i_Rel k u v) (hk : k + 4 ≤ 2048) : wpX_tightest (fun r u' => wpY_tightest (fun r' v' => r' = r ∧ i_Rel (k + 4) u' v') v) u := by
  obtain ⟨n, st, w, tn, ty, va, ti, sT, bo, ki, re, wa, le, wy, be, H, rfl, rfl⟩ := I
  refine xq_tightest H (fun wa' le' => ?_)
  unfold wpY_tightest
  dsimp only
  refine yq_tightS H (fun wy' be' => ⟨?_, rq_mk H⟩)
  rw [sq_ATn H.1]
theorem i_vc_lastValues {k : Nat} {u : SX} {v : SY} (I : i_Rel k u v) (hk : k + 4 ≤ 2048) : wpX_lastValues (fun r u' => wpY_lastValues (fun r' v' => r' = r ∧ i_Rel (k + 4) u' v') v) u := by
  obtain ⟨n, st, w, tn, ty, va, ti, sT, bo, ki, re, wa, le, wy, be, H, rfl, rfl⟩ := I
  refine xq_lastValues H (fun wa' le' => ?_)
  unfold wpY_lastValues
  dsimp only
  exact yq_lvS H (fun wy' be' => ⟨rfl, rq_mk H⟩)
theorem i_vc_without {k : Nat} {u : SX} {v : SY} (I : i_Rel k u v) (hk : k + 4 ≤ 2048) (v1 : Int32) : wpX_without (fun r u' => wpY_without (fun r' v' => r' = r ∧ i_Rel (k + 4) u' v') v v1) u v1 := by
  obtain ⟨n, st, w, tn, ty, va, ti, sT, bo, ki, re, wa, le, wy, be, H, rfl, rfl⟩ := I
  have hn : n ≤ 10 := H.1
  unfold wpX_without wpY_without
  dsimp only
  rcases pk_ix v1 (show n < 2 ^ 31 by omega) with a | a | ⟨j, hj, rfl⟩
  · exact xq_ev0 (Or.inl a) (br_t rfl (yq_ev0 (Or.inl a) (br_t rfl ⟨rfl, rq_mk H⟩)))
  · exact xq_ev0 (Or.inr a) (br_t rfl (yq_ev0 (Or.inr a) (br_t rfl ⟨rfl, rq_mk H⟩)))
  · refine xq_ev1 hn hj (br_f (by decide) (xq_cl H (sq_loe (show j < 10 by omega)) (fun wa' le' => ?_)))
    dsimp only
    refine yq_ev1 hn hj (br_f (by decide) (yq_woS (by omega) H (fun wy' be' => ⟨?_, rq_mk H⟩)))
    rw [sq_An hn]
variable {n st w : Nat} {tn : Nat → Nat} {ty va ti sT bo ki re : Nat → Int32}
theorem yq_evb {post : Int32 → SY → Prop} {v1 v2 v3 : Int32} {wy be : Nat → Int32} (hb : v1 < 0 ∨ 3 < v1 ∨ v2 < 0 ∨ 9 < v2 ∨ v3 < 0 ∨ ¬ v3 ≤ 5) (h : post (-1) (nI n, nI st, nI w, ty, va, ti, sT, bo, ki, re, wy, be)) : wpY_event post (nI n, nI st, nI w, ty, va, ti, sT, bo, ki, re, wy, be) v1 v2 v3 := by
  unfold wpY_event
  dsimp only
  refine br_c (fun _ => h) (fun a => br_c (fun _ => h) (fun b => br_c (fun _ => h) (fun c => br_c (fun _ => h) (fun d => br_c (fun _ => h) (fun e => br_c (fun f => ?_) (fun _ => h))))))
  rcases hb with hb | hb | hb | hb | hb | hb
  · exact absurd hb a
  · exact absurd hb b
  · exact absurd hb c
  · exact absurd hb d
  · exact absurd hb e
  · exact absurd f hb
/-- the state behind one more event -/
theorem rq_ev {g T : Nat} (H : sq_W n st w tn ti ki re) (n10 : n < 10) (g5 : g ≤ 5) (eT : T = if n = 0 then g else tn (n - 1) + g) : sq_W (n + 1) st w (fun i => if i = n then T else tn i) (upd ti n (nI T)) ki re := by
  obtain ⟨h1, h2, h3, h4, h5, h6, h7, h8⟩ := H
  refine ⟨by omega, h2, h3, fun i hi => ?_, fun i j hij hj => ?_, fun i hi => ?_, h7, h8⟩
  · dsimp only
    by_cases q : i = n
    · subst q
      rw [pk_us, if_pos rfl]
    · rw [pk_un q, if_neg q]; exact h4 i (by omega)
  · dsimp only
    by_cases q : j = n
    · rw [if_pos q]
      by_cases p : i = n
      · rw [if_pos p]; omega
      · rw [if_neg p]
        have z : ¬ n = 0 := by omega
        rw [if_neg z] at eT
        have := h5 i (n - 1) (by omega) (by omega)
        omega
    · rw [if_neg q, if_neg (show ¬ i = n by omega)]
      exact h5 i j hij (by omega)
  · dsimp only
    by_cases q : i = n
    · rw [if_pos q]
      by_cases z : n = 0
      · rw [if_pos z] at eT; omega
      · rw [if_neg z] at eT
        have := h6 (n - 1) (by omega)
        omega
    · rw [if_neg q]
      exact h6 i (by omega)
theorem yq_evg {post : Int32 → SY → Prop} {v1 v2 : Int32} {g T : Nat} {wy be : Nat → Int32} (H : sq_W n st w tn ti ki re) (a1 : ¬ v1 < 0) (a2 : ¬ 3 < v1) (a3 : ¬ v2 < 0) (a4 : ¬ 9 < v2) (n10 : n < 10) (g5 : g ≤ 5) (eT : T = if n = 0 then g else tn (n - 1) + g)
    (h : ∀ wy' be' : Nat → Int32, post (nI (sq_N (sq_mt (upd ty n v1) (upd va n v2) sT bo ki) (sq_R re) (fun i => if i = n then T else tn i) w st n)) (nI (n + 1), nI st, nI w, upd ty n v1, upd va n v2, upd ti n (nI T), sT, bo, ki, re, wy', be')) : wpY_event post (nI n, nI st, nI w, ty, va, ti, sT, bo, ki, re, wy, be) v1 v2 (nI g) := by
  have H' := rq_ev H n10 g5 eT
  have vn : vp_in (nI n) 10 := vp_in_nI n10 (by omega)
  have en : (nI n).toNatClampNeg = n := nI_clamp (by omega)
  have nf : ¬ nI n = 10 := fun z => by
    have := (nI_eq (b := 10) (show n < 2 ^ 31 by omega) (by omega)).mp z
    omega
  have main : ∀ z0 : Int32, z0 + nI g = nI T → wY_event_92 post (nI g) z0 (nI n) (nI n) (nI st) (nI w) (upd ty n v1) (upd va n v2) ti sT bo ki re wy be := by
    intro z0 e0
    unfold wY_event_92
    rw [en, e0]
    refine ⟨vn, nm_e (nm_r (nI_1 n) ?_)⟩
    unfold wpY_endingAt
    dsimp only
    rw [nI_pred]
    refine yq_ev1 (by omega) (by omega) (br_f (by decide) (yq_endS n10 H' (fun wy' be' => ?_)))
    try dsimp only
    rw [sq_Ny (by omega) (by omega)]
    exact h wy' be'
  unfold wpY_event
  dsimp only
  rw [en]
  refine br_f a1 (br_f a2 (br_f a3 (br_f a4 (br_f (nI_pos (by omega)) (br_t (nI_le (b := 5) g5 (by omega)) (br_f nf ⟨vn, nm_e ⟨vn, nm_e (br_c (fun q => main 0 ?_) (fun q => ?_))⟩⟩))))))
  · have z : n = 0 := (nI_eq (b := 0) (by omega) (by omega)).mp q
    rw [if_pos z] at eT
    rw [eT]
    exact Int32.zero_add _
  · have z : n ≠ 0 := fun z => q (by rw [z]; rfl)
    rw [if_neg z] at eT
    have e1 : nI n - 1 = nI (n - 1) := by
      obtain ⟨m, hm⟩ : ∃ m, n = m + 1 := ⟨n - 1, by omega⟩
      rw [hm, nI_pred]; rfl
    rw [e1, nI_clamp (by omega)]
    refine ⟨vp_in_nI (by omega) (by omega), main _ ?_⟩
    rw [H.2.2.2.1 (n - 1) (by omega), nI_add, eT]
theorem i_vc_event {k : Nat} {u : SX} {v : SY} (I : i_Rel k u v) (hk : k + 4 ≤ 2048) (v1 : Int32) (v2 : Int32) (v3 : Int32) : wpX_event (fun r u' => wpY_event (fun r' v' => r' = r ∧ i_Rel (k + 4) u' v') v v1 v2 v3) u v1 v2 v3 := by
  obtain ⟨n, st, w, tn, ty, va, ti, sT, bo, ki, re, wa, le, wy, be, H, rfl, rfl⟩ := I
  have hn : n ≤ 10 := H.1
  unfold wpX_event
  dsimp only
  have bad : (v1 < 0 ∨ 3 < v1 ∨ v2 < 0 ∨ 9 < v2 ∨ v3 < 0 ∨ ¬ v3 ≤ 5) → wpY_event (fun r' v' => r' = (-1) ∧ i_Rel (k + 4) (nI n, nI st, nI w, ty, va, ti, sT, bo, ki, re, wa, le) v') (nI n, nI st, nI w, ty, va, ti, sT, bo, ki, re, wy, be) v1 v2 v3 := fun hb => yq_evb hb ⟨rfl, rq_mk H⟩
  refine br_c (fun a => bad (Or.inl a)) (fun a1 => br_c (fun a => bad (Or.inr (Or.inl a))) (fun a2 => br_c (fun a => bad (Or.inr (Or.inr (Or.inl a)))) (fun a3 => br_c (fun a => bad (Or.inr (Or.inr (Or.inr (Or.inl a))))) (fun a4 => br_c (fun a => bad (Or.inr (Or.inr (Or.inr (Or.inr (Or.inl a)))))) (fun a5 => br_c (fun a6 => ?_) (fun a => bad (Or.inr (Or.inr (Or.inr (Or.inr (Or.inr a)))))))))))
  refine br_c (fun a7 => ?_) (fun a7 => ?_)
  · have n10 : n < 10 := (nI_ltI (b := 10) (by omega) (by omega)).mp a7
    have vn : vp_in (nI n) 10 := vp_in_nI n10 (by omega)
    have en : (nI n).toNatClampNeg = n := nI_clamp (by omega)
    obtain ⟨g, hg, rfl⟩ := nI_of a5
    have g5 : g ≤ 5 := (nI_leI (b := 5) hg (by omega)).mp a6
    have main : ∀ T : Nat, (T = if n = 0 then g else tn (n - 1) + g) → wX_event_90 (fun r u' => wpY_event (fun r' v' => r' = r ∧ i_Rel (k + 4) u' v') (nI n, nI st, nI w, ty, va, ti, sT, bo, ki, re, wy, be) v1 v2 (nI g)) (nI n) (nI T) (nI n) (nI n) (nI st) (nI w) (upd ty n v1) (upd va n v2) ti sT bo ki re wa le := by
      intro T eT
      have H' := rq_ev H n10 g5 eT
      unfold wX_event_90
      rw [en]
      refine ⟨vn, nm_e (nm_r (nI_1 n) (xq_ce H' (by omega) (fun wa' le' => ?_)))⟩
      dsimp only
      exact yq_evg H a1 a2 a3 a4 n10 g5 eT (fun wy' be' => ⟨rfl, rq_mk H'⟩)
    rw [en]
    refine ⟨vn, nm_e ⟨vn, nm_e (br_c (fun q => main g ?_) (fun q => ?_))⟩⟩
    · have z : n = 0 := (nI_eq (b := 0) (by omega) (by omega)).mp q
      rw [if_pos z]
    · have z : n ≠ 0 := fun z => q (by rw [z]; rfl)
      have e1 : nI n - 1 = nI (n - 1) := by
        obtain ⟨m, hm⟩ : ∃ m, n = m + 1 := ⟨n - 1, by omega⟩
        rw [hm, nI_pred]; rfl
      rw [e1, nI_clamp (by omega), H.2.2.2.1 (n - 1) (by omega), nI_add]
      exact ⟨vp_in_nI (by omega) (by omega), main _ (by rw [if_neg z])⟩
  · have z : n = 10 := by
      have z : ¬ n < 10 := fun z => a7 (nI_lt (b := 10) z (by omega))
      omega
    unfold wpY_event
    dsimp only
    exact br_f a1 (br_f a2 (br_f a3 (br_f a4 (br_f a5 (br_t a6 (br_t (by rw [z]; rfl) ⟨rfl, rq_mk H⟩))))))
end
