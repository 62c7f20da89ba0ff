/-! folds over an operation that is commutative and associative, with 0 as its unit: sums, greatest, least (0: none) -/
def sq_ok (op : Nat → Nat → Nat) : Prop := (∀ a b, op a b = op b a) ∧ (∀ a b c, op (op a b) c = op a (op b c)) ∧ (∀ a, op a 0 = a)
theorem sq_z {op : Nat → Nat → Nat} (o : sq_ok op) (a : Nat) : op 0 a = a := by rw [o.1]; exact o.2.2 a
def sq_fo (op : Nat → Nat → Nat) (g : Nat → Nat) : Nat → Nat
  | 0 => 0
  | n + 1 => op (sq_fo op g n) (g n)
theorem sq_fo_0 (op : Nat → Nat → Nat) (g : Nat → Nat) : sq_fo op g 0 = 0 := rfl
theorem sq_fo_s (op : Nat → Nat → Nat) (g : Nat → Nat) (n : Nat) : sq_fo op g (n + 1) = op (sq_fo op g n) (g n) := rfl
theorem sq_fo_1 {op : Nat → Nat → Nat} (o : sq_ok op) (g : Nat → Nat) : sq_fo op g 1 = g 0 := sq_z o _
theorem sq_fo_congr {op : Nat → Nat → Nat} {g h : Nat → Nat} {n : Nat} (e : ∀ i, i < n → g i = h i) : sq_fo op g n = sq_fo op h n := by
  induction n with
  | zero => rfl
  | succ n ih => rw [sq_fo_s, sq_fo_s, ih (fun i hi => e i (by omega)), e n (by omega)]
theorem sq_fo_zero {op : Nat → Nat → Nat} (o : sq_ok op) {g : Nat → Nat} {n : Nat} (e : ∀ i, i < n → g i = 0) : sq_fo op g n = 0 := by
  induction n with
  | zero => rfl
  | succ n ih =>
    rw [sq_fo_s, ih (fun i hi => e i (by omega)), e n (by omega)]
    exact o.2.2 0
theorem sq_fo_split {op : Nat → Nat → Nat} (o : sq_ok op) (g : Nat → Nat) (a b : Nat) : sq_fo op g (a + b) = op (sq_fo op g a) (sq_fo op (fun i => g (a + i)) b) := by
  induction b with
  | zero => exact (o.2.2 _).symm
  | succ b ih =>
    have e1 : sq_fo op g (a + (b + 1)) = op (sq_fo op g (a + b)) (g (a + b)) := rfl
    have e2 : sq_fo op (fun i => g (a + i)) (b + 1) = op (sq_fo op (fun i => g (a + i)) b) (g (a + b)) := rfl
    rw [e1, e2, ih, o.2.1]
theorem sq_fo_dbl {op : Nat → Nat → Nat} (o : sq_ok op) (g : Nat → Nat) (n : Nat) : sq_fo op g (2 ^ (n + 1)) = op (sq_fo op g (2 ^ n)) (sq_fo op (fun i => g (2 ^ n + i)) (2 ^ n)) := by
  rw [show 2 ^ (n + 1) = 2 ^ n + 2 ^ n from by rw [Nat.pow_succ]; omega]
  exact sq_fo_split o g _ _
theorem sq_fo_op {op : Nat → Nat → Nat} (o : sq_ok op) (g h : Nat → Nat) (n : Nat) : sq_fo op (fun i => op (g i) (h i)) n = op (sq_fo op g n) (sq_fo op h n) := by
  induction n with
  | zero => exact (o.2.2 0).symm
  | succ n ih =>
    rw [sq_fo_s, sq_fo_s, sq_fo_s, ih, o.2.1 (sq_fo op g n) (sq_fo op h n), o.2.1 (sq_fo op g n) (g n), ← o.2.1 (sq_fo op h n) (g n) (h n), o.1 (sq_fo op h n) (g n), o.2.1 (g n) (sq_fo op h n)]
theorem sq_fo_one {op : Nat → Nat → Nat} (o : sq_ok op) {g : Nat → Nat} {n : Nat} (hn : 0 < n) (e : ∀ i, 0 < i → i < n → g i = 0) : sq_fo op g n = g 0 := by
  induction n with
  | zero => omega
  | succ n ih =>
    by_cases h : n = 0
    · subst h; exact sq_fo_1 o g
    · rw [sq_fo_s, ih (by omega) (fun i h0 hi => e i h0 (by omega)), e n (by omega) (by omega)]
      exact o.2.2 _
theorem sq_oa : sq_ok (fun a b => a + b) := ⟨Nat.add_comm, Nat.add_assoc, Nat.add_zero⟩
theorem sq_om : sq_ok (fun a b => max a b) := ⟨Nat.max_comm, Nat.max_assoc, Nat.max_zero⟩
def sq_tm (a b : Nat) : Nat := if a = 0 then b else if b = 0 then a else if a ≤ b then a else b
theorem sq_ot : sq_ok sq_tm := by
  refine ⟨fun a b => ?_, fun a b c => ?_, fun a => ?_⟩
  · unfold sq_tm; repeat' split
    all_goals omega
  · unfold sq_tm; repeat' split
    all_goals omega
  · unfold sq_tm; repeat' split
    all_goals omega
/-- sums -/
def sq_sm (g : Nat → Nat) (n : Nat) : Nat := sq_fo (fun a b => a + b) g n
theorem sq_sm_s (g : Nat → Nat) (n : Nat) : sq_sm g (n + 1) = sq_sm g n + g n := rfl
theorem sq_sm_le {g : Nat → Nat} {n c : Nat} (e : ∀ i, i < n → g i ≤ c) : sq_sm g n ≤ n * c := by
  induction n with
  | zero => exact Nat.zero_le _
  | succ n ih =>
    have h1 := ih (fun i hi => e i (by omega))
    have h2 := e n (by omega)
    rw [sq_sm_s, Nat.succ_mul]
    omega
theorem sq_sm_mul (g : Nat → Nat) (c n : Nat) : sq_sm (fun i => c * g i) n = c * sq_sm g n := by
  induction n with
  | zero => rfl
  | succ n ih => rw [sq_sm_s, sq_sm_s, ih, Nat.mul_add]
/-- greatest -/
def sq_mx (g : Nat → Nat) (n : Nat) : Nat := sq_fo (fun a b => max a b) g n
theorem sq_mx_s (g : Nat → Nat) (n : Nat) : sq_mx g (n + 1) = max (sq_mx g n) (g n) := rfl
theorem sq_mx_le {g : Nat → Nat} {n c : Nat} (e : ∀ i, i < n → g i ≤ c) : sq_mx g n ≤ c := by
  induction n with
  | zero => exact Nat.zero_le _
  | succ n ih =>
    have h1 := ih (fun i hi => e i (by omega))
    have h2 := e n (by omega)
    rw [sq_mx_s]
    omega
theorem sq_lz (v z : Nat → Nat) (n : Nat) (h : sq_sm v n = 0) : sq_mx (fun i => if 0 < v i then z i else 0) n = 0 := by
  induction n with
  | zero => rfl
  | succ n ih =>
    rw [sq_sm_s] at h
    rw [sq_mx_s, ih (by omega)]
    try dsimp only
    rw [if_neg (by omega)]
    rfl
theorem sq_lp (v z : Nat → Nat) (n : Nat) (hz : ∀ i, i < n → 0 < z i) (h : 0 < sq_sm v n) : 0 < sq_mx (fun i => if 0 < v i then z i else 0) n := by
  induction n with
  | zero => exact absurd h (Nat.lt_irrefl 0)
  | succ n ih =>
    rw [sq_sm_s] at h
    rw [sq_mx_s]
    try dsimp only
    by_cases hB : 0 < sq_sm v n
    · have := ih (fun i hi => hz i (by omega)) hB
      omega
    · have := hz n (by omega)
      rw [if_pos (show 0 < v n from by omega)]
      omega
/-- greatest of the sizes, each one more, of what has a way -/
theorem sq_lm (v z : Nat → Nat) (n : Nat) : sq_mx (fun i => if 0 < v i then z i + 1 else 0) n = if 0 < sq_sm v n then sq_mx (fun i => if 0 < v i then z i else 0) n + 1 else 0 := by
  induction n with
  | zero => rfl
  | succ n ih =>
    have h0 := sq_lz v z n
    rw [sq_mx_s, sq_mx_s, sq_sm_s, ih]
    try dsimp only
    generalize sq_mx (fun i => if 0 < v i then z i else 0) n = A at h0
    generalize sq_sm v n = B at h0
    by_cases hv : 0 < v n
    · rw [if_pos hv, if_pos hv, if_pos (show 0 < B + v n from by omega)]
      by_cases hB : 0 < B
      · rw [if_pos hB]; omega
      · rw [if_neg hB, h0 (by omega)]; omega
    · rw [if_neg hv, if_neg hv, show v n = 0 from by omega]
      by_cases hB : 0 < B
      · rw [if_pos hB, if_pos (show 0 < B + 0 from hB)]; omega
      · rw [if_neg hB, if_neg (show ¬ 0 < B + 0 from hB)]; rfl
theorem sq_mx2 (a b z : Nat → Nat) (n : Nat) : sq_mx (fun i => if 0 < a i + b i then z i else 0) n = max (sq_mx (fun i => if 0 < a i then z i else 0) n) (sq_mx (fun i => if 0 < b i then z i else 0) n) := by
  have e := sq_fo_op sq_om (fun i => if 0 < a i then z i else 0) (fun i => if 0 < b i then z i else 0) n
  unfold sq_mx
  refine Eq.trans (sq_fo_congr fun i _ => ?_) e
  try dsimp only
  by_cases ha : 0 < a i
  · by_cases hb : 0 < b i
    · rw [if_pos ha, if_pos hb, if_pos (by omega)]; omega
    · rw [if_pos ha, if_neg hb, if_pos (by omega)]; omega
  · by_cases hb : 0 < b i
    · rw [if_neg ha, if_pos hb, if_pos (by omega)]; omega
    · rw [if_neg ha, if_neg hb, if_neg (by omega)]; rfl
/-- least: what is put in is one and the same number wherever there is a way -/
theorem sq_lt (v : Nat → Nat) (c n : Nat) : sq_fo sq_tm (fun i => if 0 < v i then c + 1 else 0) n = if 0 < sq_sm v n then c + 1 else 0 := by
  induction n with
  | zero => rfl
  | succ n ih =>
    rw [sq_fo_s, sq_sm_s, ih]
    try dsimp only
    generalize sq_sm v n = B
    unfold sq_tm
    by_cases hv : 0 < v n
    · by_cases hB : 0 < B
      · rw [if_pos hB, if_pos hv, if_pos (show 0 < B + v n from by omega), if_neg (by omega), if_neg (by omega), if_pos (Nat.le_refl _)]
      · rw [if_neg hB, if_pos hv, if_pos (show 0 < B + v n from by omega), if_pos rfl]
    · by_cases hB : 0 < B
      · rw [if_pos hB, if_neg hv, if_pos (show 0 < B + v n from by omega), if_neg (by omega), if_pos rfl]
      · rw [if_neg hB, if_neg hv, if_neg (show ¬ 0 < B + v n from by omega), if_pos rfl]
