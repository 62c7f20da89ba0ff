/-! the cells of the component: the ways of all sets with this first and this last event, and the greatest size -/
def sq_u (M : Nat → Nat → Nat → Nat → Bool) (R : Nat → Bool) (f o k t : Nat) : Nat := if sq_I t = f ∧ t.testBit o = false then sq_V M R t k else 0
def sq_G (M : Nat → Nat → Nat → Nat → Bool) (R : Nat → Bool) (f o l k m : Nat) : Nat := sq_sm (fun s => sq_u M R f o k (2 ^ l + s)) (2 ^ m)
def sq_D (M : Nat → Nat → Nat → Nat → Bool) (R : Nat → Bool) (f o l k m : Nat) : Nat := sq_mx (fun s => if 0 < sq_u M R f o k (2 ^ l + s) then sq_Z (2 ^ l + s) else 0) (2 ^ m)
variable {M : Nat → Nat → Nat → Nat → Bool} {R : Nat → Bool}
theorem sq_u_s {f o l k m s : Nat} (hl : l < 10) (hm : m < l) (ho : o ≠ l) (hs : s < 2 ^ m) :
    sq_u M R f o k (2 ^ l + (2 ^ m + s)) = if M f l k m = true then (if R k = true then sq_u M R f o k (2 ^ m + s) else 0) + (if k = 0 then 0 else sq_u M R f o (k - 1) (2 ^ m + s)) else 0 := by
  have ht : 2 ^ m + s < 2 ^ l := Nat.lt_of_lt_of_le (sq_lt2 hs) (Nat.pow_le_pow_right (by decide) (by omega))
  have hL : sq_L (2 ^ m + s) = m + 1 := sq_Ls (by omega) hs
  have hn : ¬ m + 1 = 0 := by omega
  unfold sq_u
  rw [sq_Is hl ht, sq_bit ht ho, sq_Vs M R hl ht, hL, if_neg hn]
  by_cases c : sq_I (2 ^ m + s) = f ∧ (2 ^ m + s).testBit o = false
  · simp only [if_pos c]
    unfold sq_nx
    rw [if_neg hn, Nat.add_sub_cancel, c.1]
  · simp only [if_neg c]
    by_cases a : M f l k m = true
    · rw [if_pos a]
      by_cases b : R k = true
      · rw [if_pos b]
        by_cases d : k = 0
        · rw [if_pos d]
        · rw [if_neg d]
      · rw [if_neg b]
        by_cases d : k = 0
        · rw [if_pos d]
        · rw [if_neg d]
    · rw [if_neg a]
theorem sq_u_0 {f o l k s : Nat} (hl : l < 10) (hf : f < l) (hs : s < 2 ^ f) : sq_u M R f o k (2 ^ l + s) = 0 := by
  have ht : s < 2 ^ l := Nat.lt_of_lt_of_le hs (Nat.pow_le_pow_right (by decide) (by omega))
  unfold sq_u
  rw [if_neg]
  intro c
  have h := c.1
  rw [sq_Is hl ht] at h
  by_cases h0 : sq_L s = 0
  · rw [if_pos h0] at h; omega
  · rw [if_neg h0] at h
    have := sq_Ilt' (n := f) (by omega) hs (fun z => h0 (by rw [z]; exact sq_L0))
    omega
theorem sq_G_0 {f o l k : Nat} (hl : l < 10) (hf : f < l) : sq_G M R f o l k f = 0 := sq_fo_zero sq_oa fun _ hi => sq_u_0 hl hf hi
theorem sq_D_0 {f o l k : Nat} (hl : l < 10) (hf : f < l) : sq_D M R f o l k f = 0 := by
  refine sq_fo_zero sq_om fun i hi => ?_
  try dsimp only
  rw [sq_u_0 hl hf hi]
  rfl
def sq_ln (d g x : Nat) : Nat := if g = 0 then d else max d (x + 1)
theorem sq_G_n {f o l k m : Nat} (hl : l < 10) (hm : m < l) (ho : o ≠ l) (a : ¬ M f l k m = true) : sq_G M R f o l k (m + 1) = sq_G M R f o l k m := by
  have e : sq_G M R f o l k (m + 1) = sq_G M R f o l k m + sq_fo (fun a b => a + b) (fun i => sq_u M R f o k (2 ^ l + (2 ^ m + i))) (2 ^ m) := sq_fo_dbl sq_oa _ m
  rw [e, sq_fo_zero sq_oa]
  · rfl
  · intro i hi
    try dsimp only
    rw [sq_u_s hl hm ho hi, if_neg a]
theorem sq_D_n {f o l k m : Nat} (hl : l < 10) (hm : m < l) (ho : o ≠ l) (a : ¬ M f l k m = true) : sq_D M R f o l k (m + 1) = sq_D M R f o l k m := by
  have e : sq_D M R f o l k (m + 1) = max (sq_D M R f o l k m) (sq_fo (fun a b => max a b) (fun i => if 0 < sq_u M R f o k (2 ^ l + (2 ^ m + i)) then sq_Z (2 ^ l + (2 ^ m + i)) else 0) (2 ^ m)) := sq_fo_dbl sq_om _ m
  rw [e, sq_fo_zero sq_om]
  · exact Nat.max_zero _
  · intro i hi
    try dsimp only
    rw [sq_u_s hl hm ho hi, if_neg a]
    rfl
theorem sq_ua {f o k m : Nat} : sq_sm (fun i => if R k = true then sq_u M R f o k (2 ^ m + i) else 0) (2 ^ m) = if R k = true then sq_G M R f o m k m else 0 := by
  by_cases b : R k = true
  · simp only [if_pos b]; rfl
  · simp only [if_neg b]
    exact sq_fo_zero sq_oa fun _ _ => rfl
theorem sq_ub {f o k m : Nat} : sq_sm (fun i => if k = 0 then 0 else sq_u M R f o (k - 1) (2 ^ m + i)) (2 ^ m) = if k = 0 then 0 else sq_G M R f o m (k - 1) m := by
  by_cases b : k = 0
  · simp only [if_pos b]
    exact sq_fo_zero sq_oa fun _ _ => rfl
  · simp only [if_neg b]; rfl
theorem sq_G_y {f o l k m : Nat} (hl : l < 10) (hm : m < l) (ho : o ≠ l) (a : M f l k m = true) : sq_G M R f o l k (m + 1) = sq_G M R f o l k m + (if R k = true then sq_G M R f o m k m else 0) + (if k = 0 then 0 else sq_G M R f o m (k - 1) m) := by
  have e : sq_G M R f o l k (m + 1) = sq_G M R f o l k m + sq_fo (fun a b => a + b) (fun i => sq_u M R f o k (2 ^ l + (2 ^ m + i))) (2 ^ m) := sq_fo_dbl sq_oa _ m
  have e2 : sq_fo (fun a b => a + b) (fun i => sq_u M R f o k (2 ^ l + (2 ^ m + i))) (2 ^ m) = sq_fo (fun a b => a + b) (fun i => (if R k = true then sq_u M R f o k (2 ^ m + i) else 0) + (if k = 0 then 0 else sq_u M R f o (k - 1) (2 ^ m + i))) (2 ^ m) := by
    refine sq_fo_congr fun i hi => ?_
    try dsimp only
    rw [sq_u_s hl hm ho hi, if_pos a]
  have e3 := sq_fo_op sq_oa (fun i => if R k = true then sq_u M R f o k (2 ^ m + i) else 0) (fun i => if k = 0 then 0 else sq_u M R f o (k - 1) (2 ^ m + i)) (2 ^ m)
  have e4 := sq_ua (M := M) (R := R) (f := f) (o := o) (k := k) (m := m)
  have e5 := sq_ub (M := M) (R := R) (f := f) (o := o) (k := k) (m := m)
  unfold sq_sm at e4 e5
  rw [e, e2, e3, e4, e5, Nat.add_assoc]
theorem sq_D_y {f o l k m : Nat} (hl : l < 10) (hm : m < l) (ho : o ≠ l) (a : M f l k m = true) :
    sq_D M R f o l k (m + 1) = if k = 0 then (if R k = true then sq_ln (sq_D M R f o l k m) (sq_G M R f o m k m) (sq_D M R f o m k m) else sq_D M R f o l k m) else sq_ln (if R k = true then sq_ln (sq_D M R f o l k m) (sq_G M R f o m k m) (sq_D M R f o m k m) else sq_D M R f o l k m) (sq_G M R f o m (k - 1) m) (sq_D M R f o m (k - 1) m) := by
  have e : sq_D M R f o l k (m + 1) = max (sq_D M R f o l k m) (sq_fo (fun a b => max a b) (fun i => if 0 < sq_u M R f o k (2 ^ l + (2 ^ m + i)) then sq_Z (2 ^ l + (2 ^ m + i)) else 0) (2 ^ m)) := sq_fo_dbl sq_om _ m
  have e2 : sq_fo (fun a b => max a b) (fun i => if 0 < sq_u M R f o k (2 ^ l + (2 ^ m + i)) then sq_Z (2 ^ l + (2 ^ m + i)) else 0) (2 ^ m) = sq_mx (fun i => if 0 < (if R k = true then sq_u M R f o k (2 ^ m + i) else 0) + (if k = 0 then 0 else sq_u M R f o (k - 1) (2 ^ m + i)) then sq_Z (2 ^ m + i) + 1 else 0) (2 ^ m) := by
    refine sq_fo_congr fun i hi => ?_
    have ht : 2 ^ m + i < 2 ^ l := Nat.lt_of_lt_of_le (sq_lt2 hi) (Nat.pow_le_pow_right (by decide) (by omega))
    try dsimp only
    rw [sq_u_s hl hm ho hi, if_pos a, sq_Zs hl ht]
  have e3 := sq_mx2 (fun i => if R k = true then sq_u M R f o k (2 ^ m + i) else 0) (fun i => if k = 0 then 0 else sq_u M R f o (k - 1) (2 ^ m + i)) (fun i => sq_Z (2 ^ m + i) + 1) (2 ^ m)
  have e4 := sq_lm (fun i => if R k = true then sq_u M R f o k (2 ^ m + i) else 0) (fun i => sq_Z (2 ^ m + i)) (2 ^ m)
  have e5 := sq_lm (fun i => if k = 0 then 0 else sq_u M R f o (k - 1) (2 ^ m + i)) (fun i => sq_Z (2 ^ m + i)) (2 ^ m)
  rw [sq_ua] at e4
  rw [sq_ub] at e5
  try dsimp only at e3 e4 e5
  rw [e, e2, e3, e4, e5]
  unfold sq_ln
  have d1 : sq_mx (fun i => if 0 < sq_u M R f o k (2 ^ m + i) then sq_Z (2 ^ m + i) else 0) (2 ^ m) = sq_D M R f o m k m := rfl
  have d2 : sq_mx (fun i => if 0 < sq_u M R f o (k - 1) (2 ^ m + i) then sq_Z (2 ^ m + i) else 0) (2 ^ m) = sq_D M R f o m (k - 1) m := rfl
  by_cases b : R k = true
  · simp only [if_pos b]
    rw [d1]
    generalize sq_G M R f o m k m = g1
    generalize sq_D M R f o m k m = x1
    by_cases d : k = 0
    · simp only [if_pos d]
      generalize sq_D M R f o l k m = y
      repeat' split
      all_goals omega
    · simp only [if_neg d]
      rw [d2]
      generalize sq_G M R f o m (k - 1) m = g2
      generalize sq_D M R f o m (k - 1) m = x2
      generalize sq_D M R f o l k m = y
      repeat' split
      all_goals omega
  · simp only [if_neg b]
    by_cases d : k = 0
    · simp only [if_pos d]
      generalize sq_D M R f o l k m = y
      repeat' split
      all_goals omega
    · simp only [if_neg d]
      rw [d2]
      generalize sq_G M R f o m (k - 1) m = g2
      generalize sq_D M R f o m (k - 1) m = x2
      generalize sq_D M R f o l k m = y
      repeat' split
      all_goals omega
theorem sq_u_f0 {f o k s : Nat} (hf : f < 10) (h0 : 0 < s) (hs : s < 2 ^ f) : sq_u M R f o k (2 ^ f + s) = 0 := by
  unfold sq_u
  rw [if_neg]
  intro c
  have h := c.1
  have hz : s ≠ 0 := by omega
  rw [sq_Is hf hs, if_neg (fun z => hz ((sq_L0i (n := f) (by omega) hs).mp z))] at h
  have := sq_Ilt' (n := f) (by omega) hs hz
  omega
theorem sq_u_f {f o k : Nat} (hf : f < 10) : sq_u M R f o k (2 ^ f + 0) = if f ≠ o ∧ k = 0 ∧ M f f 0 f = true then 1 else 0 := by
  have p := Nat.two_pow_pos f
  unfold sq_u
  rw [sq_Is hf p, sq_Vs M R hf p, if_pos sq_L0]
  by_cases h : f = o
  · subst h
    rw [sq_hi p, if_neg (fun c => nomatch c.2), if_neg (fun c => c.1 rfl)]
  · rw [sq_bit p (fun z => h z.symm), if_pos ⟨rfl, Nat.zero_testBit o⟩]
    unfold sq_nx
    rw [if_pos sq_L0]
    by_cases c : k = 0 ∧ M f f 0 f = true
    · rw [if_pos c, if_pos ⟨h, c⟩]
    · rw [if_neg c, if_neg (fun z => c z.2)]
theorem sq_G_f {f o k : Nat} (hf : f < 10) : sq_G M R f o f k f = if f ≠ o ∧ k = 0 ∧ M f f 0 f = true then 1 else 0 := by
  have e : sq_G M R f o f k f = sq_u M R f o k (2 ^ f + 0) := sq_fo_one sq_oa (Nat.two_pow_pos f) (fun i h0 hi => sq_u_f0 hf h0 hi)
  rw [e, sq_u_f hf]
theorem sq_D_f {f o k : Nat} (hf : f < 10) : sq_D M R f o f k f = if f ≠ o ∧ k = 0 ∧ M f f 0 f = true then 1 else 0 := by
  have e : sq_D M R f o f k f = if 0 < sq_u M R f o k (2 ^ f + 0) then sq_Z (2 ^ f + 0) else 0 := by
    refine sq_fo_one sq_om (Nat.two_pow_pos f) (fun i h0 hi => ?_)
    try dsimp only
    rw [sq_u_f0 hf h0 hi]
    rfl
  rw [e, sq_u_f hf, sq_Zs hf (Nat.two_pow_pos f), show sq_Z 0 = 0 from by decide]
  by_cases c : f ≠ o ∧ k = 0 ∧ M f f 0 f = true
  · rw [if_pos c]; rfl
  · rw [if_neg c]; rfl
theorem sq_u_le {f o k t : Nat} (ht : t < 2 ^ 10) : sq_u M R f o k t ≤ 1024 := by
  have h := sq_Vle M R (n := 10) (by decide) t ht k
  have h2 : 2 ^ sq_L t ≤ 2 ^ 10 := Nat.pow_le_pow_right (by decide) (sq_Lle (n := 10) (by decide) ht)
  unfold sq_u
  split
  · omega
  · omega
theorem sq_p9 {l : Nat} (hl : l < 10) : 2 ^ l ≤ 512 := Nat.le_trans (Nat.pow_le_pow_right (show 0 < 2 by decide) (show l ≤ 9 by omega)) (by decide)
theorem sq_p10 {l s : Nat} (hl : l < 10) (hs : s < 2 ^ l) : 2 ^ l + s < 2 ^ 10 := Nat.lt_of_lt_of_le (sq_lt2 hs) (Nat.pow_le_pow_right (by decide) (by omega))
theorem sq_G_le {f o l k m : Nat} (hl : l < 10) (hm : m ≤ l) : sq_G M R f o l k m ≤ 524288 := by
  have hp : 2 ^ m ≤ 2 ^ l := Nat.pow_le_pow_right (by decide) hm
  have h : sq_G M R f o l k m ≤ 2 ^ m * 1024 := sq_sm_le fun i hi => sq_u_le (sq_p10 hl (by omega))
  have h2 := sq_p9 hl
  omega
theorem sq_D_le {f o l k m : Nat} (hl : l < 10) (hm : m ≤ l) : sq_D M R f o l k m ≤ 10 := by
  have hp : 2 ^ m ≤ 2 ^ l := Nat.pow_le_pow_right (by decide) hm
  refine sq_mx_le fun i hi => ?_
  have h1 := sq_p10 hl (show i < 2 ^ l by omega)
  have h2 := sq_Zle (n := 10) (by decide) _ h1
  have h3 := sq_Lle (n := 10) (by decide) h1
  try dsimp only
  split
  · omega
  · omega
theorem sq_D_z {f o l k m : Nat} (h : sq_G M R f o l k m = 0) : sq_D M R f o l k m = 0 := sq_lz _ _ _ h
theorem sq_D_p {f o l k m : Nat} (hl : l < 10) (hm : m ≤ l) (h : 0 < sq_G M R f o l k m) : 0 < sq_D M R f o l k m := by
  have hp : 2 ^ m ≤ 2 ^ l := Nat.pow_le_pow_right (by decide) hm
  exact sq_lp _ _ _ (fun i hi => sq_Zpos hl (by omega)) h
