/-! what a set answers, and the sums by first and last event -/
def sq_F (M : Nat → Nat → Nat → Nat → Bool) (R : Nat → Bool) (tn : Nat → Nat) (w st s : Nat) : Nat := if 0 < sq_L s ∧ 0 < st ∧ tn (sq_L s - 1) - tn (sq_I s) ≤ w then sq_V M R s (st - 1) else 0
def sq_C (M : Nat → Nat → Nat → Nat → Bool) (R : Nat → Bool) (tn : Nat → Nat) (w st f o l : Nat) : Nat := if 0 < st ∧ tn l - tn f ≤ w then sq_G M R f o l (st - 1) l else 0
def sq_E (M : Nat → Nat → Nat → Nat → Bool) (R : Nat → Bool) (tn : Nat → Nat) (w st f o l : Nat) : Nat := if 0 < st ∧ tn l - tn f ≤ w then sq_D M R f o l (st - 1) l else 0
def sq_g (o : Nat) (F : Nat → Nat) (t : Nat) : Nat := if t.testBit o = false then F t else 0
variable {M : Nat → Nat → Nat → Nat → Bool} {R : Nat → Bool} {tn : Nat → Nat} {w st : Nat} {op : Nat → Nat → Nat} {g : Nat → Nat}
theorem sq_F0 : sq_F M R tn w st 0 = 0 := by
  unfold sq_F
  rw [sq_L0, if_neg (fun z => absurd z.1 (by omega))]
theorem sq_g0 {o : Nat} : sq_g o (sq_F M R tn w st) 0 = 0 := by
  unfold sq_g
  rw [sq_F0]
  split
  · rfl
  · rfl
theorem sq_g100 {F : Nat → Nat} {t : Nat} (ht : t < 2 ^ 10) : sq_g 100 F t = F t := if_pos (sq_tb ht (by decide))
/-- inner: the sets with this first event -/
theorem sq_gi0 (o : sq_ok op) (g0 : g 0 = 0) {f : Nat} (hf : f ≤ 10) : sq_fo op (fun t => if sq_I t = f then g t else 0) (2 ^ f) = 0 := by
  refine sq_fo_zero o fun i hi => ?_
  try dsimp only
  by_cases h0 : i = 0
  · rw [h0, g0]
    split
    · rfl
    · rfl
  · have := sq_Ilt' hf hi h0
    rw [if_neg (by omega)]
theorem sq_go0 (o : sq_ok op) (J : Nat → Nat) (N : Nat) : sq_fo op (fun t => if J t < 0 then g t else 0) N = 0 := sq_fo_zero o fun _ _ => if_neg (Nat.not_lt_zero _)
theorem sq_gos (o : sq_ok op) (J : Nat → Nat) (m N : Nat) : sq_fo op (fun t => if J t < m + 1 then g t else 0) N = op (sq_fo op (fun t => if J t < m then g t else 0) N) (sq_fo op (fun t => if J t = m then g t else 0) N) := by
  rw [← sq_fo_op o]
  refine sq_fo_congr fun i _ => ?_
  try dsimp only
  by_cases a : J i < m
  · rw [if_pos a, if_pos (show J i < m + 1 by omega), if_neg (show ¬ J i = m by omega), o.2.2]
  · by_cases b : J i = m
    · rw [if_neg a, if_pos b, if_pos (show J i < m + 1 by omega), sq_z o]
    · rw [if_neg a, if_neg b, if_neg (show ¬ J i < m + 1 by omega), o.2.2]
theorem sq_gon (g0 : g 0 = 0) {n : Nat} (hn : n ≤ 10) : sq_fo op (fun t => if sq_I t < n then g t else 0) (2 ^ n) = sq_fo op g (2 ^ n) := by
  refine sq_fo_congr fun i hi => ?_
  try dsimp only
  by_cases h0 : i = 0
  · rw [h0, g0]
    split
    · rfl
    · rfl
  · rw [if_pos (sq_Ilt' hn hi h0)]
theorem sq_pt {f o l s : Nat} (hl : l < 10) (hs : s < 2 ^ l) : (if sq_I (2 ^ l + s) = f then sq_g o (sq_F M R tn w st) (2 ^ l + s) else 0) = if 0 < st ∧ tn l - tn f ≤ w then sq_u M R f o (st - 1) (2 ^ l + s) else 0 := by
  have hL := sq_Ls hl hs
  unfold sq_g sq_u sq_F
  rw [hL, Nat.add_sub_cancel]
  by_cases a : sq_I (2 ^ l + s) = f
  · rw [if_pos a, a]
    by_cases c : 0 < st ∧ tn l - tn f ≤ w
    · rw [if_pos c, if_pos (show 0 < l + 1 ∧ 0 < st ∧ tn l - tn f ≤ w from ⟨by omega, c⟩)]
      by_cases b : (2 ^ l + s).testBit o = false
      · rw [if_pos b, if_pos (show f = f ∧ (2 ^ l + s).testBit o = false from ⟨rfl, b⟩)]
      · rw [if_neg b, if_neg (show ¬ (f = f ∧ (2 ^ l + s).testBit o = false) from fun z => b z.2)]
    · rw [if_neg c, if_neg (show ¬ (0 < l + 1 ∧ 0 < st ∧ tn l - tn f ≤ w) from fun z => c z.2)]
      split
      · rfl
      · rfl
  · rw [if_neg a, if_neg (show ¬ (sq_I (2 ^ l + s) = f ∧ (2 ^ l + s).testBit o = false) from fun z => a z.1)]
    split
    · rfl
    · rfl
theorem sq_cS {f o l : Nat} : sq_sm (fun s => if 0 < st ∧ tn l - tn f ≤ w then sq_u M R f o (st - 1) (2 ^ l + s) else 0) (2 ^ l) = sq_C M R tn w st f o l := by
  unfold sq_C
  by_cases c : 0 < st ∧ tn l - tn f ≤ w
  · simp only [if_pos c]; rfl
  · simp only [if_neg c]
    exact sq_fo_zero sq_oa fun _ _ => rfl
theorem sq_cF {f o l : Nat} (hl : l < 10) : sq_fo (fun a b => a + b) (fun s => if sq_I (2 ^ l + s) = f then sq_g o (sq_F M R tn w st) (2 ^ l + s) else 0) (2 ^ l) = sq_C M R tn w st f o l := by
  rw [← sq_cS]
  exact sq_fo_congr fun i hi => sq_pt hl hi
theorem sq_ptF {f l s : Nat} (hl : l < 10) (hs : s < 2 ^ l) : (if sq_I (2 ^ l + s) = f then sq_F M R tn w st (2 ^ l + s) else 0) = if 0 < st ∧ tn l - tn f ≤ w then sq_u M R f 100 (st - 1) (2 ^ l + s) else 0 := by
  rw [← sq_pt hl hs, sq_g100 (sq_p10 hl hs)]
def sq_gL (M : Nat → Nat → Nat → Nat → Bool) (R : Nat → Bool) (tn : Nat → Nat) (w st t : Nat) : Nat := if 0 < sq_F M R tn w st t then sq_Z t else 0
def sq_gT (M : Nat → Nat → Nat → Nat → Bool) (R : Nat → Bool) (tn : Nat → Nat) (w st t : Nat) : Nat := if 0 < sq_F M R tn w st t then tn (sq_L t - 1) - tn (sq_I t) + 1 else 0
theorem sq_gL0 : sq_gL M R tn w st 0 = 0 := by
  unfold sq_gL
  rw [sq_F0]; rfl
theorem sq_gT0 : sq_gT M R tn w st 0 = 0 := by
  unfold sq_gT
  rw [sq_F0]; rfl
theorem sq_cL {f l : Nat} (hl : l < 10) : sq_fo (fun a b => max a b) (fun s => if sq_I (2 ^ l + s) = f then sq_gL M R tn w st (2 ^ l + s) else 0) (2 ^ l) = sq_E M R tn w st f 100 l := by
  have e : sq_fo (fun a b => max a b) (fun s => if sq_I (2 ^ l + s) = f then sq_gL M R tn w st (2 ^ l + s) else 0) (2 ^ l) = sq_fo (fun a b => max a b) (fun s => if 0 < st ∧ tn l - tn f ≤ w then (if 0 < sq_u M R f 100 (st - 1) (2 ^ l + s) then sq_Z (2 ^ l + s) else 0) else 0) (2 ^ l) := by
    refine sq_fo_congr fun i hi => ?_
    have h := sq_ptF (M := M) (R := R) (tn := tn) (w := w) (st := st) (f := f) hl hi
    try dsimp only
    by_cases a : sq_I (2 ^ l + i) = f
    · rw [if_pos a] at h
      rw [if_pos a]
      unfold sq_gL
      rw [h]
      by_cases c : 0 < st ∧ tn l - tn f ≤ w
      · rw [if_pos c, if_pos c]
      · rw [if_neg c, if_neg c]; rfl
    · rw [if_neg a] at h
      rw [if_neg a]
      by_cases c : 0 < st ∧ tn l - tn f ≤ w
      · rw [if_pos c] at h
        rw [if_pos c, ← h]; rfl
      · rw [if_neg c]
  rw [e]
  unfold sq_E
  by_cases c : 0 < st ∧ tn l - tn f ≤ w
  · simp only [if_pos c]; rfl
  · simp only [if_neg c]
    exact sq_fo_zero sq_om fun _ _ => rfl
theorem sq_cT {f l : Nat} (hl : l < 10) : sq_fo sq_tm (fun s => if sq_I (2 ^ l + s) = f then sq_gT M R tn w st (2 ^ l + s) else 0) (2 ^ l) = if 0 < sq_C M R tn w st f 100 l then tn l - tn f + 1 else 0 := by
  rw [← sq_cS, ← sq_lt]
  refine sq_fo_congr fun i hi => ?_
  have h := sq_ptF (M := M) (R := R) (tn := tn) (w := w) (st := st) (f := f) hl hi
  try dsimp only
  rw [← h]
  by_cases a : sq_I (2 ^ l + i) = f
  · rw [if_pos a, if_pos a]
    unfold sq_gT
    rw [sq_Ls hl hi, Nat.add_sub_cancel, a]
  · rw [if_neg a, if_neg a]; rfl
/-- the sets that end at an event -/
def sq_N (M : Nat → Nat → Nat → Nat → Bool) (R : Nat → Bool) (tn : Nat → Nat) (w st l : Nat) : Nat := sq_sm (fun s => sq_F M R tn w st (2 ^ l + s)) (2 ^ l)
def sq_Nm (M : Nat → Nat → Nat → Nat → Bool) (R : Nat → Bool) (tn : Nat → Nat) (w st l m : Nat) : Nat := sq_sm (fun s => if sq_I (2 ^ l + s) < m then sq_F M R tn w st (2 ^ l + s) else 0) (2 ^ l)
theorem sq_N0 {l : Nat} : sq_Nm M R tn w st l 0 = 0 := sq_go0 (g := fun s => sq_F M R tn w st (2 ^ l + s)) sq_oa (fun s => sq_I (2 ^ l + s)) _
theorem sq_Ns {l m : Nat} (hl : l < 10) : sq_Nm M R tn w st l (m + 1) = sq_Nm M R tn w st l m + sq_C M R tn w st m 100 l := by
  have e := sq_gos (g := fun s => sq_F M R tn w st (2 ^ l + s)) sq_oa (fun s => sq_I (2 ^ l + s)) m (2 ^ l)
  have e2 : sq_fo (fun a b => a + b) (fun s => if sq_I (2 ^ l + s) = m then sq_F M R tn w st (2 ^ l + s) else 0) (2 ^ l) = sq_C M R tn w st m 100 l := by
    rw [← sq_cS]
    exact sq_fo_congr fun i hi => sq_ptF hl hi
  try dsimp only at e
  rw [e2] at e
  exact e
theorem sq_Nn {l : Nat} (hl : l < 10) : sq_Nm M R tn w st l (l + 1) = sq_N M R tn w st l := by
  refine sq_fo_congr fun i hi => ?_
  try dsimp only
  have hp := Nat.two_pow_pos l
  rw [if_pos (sq_Ilt' (n := l + 1) (by omega) (sq_lt2 hi) (by omega))]
theorem sq_Ny {l : Nat} : ∀ {n : Nat}, n ≤ 10 → l < n → sq_sm (fun t => if sq_L t - 1 = l then sq_F M R tn w st t else 0) (2 ^ n) = sq_N M R tn w st l := by
  intro n
  induction n with
  | zero => intro _ h; omega
  | succ n ih =>
    intro hn hl
    have e := sq_fo_dbl sq_oa (fun t => if sq_L t - 1 = l then sq_F M R tn w st t else 0) n
    refine Eq.trans e ?_
    by_cases c : l < n
    · have h1 := ih (by omega) c
      have h2 : sq_fo (fun a b => a + b) (fun i => if sq_L (2 ^ n + i) - 1 = l then sq_F M R tn w st (2 ^ n + i) else 0) (2 ^ n) = 0 := by
        refine sq_fo_zero sq_oa fun i hi => ?_
        try dsimp only
        rw [sq_Ls (by omega) hi, if_neg (by omega)]
      try dsimp only
      rw [h2]
      exact h1
    · have hln : l = n := by omega
      subst hln
      have h1 : sq_fo (fun a b => a + b) (fun t => if sq_L t - 1 = l then sq_F M R tn w st t else 0) (2 ^ l) = 0 := by
        refine sq_fo_zero sq_oa fun i hi => ?_
        try dsimp only
        by_cases h0 : i = 0
        · rw [h0, sq_F0]
          split
          · rfl
          · rfl
        · have h3 := sq_Lle (n := l) (by omega) hi
          have h4 := sq_Lpos (n := l) (by omega) hi h0
          rw [if_neg (by omega)]
      have h2 : sq_fo (fun a b => a + b) (fun i => if sq_L (2 ^ l + i) - 1 = l then sq_F M R tn w st (2 ^ l + i) else 0) (2 ^ l) = sq_N M R tn w st l := by
        refine sq_fo_congr fun i hi => ?_
        try dsimp only
        rw [sq_Ls (by omega) hi, if_pos (by omega)]
      try dsimp only
      rw [h1, h2]
      omega
/-- the sum of the last values -/
theorem sq_vs {vn : Nat → Nat} {l : Nat} (hl : l < 10) : sq_sm (fun t => vn (sq_L t - 1) * sq_F M R tn w st t) (2 ^ (l + 1)) = sq_sm (fun t => vn (sq_L t - 1) * sq_F M R tn w st t) (2 ^ l) + vn l * sq_N M R tn w st l := by
  have e := sq_fo_dbl sq_oa (fun t => vn (sq_L t - 1) * sq_F M R tn w st t) l
  refine Eq.trans e ?_
  have e2 := sq_sm_mul (fun s => sq_F M R tn w st (2 ^ l + s)) (vn l) (2 ^ l)
  have e3 : sq_fo (fun a b => a + b) (fun i => vn (sq_L (2 ^ l + i) - 1) * sq_F M R tn w st (2 ^ l + i)) (2 ^ l) = sq_sm (fun i => vn l * sq_F M R tn w st (2 ^ l + i)) (2 ^ l) := by
    refine sq_fo_congr fun i hi => ?_
    try dsimp only
    rw [sq_Ls hl hi, Nat.add_sub_cancel]
  try dsimp only
  rw [e3, e2]
  rfl
theorem sq_v1 {vn : Nat → Nat} : sq_sm (fun t => vn (sq_L t - 1) * sq_F M R tn w st t) 1 = 0 := by
  rw [show (1 : Nat) = 0 + 1 from rfl, sq_sm_s, sq_F0]
  rfl
/-- with and without an event -/
theorem sq_wo {F : Nat → Nat} {o n : Nat} : sq_sm (sq_g o F) n + sq_sm (fun t => if t.testBit o = true then F t else 0) n = sq_sm F n := by
  have e := sq_fo_op sq_oa (sq_g o F) (fun t => if t.testBit o = true then F t else 0) n
  refine Eq.trans e.symm ?_
  refine sq_fo_congr fun i _ => ?_
  try dsimp only
  unfold sq_g
  cases i.testBit o
  · rw [if_pos rfl, if_neg (by decide)]; rfl
  · rw [if_neg (by decide), if_pos rfl]; omega
/-- by first event, in words of the queries: inner and outer loop -/
theorem sq_b0 {f o : Nat} (hf : f ≤ 10) : sq_sm (fun t => if sq_I t = f then sq_g o (sq_F M R tn w st) t else 0) (2 ^ f) = 0 := sq_gi0 sq_oa sq_g0 hf
theorem sq_bs {f o l : Nat} (hl : l < 10) : sq_sm (fun t => if sq_I t = f then sq_g o (sq_F M R tn w st) t else 0) (2 ^ (l + 1)) = sq_sm (fun t => if sq_I t = f then sq_g o (sq_F M R tn w st) t else 0) (2 ^ l) + sq_C M R tn w st f o l := by
  have e := sq_fo_dbl sq_oa (fun t => if sq_I t = f then sq_g o (sq_F M R tn w st) t else 0) l
  refine Eq.trans e ?_
  try dsimp only
  rw [sq_cF hl]
  rfl
def sq_A (M : Nat → Nat → Nat → Nat → Bool) (R : Nat → Bool) (tn : Nat → Nat) (w st o n m : Nat) : Nat := sq_sm (fun t => if sq_I t < m then sq_g o (sq_F M R tn w st) t else 0) (2 ^ n)
def sq_B (M : Nat → Nat → Nat → Nat → Bool) (R : Nat → Bool) (tn : Nat → Nat) (w st f o l : Nat) : Nat := sq_sm (fun t => if sq_I t = f then sq_g o (sq_F M R tn w st) t else 0) (2 ^ l)
theorem sq_A0 {o n : Nat} : sq_A M R tn w st o n 0 = 0 := sq_go0 sq_oa sq_I _
theorem sq_As {o n m : Nat} : sq_A M R tn w st o n (m + 1) = sq_A M R tn w st o n m + sq_B M R tn w st m o n := sq_gos sq_oa sq_I m _
theorem sq_An {o n : Nat} (hn : n ≤ 10) : sq_A M R tn w st o n n = sq_sm (sq_g o (sq_F M R tn w st)) (2 ^ n) := sq_gon sq_g0 hn
theorem sq_A100 {n : Nat} (hn : n ≤ 10) : sq_A M R tn w st 100 n n = sq_sm (sq_F M R tn w st) (2 ^ n) := by
  rw [sq_An hn]
  exact sq_fo_congr fun i hi => sq_g100 (Nat.lt_of_lt_of_le hi (Nat.pow_le_pow_right (by decide) hn))
theorem sq_B100 {f n : Nat} (hn : n ≤ 10) : sq_B M R tn w st f 100 n = sq_sm (fun t => if sq_I t = f then sq_F M R tn w st t else 0) (2 ^ n) := by
  refine sq_fo_congr fun i hi => ?_
  try dsimp only
  rw [sq_g100 (Nat.lt_of_lt_of_le hi (Nat.pow_le_pow_right (by decide) hn))]
