/-! the component: the queries -/
theorem sq_C_k {M : Nat → Nat → Nat → Nat → Bool} {R : Nat → Bool} {tn : Nat → Nat} {w st f o l : Nat} (h : 0 < st) : sq_C M R tn w st f o l = sq_Ck M R tn w f o l (st - 1) ∧ sq_E M R tn w st f o l = sq_Ek M R tn w f o l (st - 1) := by
  unfold sq_C sq_Ck sq_E sq_Ek
  by_cases c : tn l - tn f ≤ w
  · rw [if_pos c, if_pos c, if_pos ⟨h, c⟩, if_pos ⟨h, c⟩]; exact ⟨rfl, rfl⟩
  · rw [if_neg c, if_neg c, if_neg (fun z => c z.2), if_neg (fun z => c z.2)]; exact ⟨rfl, rfl⟩
theorem sq_C_0 {M : Nat → Nat → Nat → Nat → Bool} {R : Nat → Bool} {tn : Nat → Nat} {w f o l : Nat} : sq_C M R tn w 0 f o l = 0 := if_neg (fun z => absurd z.1 (Nat.lt_irrefl 0))
theorem sq_C_le {M : Nat → Nat → Nat → Nat → Bool} {R : Nat → Bool} {tn : Nat → Nat} {w st f o l : Nat} (hl : l < 10) : sq_C M R tn w st f o l ≤ 524288 := by
  have b := sq_G_le (M := M) (R := R) (f := f) (o := o) (k := st - 1) hl (Nat.le_refl l)
  unfold sq_C
  split
  · exact b
  · omega
theorem sq_E_le {M : Nat → Nat → Nat → Nat → Bool} {R : Nat → Bool} {tn : Nat → Nat} {w st f o l : Nat} (hl : l < 10) : sq_E M R tn w st f o l ≤ 10 := by
  have b := sq_D_le (M := M) (R := R) (f := f) (o := o) (k := st - 1) hl (Nat.le_refl l)
  unfold sq_E
  split
  · exact b
  · omega
theorem sq_E_z {M : Nat → Nat → Nat → Nat → Bool} {R : Nat → Bool} {tn : Nat → Nat} {w st f o l : Nat} (h : sq_C M R tn w st f o l = 0) : sq_E M R tn w st f o l = 0 := by
  unfold sq_C at h
  unfold sq_E
  by_cases c : 0 < st ∧ tn l - tn f ≤ w
  · rw [if_pos c] at h
    rw [if_pos c]; exact sq_D_z h
  · rw [if_neg c]
theorem sq_E_p {M : Nat → Nat → Nat → Nat → Bool} {R : Nat → Bool} {tn : Nat → Nat} {w st f o l : Nat} (hl : l < 10) (h : 0 < sq_C M R tn w st f o l) : 0 < sq_E M R tn w st f o l ∧ 0 < st := by
  unfold sq_C at h
  unfold sq_E
  by_cases c : 0 < st ∧ tn l - tn f ≤ w
  · rw [if_pos c] at h
    rw [if_pos c]; exact ⟨sq_D_p hl (Nat.le_refl l) h, c.1⟩
  · rw [if_neg c] at h
    omega
variable {n st w : Nat} {tn : Nat → Nat} {ty va ti sT bo ki re : Nat → Int32}
theorem xq_lc {l : Nat} (h : 0 < st) : ((nI l * 4) + nI st) - 1 = nI (l * 4 + (st - 1)) := by
  obtain ⟨j, rfl⟩ : ∃ j, st = j + 1 := ⟨st - 1, by omega⟩
  have e1 : nI l * 4 = nI (l * 4) := pk_mul l 4
  rw [e1, nI_add, ← Nat.add_assoc, nI_pred]
  rfl
theorem xq_last {post : Int32 → Prop} {wa le : Nat → Int32} {l : Nat} (h0 : 0 < st) (h : post (nI (l * 4 + (st - 1)))) : wpX_lastCell post (nI n, nI st, nI w, ty, va, ti, sT, bo, ki, re, wa, le) (nI l) := by
  unfold wpX_lastCell
  try dsimp only
  rw [xq_lc h0]
  exact h
theorem xq_fgt {post : Int32 → Prop} {wa le : Nat → Int32} {f o l : Nat} (H : sq_W n st w tn ti ki re) (P : xq_P (sq_mt ty va sT bo ki) (sq_R re) tn w st n f o wa le) (hf : f ≤ l) (hl : l < n) (h : post (nI (sq_C (sq_mt ty va sT bo ki) (sq_R re) tn w st f o l))) : wpX_findsGrownTo post (nI n, nI st, nI w, ty, va, ti, sT, bo, ki, re, wa, le) (nI l) := by
  have hn : n ≤ 10 := H.1
  have hst : st ≤ 4 := H.2.1
  unfold wpX_findsGrownTo
  try dsimp only
  refine br_c (fun q => ?_) (fun q => ?_)
  · have z : st = 0 := (nI_eq (b := 0) (show st < 2 ^ 31 by omega) (by omega)).mp q
    subst z
    rw [sq_C_0] at h
    exact h
  · have z : 0 < st := Nat.pos_of_ne_zero (fun z => q (by rw [z]; rfl))
    refine xq_last z ⟨vp_in_nI (by omega) (by omega), ?_⟩
    rw [nI_clamp (by omega), (P l (st - 1) hf hl (by omega)).1, ← (sq_C_k z).1]
    exact h
/-- countEndingAt -/
theorem xq_ce4 {post : Int32 → SX → Prop} {l : Nat} (H : sq_W n st w tn ti ki re) (hl : l < n) (h : ∀ wa' le' : Nat → Int32, post (nI (sq_N (sq_mt ty va sT bo ki) (sq_R re) tn w st l)) (nI n, nI st, nI w, ty, va, ti, sT, bo, ki, re, wa', le')) :
    ∀ (d m : Nat) (wa le : Nat → Int32), m + d = l + 1 → wX_countEndingAt_4 post (nI l) (d + 1) (nI (sq_Nm (sq_mt ty va sT bo ki) (sq_R re) tn w st l m)) (nI m) (nI n) (nI st) (nI w) ty va ti sT bo ki re wa le := by
  have hn : n ≤ 10 := H.1
  intro d
  induction d with
  | zero =>
    intro m wa le hm
    have z : m = l + 1 := by omega
    subst z
    rw [wX_countEndingAt_4]
    refine br_t (nI_lt (by omega) (by omega)) ?_
    rw [sq_Nn (by omega)]
    exact h wa le
  | succ d ih =>
    intro m wa le hm
    rw [wX_countEndingAt_4]
    refine br_f (nI_nlt (by omega) (by omega)) (xq_growFrom H (by omega) sq_lo1 (fun wa' le' P => ?_))
    try dsimp only
    refine xq_fgt H P (by omega) hl ?_
    refine nm_r (e' := nI (sq_Nm (sq_mt ty va sT bo ki) (sq_R re) tn w st l (m + 1))) ?_ (nm_r (nI_1 m) (ih (m + 1) wa' le' (by omega)))
    rw [nI_add, sq_Ns (by omega)]
theorem xq_ce {post : Int32 → SX → Prop} {l : Nat} {wa le : Nat → Int32} (H : sq_W n st w tn ti ki re) (hl : l < n) (h : ∀ wa' le' : Nat → Int32, post (nI (sq_N (sq_mt ty va sT bo ki) (sq_R re) tn w st l)) (nI n, nI st, nI w, ty, va, ti, sT, bo, ki, re, wa', le')) : wpX_countEndingAt post (nI n, nI st, nI w, ty, va, ti, sT, bo, ki, re, wa, le) (nI l) := by
  have a := xq_ce4 H hl h (l + 1) 0 wa le (by omega)
  rw [sq_N0] at a
  exact ⟨_, a⟩
/-- countBeginningAt -/
theorem xq_cb11 {post : Int32 → SX → Prop} {f o : Nat} {wa le : Nat → Int32} (H : sq_W n st w tn ti ki re) (P : xq_P (sq_mt ty va sT bo ki) (sq_R re) tn w st n f o wa le) (h : post (nI (sq_B (sq_mt ty va sT bo ki) (sq_R re) tn w st f o n)) (nI n, nI st, nI w, ty, va, ti, sT, bo, ki, re, wa, le)) :
    ∀ (d l : Nat), l + d = n → f ≤ l → wX_countBeginningAt_11 post (nI n) (nI st) (nI w) ty va ti sT bo ki re wa le (d + 1) (nI (sq_B (sq_mt ty va sT bo ki) (sq_R re) tn w st f o l)) (nI l) := by
  have hn : n ≤ 10 := H.1
  intro d
  induction d with
  | zero =>
    intro l hl _
    have z : l = n := by omega
    subst z
    rw [wX_countBeginningAt_11]
    exact br_t (nI_le (Nat.le_refl _) (by omega)) h
  | succ d ih =>
    intro l hl hf
    rw [wX_countBeginningAt_11]
    refine br_f (nI_ge (by omega) (by omega)) (xq_fgt H P hf (by omega) ?_)
    refine nm_r (e' := nI (sq_B (sq_mt ty va sT bo ki) (sq_R re) tn w st f o (l + 1))) ?_ (nm_r (nI_1 l) (ih (l + 1) (by omega) (by omega)))
    rw [nI_add]
    exact congrArg nI (sq_bs (by omega)).symm
theorem xq_cb {post : Int32 → SX → Prop} {f o : Nat} {lo : Int32} {wa le : Nat → Int32} (H : sq_W n st w tn ti ki re) (hf : f < n) (hlo : ∀ e, e < 10 → (nI e = lo ↔ e = o)) (h : ∀ wa' le' : Nat → Int32, post (nI (sq_B (sq_mt ty va sT bo ki) (sq_R re) tn w st f o n)) (nI n, nI st, nI w, ty, va, ti, sT, bo, ki, re, wa', le')) : wpX_countBeginningAt post (nI n, nI st, nI w, ty, va, ti, sT, bo, ki, re, wa, le) (nI f) lo := by
  have hn : n ≤ 10 := H.1
  unfold wpX_countBeginningAt
  try dsimp only
  refine xq_growFrom H hf hlo (fun wa' le' P => ?_)
  try dsimp only
  have a := xq_cb11 H P (h wa' le') (n - f) f (by omega) (Nat.le_refl f)
  have b : sq_B (sq_mt ty va sT bo ki) (sq_R re) tn w st f o f = 0 := sq_b0 (by omega)
  rw [b] at a
  exact ⟨_, a⟩
/-- countLeavingOut -/
theorem xq_cl4 {post : Int32 → SX → Prop} {o : Nat} {lo : Int32} (H : sq_W n st w tn ti ki re) (hlo : ∀ e, e < 10 → (nI e = lo ↔ e = o)) (h : ∀ wa' le' : Nat → Int32, post (nI (sq_A (sq_mt ty va sT bo ki) (sq_R re) tn w st o n n)) (nI n, nI st, nI w, ty, va, ti, sT, bo, ki, re, wa', le')) :
    ∀ (d m : Nat) (wa le : Nat → Int32), m + d = n → wX_countLeavingOut_4 post lo (d + 1) (nI (sq_A (sq_mt ty va sT bo ki) (sq_R re) tn w st o n m)) (nI m) (nI n) (nI st) (nI w) ty va ti sT bo ki re wa le := by
  have hn : n ≤ 10 := H.1
  intro d
  induction d with
  | zero =>
    intro m wa le hm
    have z : m = n := by omega
    subst z
    rw [wX_countLeavingOut_4]
    exact br_t (nI_le (Nat.le_refl _) (by omega)) (h wa le)
  | succ d ih =>
    intro m wa le hm
    rw [wX_countLeavingOut_4]
    refine br_f (nI_ge (by omega) (by omega)) (xq_cb H (by omega) hlo (fun wa' le' => ?_))
    try dsimp only
    refine nm_r (e' := nI (sq_A (sq_mt ty va sT bo ki) (sq_R re) tn w st o n (m + 1))) ?_ (nm_r (nI_1 m) (ih (m + 1) wa' le' (by omega)))
    rw [nI_add, sq_As]
theorem xq_cl {post : Int32 → SX → Prop} {o : Nat} {lo : Int32} {wa le : Nat → Int32} (H : sq_W n st w tn ti ki re) (hlo : ∀ e, e < 10 → (nI e = lo ↔ e = o)) (h : ∀ wa' le' : Nat → Int32, post (nI (sq_A (sq_mt ty va sT bo ki) (sq_R re) tn w st o n n)) (nI n, nI st, nI w, ty, va, ti, sT, bo, ki, re, wa', le')) : wpX_countLeavingOut post (nI n, nI st, nI w, ty, va, ti, sT, bo, ki, re, wa, le) lo := by
  have a := xq_cl4 H hlo h n 0 wa le (by omega)
  rw [sq_A0] at a
  exact ⟨_, a⟩
