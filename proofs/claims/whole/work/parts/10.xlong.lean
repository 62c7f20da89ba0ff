/-! the component: longest, tightest, lastValues -/
def sq_LL (M : Nat → Nat → Nat → Nat → Bool) (R : Nat → Bool) (tn : Nat → Nat) (w st f l : Nat) : Nat := sq_fo (fun a b => max a b) (fun t => if sq_I t = f then sq_gL M R tn w st t else 0) (2 ^ l)
def sq_AL (M : Nat → Nat → Nat → Nat → Bool) (R : Nat → Bool) (tn : Nat → Nat) (w st n m : Nat) : Nat := sq_fo (fun a b => max a b) (fun t => if sq_I t < m then sq_gL M R tn w st t else 0) (2 ^ n)
def sq_TT (M : Nat → Nat → Nat → Nat → Bool) (R : Nat → Bool) (tn : Nat → Nat) (w st f l : Nat) : Nat := sq_fo sq_tm (fun t => if sq_I t = f then sq_gT M R tn w st t else 0) (2 ^ l)
def sq_AT (M : Nat → Nat → Nat → Nat → Bool) (R : Nat → Bool) (tn : Nat → Nat) (w st n m : Nat) : Nat := sq_fo sq_tm (fun t => if sq_I t < m then sq_gT M R tn w st t else 0) (2 ^ n)
theorem sq_LL0 {M : Nat → Nat → Nat → Nat → Bool} {R : Nat → Bool} {tn : Nat → Nat} {w st f : Nat} (hf : f ≤ 10) : sq_LL M R tn w st f f = 0 := sq_gi0 sq_om sq_gL0 hf
theorem sq_LLs {M : Nat → Nat → Nat → Nat → Bool} {R : Nat → Bool} {tn : Nat → Nat} {w st f l : Nat} (hl : l < 10) : sq_LL M R tn w st f (l + 1) = max (sq_LL M R tn w st f l) (sq_E M R tn w st f 100 l) := by
  rw [← sq_cL hl]
  exact sq_fo_dbl sq_om _ l
theorem sq_AL0 {M : Nat → Nat → Nat → Nat → Bool} {R : Nat → Bool} {tn : Nat → Nat} {w st n : Nat} : sq_AL M R tn w st n 0 = 0 := sq_go0 sq_om sq_I _
theorem sq_ALs {M : Nat → Nat → Nat → Nat → Bool} {R : Nat → Bool} {tn : Nat → Nat} {w st n m : Nat} : sq_AL M R tn w st n (m + 1) = max (sq_AL M R tn w st n m) (sq_LL M R tn w st m n) := sq_gos sq_om sq_I m _
theorem sq_ALn {M : Nat → Nat → Nat → Nat → Bool} {R : Nat → Bool} {tn : Nat → Nat} {w st n : Nat} (hn : n ≤ 10) : sq_AL M R tn w st n n = sq_mx (sq_gL M R tn w st) (2 ^ n) := sq_gon sq_gL0 hn
theorem sq_TT0 {M : Nat → Nat → Nat → Nat → Bool} {R : Nat → Bool} {tn : Nat → Nat} {w st f : Nat} (hf : f ≤ 10) : sq_TT M R tn w st f f = 0 := sq_gi0 sq_ot sq_gT0 hf
theorem sq_TTs {M : Nat → Nat → Nat → Nat → Bool} {R : Nat → Bool} {tn : Nat → Nat} {w st f l : Nat} (hl : l < 10) : sq_TT M R tn w st f (l + 1) = sq_tm (sq_TT M R tn w st f l) (if 0 < sq_C M R tn w st f 100 l then tn l - tn f + 1 else 0) := by
  rw [← sq_cT hl]
  exact sq_fo_dbl sq_ot _ l
theorem sq_AT0 {M : Nat → Nat → Nat → Nat → Bool} {R : Nat → Bool} {tn : Nat → Nat} {w st n : Nat} : sq_AT M R tn w st n 0 = 0 := sq_go0 sq_ot sq_I _
theorem sq_ATs {M : Nat → Nat → Nat → Nat → Bool} {R : Nat → Bool} {tn : Nat → Nat} {w st n m : Nat} : sq_AT M R tn w st n (m + 1) = sq_tm (sq_AT M R tn w st n m) (sq_TT M R tn w st m n) := sq_gos sq_ot sq_I m _
theorem sq_ATn {M : Nat → Nat → Nat → Nat → Bool} {R : Nat → Bool} {tn : Nat → Nat} {w st n : Nat} (hn : n ≤ 10) : sq_AT M R tn w st n n = sq_fo sq_tm (sq_gT M R tn w st) (2 ^ n) := sq_gon sq_gT0 hn
theorem sq_le0 {c : Nat} (h : c < 2 ^ 31) : nI c ≤ 0 ↔ c = 0 := by
  have a : nI c ≤ nI 0 ↔ c ≤ 0 := nI_leI h (by omega)
  exact a.trans ⟨fun z => by omega, fun z => by omega⟩
def sq_vn (va : Nat → Int32) (i : Nat) : Nat := (va i).toBitVec.toNat
theorem sq_vnI (va : Nat → Int32) (i : Nat) : va i = nI (sq_vn va i) := Int32.toBitVec_inj.mp (by show _ = BitVec.ofNat 32 _; unfold sq_vn; simp)
variable {n st w : Nat} {tn : Nat → Nat} {ty va ti sT bo ki re : Nat → Int32}
theorem xq_l21 {post : Int32 → SX → Prop} {J5 : Int32 → Int32 → Int32 → Int32 → Int32 → (Nat → Int32) → (Nat → Int32) → (Nat → Int32) → (Nat → Int32) → (Nat → Int32) → (Nat → Int32) → (Nat → Int32) → (Nat → Int32) → (Nat → Int32) → Prop} {f a0 : Nat} {wa le : Nat → Int32} (H : sq_W n st w tn ti ki re) (P : xq_P (sq_mt ty va sT bo ki) (sq_R re) tn w st n f 100 wa le)
    (h : ∀ a, a = max a0 (sq_LL (sq_mt ty va sT bo ki) (sq_R re) tn w st f n) → a ≤ 10 → J5 (sq_en a) (nI (f + 1)) (nI n) (nI st) (nI w) ty va ti sT bo ki re wa le) :
    ∀ (d l a : Nat), l + d = n → f ≤ l → a = max a0 (sq_LL (sq_mt ty va sT bo ki) (sq_R re) tn w st f l) → a ≤ 10 → wX_longest_21 post J5 (nI f) (nI n) (nI st) (nI w) ty va ti sT bo ki re wa le (d + 1) (sq_en a) (nI l) := by
  have hn : n ≤ 10 := H.1
  have hst : st ≤ 4 := H.2.1
  intro d
  induction d with
  | zero =>
    intro l a hl _ ha hb
    have z : l = n := by omega
    subst z
    rw [wX_longest_21]
    exact br_t (nI_le (Nat.le_refl _) (by omega)) (nm_r (nI_1 f) (h a ha hb))
  | succ d ih =>
    intro l a hl hf ha hb
    rw [wX_longest_21]
    have s := sq_LLs (M := (sq_mt ty va sT bo ki)) (R := (sq_R re)) (tn := tn) (w := w) (st := st) (f := f) (show l < 10 by omega)
    have c1 := sq_C_le (M := (sq_mt ty va sT bo ki)) (R := (sq_R re)) (tn := tn) (w := w) (st := st) (f := f) (o := 100) (show l < 10 by omega)
    have c2 := sq_E_le (M := (sq_mt ty va sT bo ki)) (R := (sq_R re)) (tn := tn) (w := w) (st := st) (f := f) (o := 100) (show l < 10 by omega)
    refine br_f (nI_ge (by omega) (by omega)) (xq_fgt H P hf (by omega) (br_c (fun q => nm_r (nI_1 l) (ih (l + 1) a (by omega) (by omega) ?_ hb)) (fun q => ?_)))
    · have z := sq_E_z ((sq_le0 (by omega)).mp q)
      rw [s, z, Nat.max_zero]
      exact ha
    · have z : 0 < sq_C (sq_mt ty va sT bo ki) (sq_R re) tn w st f 100 l := Nat.pos_of_ne_zero (fun z => q ((sq_le0 (by omega)).mpr z))
      have z2 := sq_E_p (show l < 10 by omega) z
      have v : vp_in (nI (l * 4 + (st - 1))) 40 := vp_in_nI (by omega) (by omega)
      have e : le (nI (l * 4 + (st - 1))).toNatClampNeg = nI (sq_E (sq_mt ty va sT bo ki) (sq_R re) tn w st f 100 l) := by
        rw [nI_clamp (by omega), (P l (st - 1) hf (by omega) (by omega)).2, ← (sq_C_k z2.2).2]
      have en := sq_en_lt (a := a) z2.1 (by omega) (by omega)
      refine xq_last z2.2 ⟨v, br_c (fun q2 => nm_r (nI_1 l) (ih (l + 1) a (by omega) (by omega) ?_ hb)) (fun q2 => xq_last z2.2 ⟨v, nm_r (e' := sq_en (sq_E (sq_mt ty va sT bo ki) (sq_R re) tn w st f 100 l)) ?_ (nm_r (nI_1 l) (ih (l + 1) _ (by omega) (by omega) ?_ c2))⟩)⟩
      · rw [e] at q2
        have k : ¬ a < sq_E (sq_mt ty va sT bo ki) (sq_R re) tn w st f 100 l := fun z => absurd (en.mpr z) (Int32.not_lt.mpr q2)
        rw [s]
        omega
      · rw [e]
        unfold sq_en
        rw [if_neg (by omega)]
      · rw [e] at q2
        have k : a < sq_E (sq_mt ty va sT bo ki) (sq_R re) tn w st f 100 l := en.mp (Int32.not_le.mp q2)
        rw [s]
        omega
theorem xq_l5 {post : Int32 → SX → Prop} (H : sq_W n st w tn ti ki re) (h : ∀ wa' le' : Nat → Int32, post (sq_en (sq_AL (sq_mt ty va sT bo ki) (sq_R re) tn w st n n)) (nI n, nI st, nI w, ty, va, ti, sT, bo, ki, re, wa', le')) :
    ∀ (d m a : Nat) (wa le : Nat → Int32), m + d = n → a = sq_AL (sq_mt ty va sT bo ki) (sq_R re) tn w st n m → a ≤ 10 → wX_longest_5 post (d + 1) (sq_en a) (nI m) (nI n) (nI st) (nI w) ty va ti sT bo ki re wa le := by
  have hn : n ≤ 10 := H.1
  intro d
  induction d with
  | zero =>
    intro m a wa le hm ha hb
    have z : m = n := by omega
    subst z
    rw [wX_longest_5, ha]
    exact br_t (nI_le (Nat.le_refl _) (by omega)) (h wa le)
  | succ d ih =>
    intro m a wa le hm ha hb
    rw [wX_longest_5]
    refine br_f (nI_ge (by omega) (by omega)) (xq_growFrom H (by omega) sq_lo1 (fun wa' le' P => ?_))
    try dsimp only
    refine ⟨_, xq_l21 (a0 := a) H P (fun a' ha' hb' => ih (m + 1) a' wa' le' (by omega) ?_ hb') (n - m) m a (by omega) (Nat.le_refl m) ?_ hb⟩
    · rw [ha', sq_ALs, ha]
    · rw [sq_LL0 (by omega), Nat.max_zero]
theorem xq_longest {post : Int32 → SX → Prop} {wa le : Nat → Int32} (H : sq_W n st w tn ti ki re) (h : ∀ wa' le' : Nat → Int32, post (sq_en (sq_AL (sq_mt ty va sT bo ki) (sq_R re) tn w st n n)) (nI n, nI st, nI w, ty, va, ti, sT, bo, ki, re, wa', le')) : wpX_longest post (nI n, nI st, nI w, ty, va, ti, sT, bo, ki, re, wa, le) :=
  ⟨_, xq_l5 H h n 0 0 wa le (by omega) sq_AL0.symm (by omega)⟩
theorem xq_t21 {post : Int32 → SX → Prop} {J5 : Int32 → Int32 → Int32 → Int32 → Int32 → (Nat → Int32) → (Nat → Int32) → (Nat → Int32) → (Nat → Int32) → (Nat → Int32) → (Nat → Int32) → (Nat → Int32) → (Nat → Int32) → (Nat → Int32) → Prop} {f a0 : Nat} {wa le : Nat → Int32} (H : sq_W n st w tn ti ki re) (P : xq_P (sq_mt ty va sT bo ki) (sq_R re) tn w st n f 100 wa le)
    (h : ∀ a, a = sq_tm a0 (sq_TT (sq_mt ty va sT bo ki) (sq_R re) tn w st f n) → a ≤ 51 → J5 (sq_et a) (nI (f + 1)) (nI n) (nI st) (nI w) ty va ti sT bo ki re wa le) :
    ∀ (d l a : Nat), l + d = n → f ≤ l → a = sq_tm a0 (sq_TT (sq_mt ty va sT bo ki) (sq_R re) tn w st f l) → a ≤ 51 → wX_tightest_21 post J5 (nI f) (nI n) (nI st) (nI w) ty va ti sT bo ki re wa le (d + 1) (sq_et a) (nI l) := by
  have hn : n ≤ 10 := H.1
  have hst : st ≤ 4 := H.2.1
  have tb := H.2.2.2.2.2.1
  intro d
  induction d with
  | zero =>
    intro l a hl _ ha hb
    have z : l = n := by omega
    subst z
    rw [wX_tightest_21]
    exact br_t (nI_le (Nat.le_refl _) (by omega)) (nm_r (nI_1 f) (h a ha hb))
  | succ d ih =>
    intro l a hl hf ha hb
    rw [wX_tightest_21]
    have s := sq_TTs (M := (sq_mt ty va sT bo ki)) (R := (sq_R re)) (tn := tn) (w := w) (st := st) (f := f) (show l < 10 by omega)
    have c1 := sq_C_le (M := (sq_mt ty va sT bo ki)) (R := (sq_R re)) (tn := tn) (w := w) (st := st) (f := f) (o := 100) (show l < 10 by omega)
    have tl := tb l (by omega)
    have vl : vp_in (nI l) 10 := vp_in_nI (by omega) (by omega)
    have vf : vp_in (nI f) 10 := vp_in_nI (by omega) (by omega)
    have el : (nI l).toNatClampNeg = l := nI_clamp (by omega)
    have ef : (nI f).toNatClampNeg = f := nI_clamp (by omega)
    have nr := sq_near H hf (show l < n by omega)
    have nx : sq_tm a0 (sq_TT (sq_mt ty va sT bo ki) (sq_R re) tn w st f (l + 1)) = sq_tm a (if 0 < sq_C (sq_mt ty va sT bo ki) (sq_R re) tn w st f 100 l then tn l - tn f + 1 else 0) := by
      rw [s, ← sq_ot.2.1, ← ha]
    refine br_f (nI_ge (by omega) (by omega)) ⟨vl, vf, nm_r (e' := nI (tn l - tn f)) ?_ (xq_fgt H P hf (by omega) (br_c (fun q => nm_r (nI_1 l) (ih (l + 1) a (by omega) (by omega) ?_ hb)) (fun q => ?_)))⟩
    · rw [el, ef]; exact nr.1
    · have z := (sq_le0 (by omega)).mp q
      rw [nx, if_neg (by omega), sq_ot.2.2]
    · have z : 0 < sq_C (sq_mt ty va sT bo ki) (sq_R re) tn w st f 100 l := Nat.pos_of_ne_zero (fun z => q ((sq_le0 (by omega)).mpr z))
      rw [if_pos z] at nx
      have tk : sq_et (tn l - tn f + 1) = nI (tn l - tn f) := by
        unfold sq_et
        rw [if_neg (by omega)]; rfl
      have nw : ∀ x : Int32, x = nI l + 1 → sq_tm a (tn l - tn f + 1) = tn l - tn f + 1 → wX_tightest_21 post J5 (nI f) (nI n) (nI st) (nI w) ty va ti sT bo ki re wa le (d + 1) (nI (tn l - tn f)) x := by
        intro x ex e
        rw [ex, nI_1 l, ← tk]
        exact ih (l + 1) _ (by omega) (by omega) (by rw [nx, e]) (by omega)
      refine br_c (fun q2 => fun x ex => nw x ex ?_) (fun q2 => br_c (fun q3 => nm_r (nI_1 l) (ih (l + 1) a (by omega) (by omega) ?_ hb)) (fun q3 => fun x ex => nw x ex ?_))
      · have a1 := (sq_et_no (by omega)).mp q2
        unfold sq_tm
        rw [if_pos a1]
      · have a1 : a ≠ 0 := fun z => q2 ((sq_et_no (by omega)).mpr z)
        have a2 : a - 1 ≤ tn l - tn f := by
          unfold sq_et at q3
          rw [if_neg a1] at q3
          exact (nI_leI (by omega) (by omega)).mp q3
        rw [nx]
        unfold sq_tm
        rw [if_neg a1, if_neg (by omega), if_pos (by omega)]
      · have a1 : a ≠ 0 := fun z => q2 ((sq_et_no (by omega)).mpr z)
        have a2 : ¬ a - 1 ≤ tn l - tn f := by
          unfold sq_et at q3
          rw [if_neg a1] at q3
          exact fun z => q3 ((nI_leI (by omega) (by omega)).mpr z)
        unfold sq_tm
        rw [if_neg a1, if_neg (by omega), if_neg (by omega)]
theorem xq_t5 {post : Int32 → SX → Prop} (H : sq_W n st w tn ti ki re) (h : ∀ wa' le' : Nat → Int32, post (sq_et (sq_AT (sq_mt ty va sT bo ki) (sq_R re) tn w st n n)) (nI n, nI st, nI w, ty, va, ti, sT, bo, ki, re, wa', le')) :
    ∀ (d m a : Nat) (wa le : Nat → Int32), m + d = n → a = sq_AT (sq_mt ty va sT bo ki) (sq_R re) tn w st n m → a ≤ 51 → wX_tightest_5 post (d + 1) (sq_et a) (nI m) (nI n) (nI st) (nI w) ty va ti sT bo ki re wa le := by
  have hn : n ≤ 10 := H.1
  intro d
  induction d with
  | zero =>
    intro m a wa le hm ha hb
    have z : m = n := by omega
    subst z
    rw [wX_tightest_5, ha]
    exact br_t (nI_le (Nat.le_refl _) (by omega)) (h wa le)
  | succ d ih =>
    intro m a wa le hm ha hb
    rw [wX_tightest_5]
    refine br_f (nI_ge (by omega) (by omega)) (xq_growFrom H (by omega) sq_lo1 (fun wa' le' P => ?_))
    try dsimp only
    refine ⟨_, xq_t21 (a0 := a) H P (fun a' ha' hb' => ih (m + 1) a' wa' le' (by omega) ?_ hb') (n - m) m a (by omega) (Nat.le_refl m) ?_ hb⟩
    · rw [ha', sq_ATs, ha]
    · rw [sq_TT0 (by omega), sq_ot.2.2]
theorem xq_tightest {post : Int32 → SX → Prop} {wa le : Nat → Int32} (H : sq_W n st w tn ti ki re) (h : ∀ wa' le' : Nat → Int32, post (sq_et (sq_AT (sq_mt ty va sT bo ki) (sq_R re) tn w st n n)) (nI n, nI st, nI w, ty, va, ti, sT, bo, ki, re, wa', le')) : wpX_tightest post (nI n, nI st, nI w, ty, va, ti, sT, bo, ki, re, wa, le) :=
  ⟨_, xq_t5 H h n 0 0 wa le (by omega) sq_AT0.symm (by omega)⟩
def sq_S (M : Nat → Nat → Nat → Nat → Bool) (R : Nat → Bool) (tn : Nat → Nat) (w st : Nat) (vn : Nat → Nat) (N : Nat) : Nat := sq_sm (fun t => vn (sq_L t - 1) * sq_F M R tn w st t) N
theorem xq_v4 {post : Int32 → SX → Prop} (H : sq_W n st w tn ti ki re) (h : ∀ wa' le' : Nat → Int32, post (nI (sq_S (sq_mt ty va sT bo ki) (sq_R re) tn w st (sq_vn va) (2 ^ n))) (nI n, nI st, nI w, ty, va, ti, sT, bo, ki, re, wa', le')) :
    ∀ (d m : Nat) (wa le : Nat → Int32), m + d = n → wX_lastValues_4 post (d + 1) (nI (sq_S (sq_mt ty va sT bo ki) (sq_R re) tn w st (sq_vn va) (2 ^ m))) (nI m) (nI n) (nI st) (nI w) ty va ti sT bo ki re wa le := by
  have hn : n ≤ 10 := H.1
  intro d
  induction d with
  | zero =>
    intro m wa le hm
    have z : m = n := by omega
    subst z
    rw [wX_lastValues_4]
    exact br_t (nI_le (Nat.le_refl _) (by omega)) (h wa le)
  | succ d ih =>
    intro m wa le hm
    rw [wX_lastValues_4]
    have vm : vp_in (nI m) 10 := vp_in_nI (by omega) (by omega)
    have em : (nI m).toNatClampNeg = m := nI_clamp (by omega)
    refine br_f (nI_ge (by omega) (by omega)) ⟨vm, xq_ce H (by omega) (fun wa' le' => ?_)⟩
    try dsimp only
    refine nm_r (e' := nI (sq_S (sq_mt ty va sT bo ki) (sq_R re) tn w st (sq_vn va) (2 ^ (m + 1)))) ?_ (nm_r (nI_1 m) (ih (m + 1) wa' le' (by omega)))
    rw [em, sq_vnI va m, pk_mul, nI_add]
    exact congrArg nI (sq_vs (by omega)).symm
theorem xq_lastValues {post : Int32 → SX → Prop} {wa le : Nat → Int32} (H : sq_W n st w tn ti ki re) (h : ∀ wa' le' : Nat → Int32, post (nI (sq_S (sq_mt ty va sT bo ki) (sq_R re) tn w st (sq_vn va) (2 ^ n))) (nI n, nI st, nI w, ty, va, ti, sT, bo, ki, re, wa', le')) : wpX_lastValues post (nI n, nI st, nI w, ty, va, ti, sT, bo, ki, re, wa, le) := by
  have a := xq_v4 H h n 0 wa le (by omega)
  have b : sq_S (sq_mt ty va sT bo ki) (sq_R re) tn w st (sq_vn va) (2 ^ 0) = 0 := sq_v1
  rw [b] at a
  exact ⟨_, a⟩
