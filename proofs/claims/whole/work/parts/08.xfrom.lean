/-! the component: growFrom -/
theorem sq_Ibit {n : Nat} (hn : n ≤ 10) : ∀ s, s < 2 ^ n → s ≠ 0 → s.testBit (sq_I s) = true := by
  refine sq_ind n (fun z => absurd rfl z) ?_
  intro e s he hs ih _
  rw [sq_Is (by omega) hs]
  by_cases h0 : sq_L s = 0
  · rw [if_pos h0]; exact sq_hi hs
  · rw [if_neg h0]
    have hz : s ≠ 0 := fun z => h0 (by rw [z]; exact sq_L0)
    have h1 := sq_Ilt' (n := e) (by omega) hs hz
    rw [sq_bit hs (by omega)]
    exact ih hz
theorem sq_Vdead (M : Nat → Nat → Nat → Nat → Bool) (R : Nat → Bool) {n : Nat} (hn : n ≤ 10) : ∀ s, s < 2 ^ n → s ≠ 0 → M (sq_I s) (sq_I s) 0 (sq_I s) = false → ∀ k, sq_V M R s k = 0 := by
  refine sq_ind n (fun z => absurd rfl z) ?_
  intro e s he hs ih _ hM k
  rw [sq_Is (by omega) hs] at hM
  rw [sq_Vs M R (by omega) hs]
  unfold sq_nx
  by_cases h0 : sq_L s = 0
  · rw [if_pos h0] at hM
    rw [if_pos h0, if_neg]
    intro z
    rw [hM] at z
    exact nomatch z.2
  · rw [if_neg h0] at hM
    have hz : s ≠ 0 := fun z => h0 (by rw [z]; exact sq_L0)
    have v := ih hz hM
    rw [if_neg h0, v k, v (k - 1)]
    repeat' split
    all_goals rfl
def sq_dead (M : Nat → Nat → Nat → Nat → Bool) (f o : Nat) : Prop := f = o ∨ M f f 0 f = false
theorem sq_u_dead {M : Nat → Nat → Nat → Nat → Bool} {R : Nat → Bool} {f o k t : Nat} (h : sq_dead M f o) (ht : t < 2 ^ 10) (h0 : t ≠ 0) : sq_u M R f o k t = 0 := by
  unfold sq_u
  by_cases c : sq_I t = f ∧ t.testBit o = false
  · rw [if_pos c]
    rcases h with h | h
    · have b := sq_Ibit (n := 10) (by decide) t ht h0
      rw [c.1, h, c.2] at b
      exact nomatch b
    · refine sq_Vdead M R (n := 10) (by decide) t ht h0 ?_ k
      rw [c.1]; exact h
  · rw [if_neg c]
theorem sq_G_dead {M : Nat → Nat → Nat → Nat → Bool} {R : Nat → Bool} {f o k l : Nat} (h : sq_dead M f o) (hl : l < 10) : sq_G M R f o l k l = 0 := by
  have hp := Nat.two_pow_pos l
  exact sq_fo_zero sq_oa fun i hi => sq_u_dead h (sq_p10 hl hi) (by omega)
theorem sq_G_o {M : Nat → Nat → Nat → Nat → Bool} {R : Nat → Bool} {f k l : Nat} (_ : l < 10) : sq_G M R f l l k l = 0 := by
  refine sq_fo_zero sq_oa fun i hi => ?_
  try dsimp only
  unfold sq_u
  rw [sq_hi hi, if_neg (fun c => nomatch c.2)]
def sq_Ck (M : Nat → Nat → Nat → Nat → Bool) (R : Nat → Bool) (tn : Nat → Nat) (w f o l k : Nat) : Nat := if tn l - tn f ≤ w then sq_G M R f o l k l else 0
def sq_Ek (M : Nat → Nat → Nat → Nat → Bool) (R : Nat → Bool) (tn : Nat → Nat) (w f o l k : Nat) : Nat := if tn l - tn f ≤ w then sq_D M R f o l k l else 0
theorem sq_Ckn {M : Nat → Nat → Nat → Nat → Bool} {R : Nat → Bool} {tn : Nat → Nat} {w f o l k : Nat} (h : tn l - tn f ≤ w) : sq_Ck M R tn w f o l k = sq_G M R f o l k l ∧ sq_Ek M R tn w f o l k = sq_D M R f o l k l := ⟨if_pos h, if_pos h⟩
theorem sq_Ckz {M : Nat → Nat → Nat → Nat → Bool} {R : Nat → Bool} {tn : Nat → Nat} {w f o l k : Nat} (h : tn l - tn f ≤ w → sq_G M R f o l k l = 0) : sq_Ck M R tn w f o l k = 0 ∧ sq_Ek M R tn w f o l k = 0 := by
  unfold sq_Ck sq_Ek
  by_cases c : tn l - tn f ≤ w
  · rw [if_pos c, if_pos c]; exact ⟨h c, sq_D_z (h c)⟩
  · rw [if_neg c, if_neg c]; exact ⟨rfl, rfl⟩
def xq_P (M : Nat → Nat → Nat → Nat → Bool) (R : Nat → Bool) (tn : Nat → Nat) (w st n f o : Nat) (wa le : Nat → Int32) : Prop := ∀ l k, f ≤ l → l < n → k < st → wa (l * 4 + k) = nI (sq_Ck M R tn w f o l k) ∧ le (l * 4 + k) = nI (sq_Ek M R tn w f o l k)
variable {n st w : Nat} {tn : Nat → Nat} {ty va ti sT bo ki re : Nat → Int32}
theorem xq_74 {post : SX → Prop} {f o : Nat} {lo : Int32} (H : sq_W n st w tn ti ki re) (hlo : ∀ e, e < 10 → (nI e = lo ↔ e = o)) (h : ∀ wa' le' : Nat → Int32, xq_P (sq_mt ty va sT bo ki) (sq_R re) tn w st n f o wa' le' → post (nI n, nI st, nI w, ty, va, ti, sT, bo, ki, re, wa', le')) :
    ∀ (d e : Nat) (wa le : Nat → Int32), e + d = n → f < e → xq_P (sq_mt ty va sT bo ki) (sq_R re) tn w st e f o wa le → (∀ l k, e ≤ l → l < 10 → k < 4 → wa (l * 4 + k) = 0 ∧ le (l * 4 + k) = 0) → wX_growFrom_74 post (nI f) lo (d + 1) (nI e) (nI n) (nI st) (nI w) ty va ti sT bo ki re wa le := by
  have hn : n ≤ 10 := H.1
  have hst : st ≤ 4 := H.2.1
  have hw : w ≤ 40 := H.2.2.1
  have mono := H.2.2.2.2.1
  intro d
  induction d with
  | zero =>
    intro e wa le he _ hP _
    have z : e = n := by omega
    subst z
    rw [wX_growFrom_74]
    exact br_t (nI_le (Nat.le_refl _) (by omega)) (h wa le hP)
  | succ d ih =>
    intro e wa le he hfe hP hZ
    rw [wX_growFrom_74]
    have ve : vp_in (nI e) 10 := vp_in_nI (by omega) (by omega)
    have vf : vp_in (nI f) 10 := vp_in_nI (by omega) (by omega)
    have ee : (nI e).toNatClampNeg = e := nI_clamp (by omega)
    have ef : (nI f).toNatClampNeg = f := nI_clamp (by omega)
    have skip : (∀ k, tn e - tn f ≤ w → sq_G (sq_mt ty va sT bo ki) (sq_R re) f o e k e = 0) → wX_growFrom_74 post (nI f) lo (d + 1) (nI (e + 1)) (nI n) (nI st) (nI w) ty va ti sT bo ki re wa le := by
      intro hz
      refine ih (e + 1) wa le (by omega) (by omega) ?_ (fun l k hl hl2 hk => hZ l k (by omega) hl2 hk)
      intro l k hl hl2 hk
      by_cases c : l = e
      · subst c
        have a := hZ l k (Nat.le_refl l) (by omega) (by omega)
        have b := sq_Ckz (hz k)
        rw [a.1, a.2, b.1, b.2]
        exact ⟨rfl, rfl⟩
      · exact hP l k hl (by omega) hk
    dsimp only
    rw [ee, ef]
    refine br_f (nI_ge (by omega) (by omega)) (br_c (fun q => nm_r (nI_1 e) ?_) (fun q => ⟨ve, vf, br_c (fun q2 => nm_r (nI_1 e) ?_) (fun q2 => ?_)⟩))
    · have z := (hlo e (by omega)).mp q
      refine skip (fun k _ => ?_)
      rw [← z]
      exact sq_G_o (by omega)
    · refine skip (fun k z => ?_)
      have a := (sq_nearI H (show f ≤ e by omega) (by omega)).mpr z
      exact absurd q2 (Int32.not_lt.mpr a)
    · have near : tn e - tn f ≤ w := (sq_nearI H (show f ≤ e by omega) (by omega)).mp (Int32.not_lt.mp q2)
      have ho : o ≠ e := fun z => q ((hlo e (by omega)).mpr z.symm)
      refine xq_growTo H (by omega) hfe ho ?_ (fun j hj => hZ e j (Nat.le_refl e) (by omega) hj) ?_
      · intro l k hl hle hk
        have a := hP l k hl hle hk
        have m := mono l e (by omega) (by omega)
        have b := sq_Ckn (M := (sq_mt ty va sT bo ki)) (R := (sq_R re)) (o := o) (k := k) (show tn l - tn f ≤ w by omega)
        rw [b.1, b.2] at a
        exact a
      · intro wa2 le2 fr cl
        refine nm_r (nI_1 e) (ih (e + 1) wa2 le2 (by omega) (by omega) ?_ ?_)
        · intro l k hl hl2 hk
          by_cases c : l = e
          · subst c
            have b := sq_Ckn (M := (sq_mt ty va sT bo ki)) (R := (sq_R re)) (o := o) (k := k) near
            rw [b.1, b.2]
            exact cl k hk
          · have x := fr (l * 4 + k) (Or.inl (by omega))
            have y := hP l k hl (by omega) hk
            exact ⟨x.1.trans y.1, x.2.trans y.2⟩
        · intro l k hl hl2 hk
          have x := fr (l * 4 + k) (Or.inr (by omega))
          have y := hZ l k (by omega) hl2 hk
          exact ⟨x.1.trans y.1, x.2.trans y.2⟩
theorem xq_gf2 {post : SX → Prop} {f o : Nat} {lo : Int32} (H : sq_W n st w tn ti ki re) (hf : f < n) (hlo : ∀ e, e < 10 → (nI e = lo ↔ e = o)) (h : ∀ wa' le' : Nat → Int32, xq_P (sq_mt ty va sT bo ki) (sq_R re) tn w st n f o wa' le' → post (nI n, nI st, nI w, ty, va, ti, sT, bo, ki, re, wa', le')) :
    ∀ (d i : Nat) (wa le : Nat → Int32), i + d = 40 → (∀ j, j < i → wa j = 0 ∧ le j = 0) → wX_growFrom_2 post (nI f) lo (nI n) (nI st) (nI w) (d + 1) (nI i) ty va ti sT bo ki re wa le := by
  have hn : n ≤ 10 := H.1
  have hst : st ≤ 4 := H.2.1
  intro d
  induction d with
  | zero =>
    intro i wa le hi hz
    have z : i = 40 := by omega
    subst z
    rw [wX_growFrom_2]
    have e4 : nI f * 4 = nI (f * 4) := pk_mul f 4
    have v4 : vp_in (nI (f * 4)) 40 := vp_in_nI (by omega) (by omega)
    have c4 : (nI (f * 4)).toNatClampNeg = f * 4 := nI_clamp (by omega)
    have dead : st = 0 ∨ sq_dead (sq_mt ty va sT bo ki) f o → post (nI n, nI st, nI w, ty, va, ti, sT, bo, ki, re, wa, le) := by
      intro dd
      refine h wa le (fun l k hl hl2 hk => ?_)
      have a := hz (l * 4 + k) (by omega)
      rcases dd with dd | dd
      · omega
      · have b := sq_Ckz (M := (sq_mt ty va sT bo ki)) (R := (sq_R re)) (tn := tn) (w := w) (fun _ => sq_G_dead (k := k) dd (show l < 10 by omega))
        rw [a.1, a.2, b.1, b.2]
        exact ⟨rfl, rfl⟩
    rw [e4, c4]
    refine br_t (nI_le (a := 40) (Nat.le_refl 40) (by omega)) (br_c (fun q => dead (Or.inl ?_)) (fun q => br_c (fun q2 => dead (Or.inr (Or.inl ((hlo f (by omega)).mp q2)))) (fun q2 => ?_)))
    · exact (nI_eq (b := 0) (show st < 2 ^ 31 by omega) (by omega)).mp q
    · refine xq_suits (k := 0) H (by omega) (by omega) (by omega) (by omega) ?_
      cases a : (sq_mt ty va sT bo ki) f f 0 f
      · exact br_t rfl (dead (Or.inr (Or.inr a)))
      · have ho : f ≠ o := fun z => q2 ((hlo f (by omega)).mpr z)
        refine br_f (by decide) ⟨v4, nm_e ⟨v4, nm_e (nm_r (nI_1 f) ⟨n - (f + 1) + 1, xq_74 H hlo h (n - (f + 1)) (f + 1) _ _ (by omega) (by omega) ?_ ?_⟩)⟩⟩
        · intro l k hl hl2 hk
          have z : l = f := by omega
          subst z
          have b := sq_Ckn (M := (sq_mt ty va sT bo ki)) (R := (sq_R re)) (o := o) (k := k) (show tn l - tn l ≤ w by omega)
          rw [b.1, b.2, sq_G_f (by omega), sq_D_f (by omega)]
          by_cases c : k = 0
          · subst c
            rw [if_pos ⟨ho, rfl, a⟩]
            exact ⟨pk_us, pk_us⟩
          · rw [if_neg (fun z => c z.2.1)]
            have x := hz (l * 4 + k) (by omega)
            exact ⟨(pk_un (by omega)).trans x.1, (pk_un (by omega)).trans x.2⟩
        · intro l k hl hl2 hk
          have x := hz (l * 4 + k) (by omega)
          exact ⟨(pk_un (by omega)).trans x.1, (pk_un (by omega)).trans x.2⟩
  | succ d ih =>
    intro i wa le hi hz
    rw [wX_growFrom_2]
    have vi : vp_in (nI i) 40 := vp_in_nI (by omega) (by omega)
    have ei : (nI i).toNatClampNeg = i := nI_clamp (by omega)
    dsimp only
    rw [ei]
    refine br_f (nI_ge (b := 40) (by omega) (by omega)) ⟨vi, nm_e ⟨vi, nm_e (nm_r (nI_1 i) (ih (i + 1) _ _ (by omega) (fun j hj => ?_)))⟩⟩
    by_cases c : j = i
    · subst c; exact ⟨pk_us, pk_us⟩
    · have x := hz j (by omega)
      exact ⟨(pk_un c).trans x.1, (pk_un c).trans x.2⟩
theorem xq_growFrom {post : SX → Prop} {f o : Nat} {lo : Int32} {wa le : Nat → Int32} (H : sq_W n st w tn ti ki re) (hf : f < n) (hlo : ∀ e, e < 10 → (nI e = lo ↔ e = o)) (h : ∀ wa' le' : Nat → Int32, xq_P (sq_mt ty va sT bo ki) (sq_R re) tn w st n f o wa' le' → post (nI n, nI st, nI w, ty, va, ti, sT, bo, ki, re, wa', le')) : wpX_growFrom post (nI n, nI st, nI w, ty, va, ti, sT, bo, ki, re, wa, le) (nI f) lo :=
  ⟨41, xq_gf2 H hf hlo h 40 0 wa le rfl (fun j hj => absurd hj (Nat.not_lt_zero j))⟩
theorem sq_lo1 : ∀ e, e < 10 → (nI e = (-1) ↔ e = 100) := by
  intro e he
  constructor
  · intro z
    have z2 := congrArg Int32.toInt z
    rw [nI_toInt (by omega), show (-1 : Int32).toInt = -1 from by decide] at z2
    omega
  · intro z; omega
