/-! the component: growTo -/
variable {n st w : Nat} {tn : Nat → Nat} {ty va ti sT bo ki re : Nat → Int32}
def xq_fr (to : Nat) (wa le wa' le' : Nat → Int32) : Prop := ∀ i, i ≠ to → wa' i = wa i ∧ le' i = le i
/-- what growTo finds in the cells ahead of e -/
def xq_A (M : Nat → Nat → Nat → Nat → Bool) (R : Nat → Bool) (st f o e : Nat) (wa le : Nat → Int32) : Prop := ∀ l k, f ≤ l → l < e → k < st → wa (l * 4 + k) = nI (sq_G M R f o l k l) ∧ le (l * 4 + k) = nI (sq_D M R f o l k l)
theorem sq_ln_le {d g x c : Nat} (h1 : d ≤ c) (h2 : x + 1 ≤ c) : sq_ln d g x ≤ c := by
  unfold sq_ln
  split
  · omega
  · omega
theorem xq_68 {post : SX → Prop} {J2 J20 : Int32 → Int32 → Int32 → Int32 → (Nat → Int32) → (Nat → Int32) → (Nat → Int32) → (Nat → Int32) → (Nat → Int32) → (Nat → Int32) → (Nat → Int32) → (Nat → Int32) → (Nat → Int32) → Prop} {e f o k m g1 d1 : Nat} {wa le wa' le' : Nat → Int32} (he : e < 10) (hfm : f ≤ m) (hm : m < e) (hk : k < st) (hst : st ≤ 4) (hA : xq_A (sq_mt ty va sT bo ki) (sq_R re) st f o e wa le) (fr : xq_fr (e * 4 + k) wa le wa' le') (hg : wa' (e * 4 + k) = nI g1) (hd : le' (e * 4 + k) = nI d1) (hd1 : d1 ≤ 11)
    (h : ∀ wa2 le2 : Nat → Int32, xq_fr (e * 4 + k) wa le wa2 le2 → wa2 (e * 4 + k) = nI (g1 + (if k = 0 then 0 else sq_G (sq_mt ty va sT bo ki) (sq_R re) f o m (k - 1) m)) → le2 (e * 4 + k) = nI (if k = 0 then d1 else sq_ln d1 (sq_G (sq_mt ty va sT bo ki) (sq_R re) f o m (k - 1) m) (sq_D (sq_mt ty va sT bo ki) (sq_R re) f o m (k - 1) m)) → J20 (nI (m + 1)) (nI n) (nI st) (nI w) ty va ti sT bo ki re wa2 le2) :
    wX_growTo_68 post J2 J20 (nI e) (nI f) (nI k) (nI (e * 4 + k)) (nI m) (nI (m * 4 + k)) 1 (nI n) (nI st) (nI w) ty va ti sT bo ki re wa' le' := by
  unfold wX_growTo_68
  refine br_f (by decide) (br_c (fun q => nm_r (nI_1 m) ?_) (fun q => ?_))
  · have z : k = 0 := by
      have := (nI_leI (b := 0) (show k < 2 ^ 31 by omega) (by omega)).mp q
      omega
    refine h wa' le' fr ?_ ?_
    · rw [hg, if_pos z]; rfl
    · rw [hd, if_pos z]
  · have z : k ≠ 0 := fun z => q (by rw [z]; decide)
    obtain ⟨j, rfl⟩ : ∃ j, k = j + 1 := ⟨k - 1, by omega⟩
    have e1 : nI (m * 4 + (j + 1)) - 1 = nI (m * 4 + j) := nI_pred (m * 4 + j)
    have c := hA m j hfm hm (by omega)
    have ne : m * 4 + j ≠ e * 4 + (j + 1) := by omega
    have f1 := fr _ ne
    rw [e1]
    have b1 := sq_G_le (M := (sq_mt ty va sT bo ki)) (R := (sq_R re)) (f := f) (o := o) (k := j) (show m < 10 by omega) (Nat.le_refl m)
    have b2 := sq_D_le (M := (sq_mt ty va sT bo ki)) (R := (sq_R re)) (f := f) (o := o) (k := j) (show m < 10 by omega) (Nat.le_refl m)
    refine xq_len (by omega) (by omega) (f1.1.trans c.1) hg (f1.2.trans c.2) hd (by omega) (by omega) (by omega) ?_
    intro wa2 le2 fr2 hg2 hd2
    refine nm_r (nI_1 m) (h wa2 le2 (fun i hi => ?_) ?_ ?_)
    · have x := fr2 i hi
      have y := fr i hi
      exact ⟨x.1.trans y.1, x.2.trans y.2⟩
    · rw [hg2, if_neg z]; rfl
    · rw [hd2, if_neg z]; rfl
theorem xq_20 {post : SX → Prop} {J2 : Int32 → Int32 → Int32 → Int32 → (Nat → Int32) → (Nat → Int32) → (Nat → Int32) → (Nat → Int32) → (Nat → Int32) → (Nat → Int32) → (Nat → Int32) → (Nat → Int32) → (Nat → Int32) → Prop} {e f o k : Nat} {wa le : Nat → Int32} (H : sq_W n st w tn ti ki re) (he : e < 10) (hk : k < st) (ho : o ≠ e) (hA : xq_A (sq_mt ty va sT bo ki) (sq_R re) st f o e wa le)
    (h : ∀ wa2 le2 : Nat → Int32, xq_fr (e * 4 + k) wa le wa2 le2 → wa2 (e * 4 + k) = nI (sq_G (sq_mt ty va sT bo ki) (sq_R re) f o e k e) → le2 (e * 4 + k) = nI (sq_D (sq_mt ty va sT bo ki) (sq_R re) f o e k e) → J2 (nI (k + 1)) (nI n) (nI st) (nI w) ty va ti sT bo ki re wa2 le2) :
    ∀ (d m : Nat) (wa' le' : Nat → Int32), m + d = e → f ≤ m → xq_fr (e * 4 + k) wa le wa' le' → wa' (e * 4 + k) = nI (sq_G (sq_mt ty va sT bo ki) (sq_R re) f o e k m) → le' (e * 4 + k) = nI (sq_D (sq_mt ty va sT bo ki) (sq_R re) f o e k m) → wX_growTo_20 post J2 (nI e) (nI f) (nI k) (nI (e * 4 + k)) (d + 1) (nI m) (nI n) (nI st) (nI w) ty va ti sT bo ki re wa' le' := by
  have hst : st ≤ 4 := H.2.1
  intro d
  induction d with
  | zero =>
    intro m wa' le' hm _ fr hg hd
    have z : m = e := by omega
    subst z
    rw [wX_growTo_20]
    exact br_t (nI_le (Nat.le_refl _) (by omega)) (nm_r (nI_1 k) (h wa' le' fr hg hd))
  | succ d ih =>
    intro m wa' le' hm hfm fr hg hd
    rw [wX_growTo_20]
    have vk : vp_in (nI k) 4 := vp_in_nI (by omega) (by omega)
    have ek : (nI k).toNatClampNeg = k := nI_clamp (by omega)
    have e6 : nI m * 4 + nI k = nI (m * 4 + k) := by
      rw [← nI_add, ← pk_mul]; rfl
    refine br_f (nI_ge (by omega) (by omega)) (nm_r e6 (xq_suits H he (by omega) (by omega) (by omega) ?_))
    have b1 := sq_G_le (M := (sq_mt ty va sT bo ki)) (R := (sq_R re)) (f := f) (o := o) (k := k) (show m < 10 by omega) (Nat.le_refl m)
    have b2 := sq_D_le (M := (sq_mt ty va sT bo ki)) (R := (sq_R re)) (f := f) (o := o) (k := k) (show m < 10 by omega) (Nat.le_refl m)
    have b3 := sq_D_le (M := (sq_mt ty va sT bo ki)) (R := (sq_R re)) (f := f) (o := o) (k := k) he (show m ≤ e by omega)
    cases a : (sq_mt ty va sT bo ki) f e k m
    · refine br_t rfl ?_
      unfold wX_growTo_68
      refine br_t rfl (nm_r (nI_1 m) (ih (m + 1) wa' le' (by omega) (by omega) fr ?_ ?_))
      · rw [hg, sq_G_n he (by omega) ho (by rw [a]; decide)]
      · rw [hd, sq_D_n he (by omega) ho (by rw [a]; decide)]
    · refine br_f (by decide) ⟨vk, ?_⟩
      rw [ek]
      refine br_c (fun q => ?_) (fun q => ?_)
      · have r : (sq_R re) k = true := decide_eq_true q
        have c := hA m k hfm (by omega) hk
        have ne : m * 4 + k ≠ e * 4 + k := by omega
        have f1 := fr _ ne
        refine xq_len (by omega) (by omega) (f1.1.trans c.1) hg (f1.2.trans c.2) hd (by omega) (by omega) (by omega) ?_
        intro wa1 le1 fr1 hg1 hd1
        refine xq_68 he hfm (by omega) hk hst hA (fun i hi => ?_) hg1 hd1 (sq_ln_le (by omega) (by omega)) ?_
        · have x := fr1 i hi
          have y := fr i hi
          exact ⟨x.1.trans y.1, x.2.trans y.2⟩
        · intro wa2 le2 fr2 hg2 hd2
          refine ih (m + 1) wa2 le2 (by omega) (by omega) fr2 ?_ ?_
          · rw [hg2, sq_G_y he (by omega) ho a, if_pos r]
          · rw [hd2, sq_D_y he (by omega) ho a, if_pos r]
      · have r : ¬ (sq_R re) k = true := fun z => q (of_decide_eq_true z)
        refine xq_68 he hfm (by omega) hk hst hA fr hg hd (by omega) ?_
        intro wa2 le2 fr2 hg2 hd2
        refine ih (m + 1) wa2 le2 (by omega) (by omega) fr2 ?_ ?_
        · rw [hg2, sq_G_y he (by omega) ho a, if_neg r]; rfl
        · rw [hd2, sq_D_y he (by omega) ho a, if_neg r]
/-- growTo: the row of e filled, the others as they were -/
theorem xq_2 {post : SX → Prop} {e f o : Nat} {wa le : Nat → Int32} (H : sq_W n st w tn ti ki re) (he : e < 10) (hfe : f < e) (ho : o ≠ e) (hA : xq_A (sq_mt ty va sT bo ki) (sq_R re) st f o e wa le)
    (h : ∀ wa2 le2 : Nat → Int32, (∀ i, i < e * 4 ∨ e * 4 + 4 ≤ i → wa2 i = wa i ∧ le2 i = le i) → (∀ k, k < st → wa2 (e * 4 + k) = nI (sq_G (sq_mt ty va sT bo ki) (sq_R re) f o e k e) ∧ le2 (e * 4 + k) = nI (sq_D (sq_mt ty va sT bo ki) (sq_R re) f o e k e)) → post (nI n, nI st, nI w, ty, va, ti, sT, bo, ki, re, wa2, le2)) :
    ∀ (d k : Nat) (wa' le' : Nat → Int32), k + d = st → (∀ i, i < e * 4 ∨ e * 4 + 4 ≤ i → wa' i = wa i ∧ le' i = le i) → (∀ j, j < k → wa' (e * 4 + j) = nI (sq_G (sq_mt ty va sT bo ki) (sq_R re) f o e j e) ∧ le' (e * 4 + j) = nI (sq_D (sq_mt ty va sT bo ki) (sq_R re) f o e j e)) → (∀ j, k ≤ j → j < 4 → wa' (e * 4 + j) = 0 ∧ le' (e * 4 + j) = 0) → wX_growTo_2 post (nI e) (nI f) (d + 1) (nI k) (nI n) (nI st) (nI w) ty va ti sT bo ki re wa' le' := by
  have hst : st ≤ 4 := H.2.1
  intro d
  induction d with
  | zero =>
    intro k wa' le' hk h1 h2 _
    have z : k = st := by omega
    subst z
    rw [wX_growTo_2]
    exact br_t (nI_le (Nat.le_refl _) (by omega)) (h wa' le' h1 h2)
  | succ d ih =>
    intro k wa' le' hk h1 h2 h3
    rw [wX_growTo_2]
    have e6 : nI e * 4 + nI k = nI (e * 4 + k) := by
      rw [← nI_add, ← pk_mul]; rfl
    have hA' : xq_A (sq_mt ty va sT bo ki) (sq_R re) st f o e wa' le' := by
      intro l j hl hle hj
      have x := h1 (l * 4 + j) (Or.inl (by omega))
      have y := hA l j hl hle hj
      exact ⟨x.1.trans y.1, x.2.trans y.2⟩
    have z := h3 k (Nat.le_refl k) (by omega)
    refine br_f (nI_ge (by omega) (by omega)) (nm_r e6 ⟨e - f + 1, xq_20 H he (by omega) ho hA' ?_ (e - f) f wa' le' (by omega) (Nat.le_refl f) (fun _ _ => ⟨rfl, rfl⟩) ?_ ?_⟩)
    · intro wa2 le2 fr hg hd
      refine ih (k + 1) wa2 le2 (by omega) (fun i hi => ?_) (fun j hj => ?_) (fun j hj hj4 => ?_)
      · have x := fr i (by omega)
        have y := h1 i hi
        exact ⟨x.1.trans y.1, x.2.trans y.2⟩
      · by_cases c : j = k
        · subst c; exact ⟨hg, hd⟩
        · have x := fr (e * 4 + j) (by omega)
          have y := h2 j (by omega)
          exact ⟨x.1.trans y.1, x.2.trans y.2⟩
      · have x := fr (e * 4 + j) (by omega)
        have y := h3 j (by omega) hj4
        exact ⟨x.1.trans y.1, x.2.trans y.2⟩
    · rw [z.1, sq_G_0 he hfe]; rfl
    · rw [z.2, sq_D_0 he hfe]; rfl
theorem xq_growTo {post : SX → Prop} {e f o : Nat} {wa le : Nat → Int32} (H : sq_W n st w tn ti ki re) (he : e < 10) (hfe : f < e) (ho : o ≠ e) (hA : xq_A (sq_mt ty va sT bo ki) (sq_R re) st f o e wa le) (h0 : ∀ j, j < 4 → wa (e * 4 + j) = 0 ∧ le (e * 4 + j) = 0)
    (h : ∀ wa2 le2 : Nat → Int32, (∀ i, i < e * 4 ∨ e * 4 + 4 ≤ i → wa2 i = wa i ∧ le2 i = le i) → (∀ k, k < st → wa2 (e * 4 + k) = nI (sq_G (sq_mt ty va sT bo ki) (sq_R re) f o e k e) ∧ le2 (e * 4 + k) = nI (sq_D (sq_mt ty va sT bo ki) (sq_R re) f o e k e)) → post (nI n, nI st, nI w, ty, va, ti, sT, bo, ki, re, wa2, le2)) : wpX_growTo post (nI n, nI st, nI w, ty, va, ti, sT, bo, ki, re, wa, le) (nI e) (nI f) :=
  ⟨st + 1, xq_2 H he hfe ho hA h st 0 wa le (by omega) (fun _ _ => ⟨rfl, rfl⟩) (fun j hj => absurd hj (Nat.not_lt_zero j)) (fun j _ hj => h0 j hj)⟩
