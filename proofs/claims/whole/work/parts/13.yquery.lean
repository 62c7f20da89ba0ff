/-! the reference: the queries, loops over all sets -/
theorem sq_Zpos' {n t : Nat} (hn : n ≤ 10) (ht : t < 2 ^ n) (h0 : t ≠ 0) : 0 < sq_Z t := by
  rcases sq_cases ht with z | ⟨e, s, he, hs, q⟩
  · exact absurd z h0
  · rw [q]; exact sq_Zpos (by omega) hs
theorem sq_sm1 {g : Nat → Nat} (h : g 0 = 0) : sq_sm g 1 = 0 := (sq_fo_1 sq_oa g).trans h
variable {n st w : Nat} {tn : Nat → Nat} {ty va ti sT bo ki re : Nat → Int32}
theorem yq_findsL {post : Int32 → SY → Prop} (H : sq_W n st w tn ti ki re) (h : ∀ wy be : Nat → Int32, post (nI (sq_sm (sq_F (sq_mt ty va sT bo ki) (sq_R re) tn w st) (2 ^ n))) (nI n, nI st, nI w, ty, va, ti, sT, bo, ki, re, wy, be)) :
    ∀ (d i : Nat) (wy be : Nat → Int32), i + d = 2 ^ n → 0 < i → wY_finds_4 post (d + 1) (nI (sq_sm (sq_F (sq_mt ty va sT bo ki) (sq_R re) tn w st) i)) (nI i) (nI n) (nI st) (nI w) ty va ti sT bo ki re wy be := by
  have hn : n ≤ 10 := H.1
  have hp := sq_p1024 hn
  intro d
  induction d with
  | zero =>
    intro i wy be hi _
    have z : i = 2 ^ n := by omega
    subst z
    rw [wY_finds_4]
    dsimp only
    rw [sq_shl hn]
    exact br_t (nI_le (Nat.le_refl _) (by omega)) (h wy be)
  | succ d ih =>
    intro i wy be hi h0
    rw [wY_finds_4]
    dsimp only
    rw [sq_shl hn]
    refine br_f (nI_ge (by omega) (by omega)) ?_
    have hs : i < 2 ^ n := by omega
    have hz : i ≠ 0 := by omega
    have h1024 : i < 1024 := by omega
    have nx : ∀ (y : Nat) (wy' be' : Nat → Int32), y = (sq_F (sq_mt ty va sT bo ki) (sq_R re) tn w st) i → ∀ x : Int32, x = nI i + 1 → wY_finds_4 post (d + 1) (nI (sq_sm (sq_F (sq_mt ty va sT bo ki) (sq_R re) tn w st) i) + nI y) x (nI n) (nI st) (nI w) ty va ti sT bo ki re wy' be' := by
      intro y wy' be' ey x ex
      rw [ex, nI_1 i, nI_add, ey]
      exact ih (i + 1) wy' be' (by omega) (by omega)
    have sk : (sq_F (sq_mt ty va sT bo ki) (sq_R re) tn w st) i = 0 → ∀ x : Int32, x = nI i + 1 → wY_finds_4 post (d + 1) (nI (sq_sm (sq_F (sq_mt ty va sT bo ki) (sq_R re) tn w st) i)) x (nI n) (nI st) (nI w) ty va ti sT bo ki re wy be := by
      intro ey x ex
      have a := nx 0 wy be ey.symm x ex
      rw [nI_add, Nat.add_zero] at a
      exact a
    refine yq_finds1 H hs hz (fun wy' be' => ?_)
    try dsimp only
    exact nm_e (nx _ wy' be' rfl)
theorem yq_findsS {post : Int32 → SY → Prop} {wy be : Nat → Int32} (H : sq_W n st w tn ti ki re) (h : ∀ wy be : Nat → Int32, post (nI (sq_sm (sq_F (sq_mt ty va sT bo ki) (sq_R re) tn w st) (2 ^ n))) (nI n, nI st, nI w, ty, va, ti, sT, bo, ki, re, wy, be)) : ∃ m, wY_finds_4 post m 0 1 (nI n) (nI st) (nI w) ty va ti sT bo ki re wy be := by
  have hp := Nat.two_pow_pos n
  have a := yq_findsL H h (2 ^ n - 1) 1 wy be (by omega) (by omega)
  rw [sq_sm1 (sq_F0)] at a
  exact ⟨_, a⟩
theorem yq_endL {post : Int32 → SY → Prop} {e : Nat} (he : e < 10) (H : sq_W n st w tn ti ki re) (h : ∀ wy be : Nat → Int32, post (nI (sq_sm (fun t => if sq_L t - 1 = e then sq_F (sq_mt ty va sT bo ki) (sq_R re) tn w st t else 0) (2 ^ n))) (nI n, nI st, nI w, ty, va, ti, sT, bo, ki, re, wy, be)) :
    ∀ (d i : Nat) (wy be : Nat → Int32), i + d = 2 ^ n → 0 < i → wY_endingAt_15 post (nI e) (d + 1) (nI (sq_sm (fun t => if sq_L t - 1 = e then sq_F (sq_mt ty va sT bo ki) (sq_R re) tn w st t else 0) i)) (nI i) (nI n) (nI st) (nI w) ty va ti sT bo ki re wy be := by
  have hn : n ≤ 10 := H.1
  have hp := sq_p1024 hn
  intro d
  induction d with
  | zero =>
    intro i wy be hi _
    have z : i = 2 ^ n := by omega
    subst z
    rw [wY_endingAt_15]
    dsimp only
    rw [sq_shl hn]
    exact br_t (nI_le (Nat.le_refl _) (by omega)) (h wy be)
  | succ d ih =>
    intro i wy be hi h0
    rw [wY_endingAt_15]
    dsimp only
    rw [sq_shl hn]
    refine br_f (nI_ge (by omega) (by omega)) ?_
    have hs : i < 2 ^ n := by omega
    have hz : i ≠ 0 := by omega
    have h1024 : i < 1024 := by omega
    have nx : ∀ (y : Nat) (wy' be' : Nat → Int32), y = (fun t => if sq_L t - 1 = e then sq_F (sq_mt ty va sT bo ki) (sq_R re) tn w st t else 0) i → ∀ x : Int32, x = nI i + 1 → wY_endingAt_15 post (nI e) (d + 1) (nI (sq_sm (fun t => if sq_L t - 1 = e then sq_F (sq_mt ty va sT bo ki) (sq_R re) tn w st t else 0) i) + nI y) x (nI n) (nI st) (nI w) ty va ti sT bo ki re wy' be' := by
      intro y wy' be' ey x ex
      rw [ex, nI_1 i, nI_add, ey]
      exact ih (i + 1) wy' be' (by omega) (by omega)
    have sk : (fun t => if sq_L t - 1 = e then sq_F (sq_mt ty va sT bo ki) (sq_R re) tn w st t else 0) i = 0 → ∀ x : Int32, x = nI i + 1 → wY_endingAt_15 post (nI e) (d + 1) (nI (sq_sm (fun t => if sq_L t - 1 = e then sq_F (sq_mt ty va sT bo ki) (sq_R re) tn w st t else 0) i)) x (nI n) (nI st) (nI w) ty va ti sT bo ki re wy be := by
      intro ey x ex
      have a := nx 0 wy be ey.symm x ex
      rw [nI_add, Nat.add_zero] at a
      exact a
    have hL := sq_Lle hn hs
    refine yq_last h1024 (br_c (fun q => ?_) (fun q => ?_))
    · have c : sq_L i - 1 = e := (nI_eq (by omega) (by omega)).mp q
      refine yq_finds1 H hs hz (fun wy' be' => ?_)
      try dsimp only
      exact nm_e (nx _ wy' be' (if_pos c).symm)
    · have c : ¬ sq_L i - 1 = e := fun z => q (by rw [z])
      exact sk (if_neg c)
theorem yq_endS {post : Int32 → SY → Prop} {e : Nat} (he : e < 10) {wy be : Nat → Int32} (H : sq_W n st w tn ti ki re) (h : ∀ wy be : Nat → Int32, post (nI (sq_sm (fun t => if sq_L t - 1 = e then sq_F (sq_mt ty va sT bo ki) (sq_R re) tn w st t else 0) (2 ^ n))) (nI n, nI st, nI w, ty, va, ti, sT, bo, ki, re, wy, be)) : ∃ m, wY_endingAt_15 post (nI e) m 0 1 (nI n) (nI st) (nI w) ty va ti sT bo ki re wy be := by
  have hp := Nat.two_pow_pos n
  have a := yq_endL he H h (2 ^ n - 1) 1 wy be (by omega) (by omega)
  rw [sq_sm1 (by rw [sq_F0]; split <;> rfl)] at a
  exact ⟨_, a⟩
theorem yq_begL {post : Int32 → SY → Prop} {e : Nat} (he : e < 10) (H : sq_W n st w tn ti ki re) (h : ∀ wy be : Nat → Int32, post (nI (sq_sm (fun t => if sq_I t = e then sq_F (sq_mt ty va sT bo ki) (sq_R re) tn w st t else 0) (2 ^ n))) (nI n, nI st, nI w, ty, va, ti, sT, bo, ki, re, wy, be)) :
    ∀ (d i : Nat) (wy be : Nat → Int32), i + d = 2 ^ n → 0 < i → wY_beginningAt_15 post (nI e) (d + 1) (nI (sq_sm (fun t => if sq_I t = e then sq_F (sq_mt ty va sT bo ki) (sq_R re) tn w st t else 0) i)) (nI i) (nI n) (nI st) (nI w) ty va ti sT bo ki re wy be := by
  have hn : n ≤ 10 := H.1
  have hp := sq_p1024 hn
  intro d
  induction d with
  | zero =>
    intro i wy be hi _
    have z : i = 2 ^ n := by omega
    subst z
    rw [wY_beginningAt_15]
    dsimp only
    rw [sq_shl hn]
    exact br_t (nI_le (Nat.le_refl _) (by omega)) (h wy be)
  | succ d ih =>
    intro i wy be hi h0
    rw [wY_beginningAt_15]
    dsimp only
    rw [sq_shl hn]
    refine br_f (nI_ge (by omega) (by omega)) ?_
    have hs : i < 2 ^ n := by omega
    have hz : i ≠ 0 := by omega
    have h1024 : i < 1024 := by omega
    have nx : ∀ (y : Nat) (wy' be' : Nat → Int32), y = (fun t => if sq_I t = e then sq_F (sq_mt ty va sT bo ki) (sq_R re) tn w st t else 0) i → ∀ x : Int32, x = nI i + 1 → wY_beginningAt_15 post (nI e) (d + 1) (nI (sq_sm (fun t => if sq_I t = e then sq_F (sq_mt ty va sT bo ki) (sq_R re) tn w st t else 0) i) + nI y) x (nI n) (nI st) (nI w) ty va ti sT bo ki re wy' be' := by
      intro y wy' be' ey x ex
      rw [ex, nI_1 i, nI_add, ey]
      exact ih (i + 1) wy' be' (by omega) (by omega)
    have sk : (fun t => if sq_I t = e then sq_F (sq_mt ty va sT bo ki) (sq_R re) tn w st t else 0) i = 0 → ∀ x : Int32, x = nI i + 1 → wY_beginningAt_15 post (nI e) (d + 1) (nI (sq_sm (fun t => if sq_I t = e then sq_F (sq_mt ty va sT bo ki) (sq_R re) tn w st t else 0) i)) x (nI n) (nI st) (nI w) ty va ti sT bo ki re wy be := by
      intro ey x ex
      have a := nx 0 wy be ey.symm x ex
      rw [nI_add, Nat.add_zero] at a
      exact a
    have hL := sq_Ilt' hn hs hz
    refine yq_first h1024 (br_c (fun q => ?_) (fun q => ?_))
    · have c : sq_I i = e := (nI_eq (by omega) (by omega)).mp q
      refine yq_finds1 H hs hz (fun wy' be' => ?_)
      try dsimp only
      exact nm_e (nx _ wy' be' (if_pos c).symm)
    · have c : ¬ sq_I i = e := fun z => q (by rw [z])
      exact sk (if_neg c)
theorem yq_begS {post : Int32 → SY → Prop} {e : Nat} (he : e < 10) {wy be : Nat → Int32} (H : sq_W n st w tn ti ki re) (h : ∀ wy be : Nat → Int32, post (nI (sq_sm (fun t => if sq_I t = e then sq_F (sq_mt ty va sT bo ki) (sq_R re) tn w st t else 0) (2 ^ n))) (nI n, nI st, nI w, ty, va, ti, sT, bo, ki, re, wy, be)) : ∃ m, wY_beginningAt_15 post (nI e) m 0 1 (nI n) (nI st) (nI w) ty va ti sT bo ki re wy be := by
  have hp := Nat.two_pow_pos n
  have a := yq_begL he H h (2 ^ n - 1) 1 wy be (by omega) (by omega)
  rw [sq_sm1 (by rw [sq_F0]; split <;> rfl)] at a
  exact ⟨_, a⟩
theorem yq_usL {post : Int32 → SY → Prop} {e : Nat} (he : e < 10) (H : sq_W n st w tn ti ki re) (h : ∀ wy be : Nat → Int32, post (nI (sq_sm (fun t => if t.testBit e = true then sq_F (sq_mt ty va sT bo ki) (sq_R re) tn w st t else 0) (2 ^ n))) (nI n, nI st, nI w, ty, va, ti, sT, bo, ki, re, wy, be)) :
    ∀ (d i : Nat) (wy be : Nat → Int32), i + d = 2 ^ n → 0 < i → wY_using_15 post (nI e) (d + 1) (nI (sq_sm (fun t => if t.testBit e = true then sq_F (sq_mt ty va sT bo ki) (sq_R re) tn w st t else 0) i)) (nI i) (nI n) (nI st) (nI w) ty va ti sT bo ki re wy be := by
  have hn : n ≤ 10 := H.1
  have hp := sq_p1024 hn
  intro d
  induction d with
  | zero =>
    intro i wy be hi _
    have z : i = 2 ^ n := by omega
    subst z
    rw [wY_using_15]
    dsimp only
    rw [sq_shl hn]
    exact br_t (nI_le (Nat.le_refl _) (by omega)) (h wy be)
  | succ d ih =>
    intro i wy be hi h0
    rw [wY_using_15]
    dsimp only
    rw [sq_shl hn]
    refine br_f (nI_ge (by omega) (by omega)) ?_
    have hs : i < 2 ^ n := by omega
    have hz : i ≠ 0 := by omega
    have h1024 : i < 1024 := by omega
    have nx : ∀ (y : Nat) (wy' be' : Nat → Int32), y = (fun t => if t.testBit e = true then sq_F (sq_mt ty va sT bo ki) (sq_R re) tn w st t else 0) i → ∀ x : Int32, x = nI i + 1 → wY_using_15 post (nI e) (d + 1) (nI (sq_sm (fun t => if t.testBit e = true then sq_F (sq_mt ty va sT bo ki) (sq_R re) tn w st t else 0) i) + nI y) x (nI n) (nI st) (nI w) ty va ti sT bo ki re wy' be' := by
      intro y wy' be' ey x ex
      rw [ex, nI_1 i, nI_add, ey]
      exact ih (i + 1) wy' be' (by omega) (by omega)
    have sk : (fun t => if t.testBit e = true then sq_F (sq_mt ty va sT bo ki) (sq_R re) tn w st t else 0) i = 0 → ∀ x : Int32, x = nI i + 1 → wY_using_15 post (nI e) (d + 1) (nI (sq_sm (fun t => if t.testBit e = true then sq_F (sq_mt ty va sT bo ki) (sq_R re) tn w st t else 0) i)) x (nI n) (nI st) (nI w) ty va ti sT bo ki re wy be := by
      intro ey x ex
      have a := nx 0 wy be ey.symm x ex
      rw [nI_add, Nat.add_zero] at a
      exact a
    rw [sq_bit1 h1024 he]
    cases b : i.testBit e
    · exact br_f (by decide) (sk (if_neg (by rw [b]; decide)))
    · refine br_t rfl (yq_finds1 H hs hz (fun wy' be' => ?_))
      try dsimp only
      exact nm_e (nx _ wy' be' (if_pos b).symm)
theorem yq_usS {post : Int32 → SY → Prop} {e : Nat} (he : e < 10) {wy be : Nat → Int32} (H : sq_W n st w tn ti ki re) (h : ∀ wy be : Nat → Int32, post (nI (sq_sm (fun t => if t.testBit e = true then sq_F (sq_mt ty va sT bo ki) (sq_R re) tn w st t else 0) (2 ^ n))) (nI n, nI st, nI w, ty, va, ti, sT, bo, ki, re, wy, be)) : ∃ m, wY_using_15 post (nI e) m 0 1 (nI n) (nI st) (nI w) ty va ti sT bo ki re wy be := by
  have hp := Nat.two_pow_pos n
  have a := yq_usL he H h (2 ^ n - 1) 1 wy be (by omega) (by omega)
  rw [sq_sm1 (by rw [sq_F0]; split <;> rfl)] at a
  exact ⟨_, a⟩
theorem yq_woL {post : Int32 → SY → Prop} {e : Nat} (he : e < 10) (H : sq_W n st w tn ti ki re) (h : ∀ wy be : Nat → Int32, post (nI (sq_sm (sq_g e (sq_F (sq_mt ty va sT bo ki) (sq_R re) tn w st)) (2 ^ n))) (nI n, nI st, nI w, ty, va, ti, sT, bo, ki, re, wy, be)) :
    ∀ (d i : Nat) (wy be : Nat → Int32), i + d = 2 ^ n → 0 < i → wY_without_15 post (nI e) (d + 1) (nI (sq_sm (sq_g e (sq_F (sq_mt ty va sT bo ki) (sq_R re) tn w st)) i)) (nI i) (nI n) (nI st) (nI w) ty va ti sT bo ki re wy be := by
  have hn : n ≤ 10 := H.1
  have hp := sq_p1024 hn
  intro d
  induction d with
  | zero =>
    intro i wy be hi _
    have z : i = 2 ^ n := by omega
    subst z
    rw [wY_without_15]
    dsimp only
    rw [sq_shl hn]
    exact br_t (nI_le (Nat.le_refl _) (by omega)) (h wy be)
  | succ d ih =>
    intro i wy be hi h0
    rw [wY_without_15]
    dsimp only
    rw [sq_shl hn]
    refine br_f (nI_ge (by omega) (by omega)) ?_
    have hs : i < 2 ^ n := by omega
    have hz : i ≠ 0 := by omega
    have h1024 : i < 1024 := by omega
    have nx : ∀ (y : Nat) (wy' be' : Nat → Int32), y = (sq_g e (sq_F (sq_mt ty va sT bo ki) (sq_R re) tn w st)) i → ∀ x : Int32, x = nI i + 1 → wY_without_15 post (nI e) (d + 1) (nI (sq_sm (sq_g e (sq_F (sq_mt ty va sT bo ki) (sq_R re) tn w st)) i) + nI y) x (nI n) (nI st) (nI w) ty va ti sT bo ki re wy' be' := by
      intro y wy' be' ey x ex
      rw [ex, nI_1 i, nI_add, ey]
      exact ih (i + 1) wy' be' (by omega) (by omega)
    have sk : (sq_g e (sq_F (sq_mt ty va sT bo ki) (sq_R re) tn w st)) i = 0 → ∀ x : Int32, x = nI i + 1 → wY_without_15 post (nI e) (d + 1) (nI (sq_sm (sq_g e (sq_F (sq_mt ty va sT bo ki) (sq_R re) tn w st)) i)) x (nI n) (nI st) (nI w) ty va ti sT bo ki re wy be := by
      intro ey x ex
      have a := nx 0 wy be ey.symm x ex
      rw [nI_add, Nat.add_zero] at a
      exact a
    rw [sq_bit1 h1024 he]
    cases b : i.testBit e
    · refine br_t rfl (yq_finds1 H hs hz (fun wy' be' => ?_))
      try dsimp only
      exact nm_e (nx _ wy' be' (if_pos b).symm)
    · exact br_f (by decide) (sk (if_neg (by rw [b]; decide)))
theorem yq_woS {post : Int32 → SY → Prop} {e : Nat} (he : e < 10) {wy be : Nat → Int32} (H : sq_W n st w tn ti ki re) (h : ∀ wy be : Nat → Int32, post (nI (sq_sm (sq_g e (sq_F (sq_mt ty va sT bo ki) (sq_R re) tn w st)) (2 ^ n))) (nI n, nI st, nI w, ty, va, ti, sT, bo, ki, re, wy, be)) : ∃ m, wY_without_15 post (nI e) m 0 1 (nI n) (nI st) (nI w) ty va ti sT bo ki re wy be := by
  have hp := Nat.two_pow_pos n
  have a := yq_woL he H h (2 ^ n - 1) 1 wy be (by omega) (by omega)
  rw [sq_sm1 (sq_g0)] at a
  exact ⟨_, a⟩
theorem yq_lvL {post : Int32 → SY → Prop} (H : sq_W n st w tn ti ki re) (h : ∀ wy be : Nat → Int32, post (nI (sq_sm (fun t => sq_vn va (sq_L t - 1) * sq_F (sq_mt ty va sT bo ki) (sq_R re) tn w st t) (2 ^ n))) (nI n, nI st, nI w, ty, va, ti, sT, bo, ki, re, wy, be)) :
    ∀ (d i : Nat) (wy be : Nat → Int32), i + d = 2 ^ n → 0 < i → wY_lastValues_4 post (d + 1) (nI (sq_sm (fun t => sq_vn va (sq_L t - 1) * sq_F (sq_mt ty va sT bo ki) (sq_R re) tn w st t) i)) (nI i) (nI n) (nI st) (nI w) ty va ti sT bo ki re wy be := by
  have hn : n ≤ 10 := H.1
  have hp := sq_p1024 hn
  intro d
  induction d with
  | zero =>
    intro i wy be hi _
    have z : i = 2 ^ n := by omega
    subst z
    rw [wY_lastValues_4]
    dsimp only
    rw [sq_shl hn]
    exact br_t (nI_le (Nat.le_refl _) (by omega)) (h wy be)
  | succ d ih =>
    intro i wy be hi h0
    rw [wY_lastValues_4]
    dsimp only
    rw [sq_shl hn]
    refine br_f (nI_ge (by omega) (by omega)) ?_
    have hs : i < 2 ^ n := by omega
    have hz : i ≠ 0 := by omega
    have h1024 : i < 1024 := by omega
    have nx : ∀ (y : Nat) (wy' be' : Nat → Int32), y = (fun t => sq_vn va (sq_L t - 1) * sq_F (sq_mt ty va sT bo ki) (sq_R re) tn w st t) i → ∀ x : Int32, x = nI i + 1 → wY_lastValues_4 post (d + 1) (nI (sq_sm (fun t => sq_vn va (sq_L t - 1) * sq_F (sq_mt ty va sT bo ki) (sq_R re) tn w st t) i) + nI y) x (nI n) (nI st) (nI w) ty va ti sT bo ki re wy' be' := by
      intro y wy' be' ey x ex
      rw [ex, nI_1 i, nI_add, ey]
      exact ih (i + 1) wy' be' (by omega) (by omega)
    have sk : (fun t => sq_vn va (sq_L t - 1) * sq_F (sq_mt ty va sT bo ki) (sq_R re) tn w st t) i = 0 → ∀ x : Int32, x = nI i + 1 → wY_lastValues_4 post (d + 1) (nI (sq_sm (fun t => sq_vn va (sq_L t - 1) * sq_F (sq_mt ty va sT bo ki) (sq_R re) tn w st t) i)) x (nI n) (nI st) (nI w) ty va ti sT bo ki re wy be := by
      intro ey x ex
      have a := nx 0 wy be ey.symm x ex
      rw [nI_add, Nat.add_zero] at a
      exact a
    have hL := sq_Lle hn hs
    have hL2 := sq_Lpos hn hs hz
    refine yq_last h1024 ⟨vp_in_nI (by omega) (by omega), yq_finds1 H hs hz (fun wy' be' => ?_)⟩
    try dsimp only
    rw [nI_clamp (by omega), sq_vnI va (sq_L i - 1), pk_mul]
    exact nm_e (nx _ wy' be' rfl)
theorem yq_lvS {post : Int32 → SY → Prop} {wy be : Nat → Int32} (H : sq_W n st w tn ti ki re) (h : ∀ wy be : Nat → Int32, post (nI (sq_sm (fun t => sq_vn va (sq_L t - 1) * sq_F (sq_mt ty va sT bo ki) (sq_R re) tn w st t) (2 ^ n))) (nI n, nI st, nI w, ty, va, ti, sT, bo, ki, re, wy, be)) : ∃ m, wY_lastValues_4 post m 0 1 (nI n) (nI st) (nI w) ty va ti sT bo ki re wy be := by
  have hp := Nat.two_pow_pos n
  have a := yq_lvL H h (2 ^ n - 1) 1 wy be (by omega) (by omega)
  rw [sq_sm1 (by rw [sq_F0]; rfl)] at a
  exact ⟨_, a⟩
theorem yq_longL {post : Int32 → SY → Prop} (H : sq_W n st w tn ti ki re) (h : ∀ wy be : Nat → Int32, post (sq_en (sq_mx (sq_gL (sq_mt ty va sT bo ki) (sq_R re) tn w st) (2 ^ n))) (nI n, nI st, nI w, ty, va, ti, sT, bo, ki, re, wy, be)) :
    ∀ (d i a : Nat) (wy be : Nat → Int32), i + d = 2 ^ n → 0 < i → a = sq_mx (sq_gL (sq_mt ty va sT bo ki) (sq_R re) tn w st) i → a ≤ 10 → wY_longest_5 post (d + 1) (sq_en a) (nI i) (nI n) (nI st) (nI w) ty va ti sT bo ki re wy be := by
  have hn : n ≤ 10 := H.1
  have hp := sq_p1024 hn
  intro d
  induction d with
  | zero =>
    intro i a wy be hi _ ha _
    have z : i = 2 ^ n := by omega
    subst z
    rw [wY_longest_5]
    dsimp only
    rw [sq_shl hn, ha]
    exact br_t (nI_le (Nat.le_refl _) (by omega)) (h wy be)
  | succ d ih =>
    intro i a wy be hi h0 ha hb
    rw [wY_longest_5]
    dsimp only
    rw [sq_shl hn]
    refine br_f (nI_ge (by omega) (by omega)) ?_
    have hs : i < 2 ^ n := by omega
    have hz : i ≠ 0 := by omega
    have h1024 : i < 1024 := by omega
    have hZ := sq_Zpos' hn hs hz
    have hZ2 := sq_Zle hn i hs
    have hL := sq_Lle hn hs
    have hF := sq_F_le (M := (sq_mt ty va sT bo ki)) (R := (sq_R re)) (tn := tn) (w := w) (st := st) (s := i) (by omega)
    have en := sq_en_lt (a := a) hZ (by omega) (by omega)
    have ms : sq_mx (sq_gL (sq_mt ty va sT bo ki) (sq_R re) tn w st) (i + 1) = max a (if 0 < sq_F (sq_mt ty va sT bo ki) (sq_R re) tn w st i then sq_Z i else 0) := by
      rw [sq_mx_s, ← ha]; rfl
    refine yq_size h1024 (br_c (fun q => nm_r (nI_1 i) (ih (i + 1) a wy be (by omega) (by omega) ?_ hb)) (fun q => yq_finds1 H hs hz (fun wy' be' => ?_)))
    · have k : ¬ a < sq_Z i := fun z => absurd (en.mpr z) (Int32.not_lt.mpr q)
      rw [ms]
      split
      · omega
      · omega
    · have k : a < sq_Z i := en.mp (Int32.not_le.mp q)
      try dsimp only
      refine br_c (fun q2 => nm_r (nI_1 i) (ih (i + 1) a wy' be' (by omega) (by omega) ?_ hb)) (fun q2 => nm_r (nI_1 i) ?_)
      · have y := (sq_le0 (by omega)).mp q2
        rw [ms, if_neg (by omega)]
        omega
      · have y : 0 < sq_F (sq_mt ty va sT bo ki) (sq_R re) tn w st i := Nat.pos_of_ne_zero (fun z => q2 ((sq_le0 (by omega)).mpr z))
        have e : nI (sq_Z i) = sq_en (sq_Z i) := by
          unfold sq_en
          rw [if_neg (by omega)]
        rw [e]
        refine ih (i + 1) (sq_Z i) wy' be' (by omega) (by omega) ?_ (by omega)
        rw [ms, if_pos y]
        omega
theorem yq_longS {post : Int32 → SY → Prop} {wy be : Nat → Int32} (H : sq_W n st w tn ti ki re) (h : ∀ wy be : Nat → Int32, post (sq_en (sq_mx (sq_gL (sq_mt ty va sT bo ki) (sq_R re) tn w st) (2 ^ n))) (nI n, nI st, nI w, ty, va, ti, sT, bo, ki, re, wy, be)) : ∃ m, wY_longest_5 post m (-4) 1 (nI n) (nI st) (nI w) ty va ti sT bo ki re wy be := by
  have hp := Nat.two_pow_pos n
  have a := yq_longL H h (2 ^ n - 1) 1 0 wy be (by omega) (by omega) ((sq_fo_1 sq_om _).trans sq_gL0).symm (by omega)
  exact ⟨_, a⟩
theorem yq_tightL {post : Int32 → SY → Prop} (H : sq_W n st w tn ti ki re) (h : ∀ wy be : Nat → Int32, post (sq_et (sq_fo sq_tm (sq_gT (sq_mt ty va sT bo ki) (sq_R re) tn w st) (2 ^ n))) (nI n, nI st, nI w, ty, va, ti, sT, bo, ki, re, wy, be)) :
    ∀ (d i a : Nat) (wy be : Nat → Int32), i + d = 2 ^ n → 0 < i → a = sq_fo sq_tm (sq_gT (sq_mt ty va sT bo ki) (sq_R re) tn w st) i → a ≤ 51 → wY_tightest_5 post (d + 1) (sq_et a) (nI i) (nI n) (nI st) (nI w) ty va ti sT bo ki re wy be := by
  have hn : n ≤ 10 := H.1
  have hp := sq_p1024 hn
  have tb := H.2.2.2.2.2.1
  intro d
  induction d with
  | zero =>
    intro i a wy be hi _ ha _
    have z : i = 2 ^ n := by omega
    subst z
    rw [wY_tightest_5]
    dsimp only
    rw [sq_shl hn, ha]
    exact br_t (nI_le (Nat.le_refl _) (by omega)) (h wy be)
  | succ d ih =>
    intro i a wy be hi h0 ha hb
    rw [wY_tightest_5]
    dsimp only
    rw [sq_shl hn]
    refine br_f (nI_ge (by omega) (by omega)) ?_
    have hs : i < 2 ^ n := by omega
    have hz : i ≠ 0 := by omega
    have h1024 : i < 1024 := by omega
    have hI := sq_Ilt hn i hs hz
    have hL := sq_Lle hn hs
    have hF := sq_F_le (M := (sq_mt ty va sT bo ki)) (R := (sq_R re)) (tn := tn) (w := w) (st := st) (s := i) (by omega)
    have tl := tb (sq_L i - 1) (by omega)
    have nr := sq_near H (show sq_I i ≤ sq_L i - 1 by omega) (show sq_L i - 1 < n by omega)
    have ms : sq_fo sq_tm (sq_gT (sq_mt ty va sT bo ki) (sq_R re) tn w st) (i + 1) = sq_tm a (if 0 < sq_F (sq_mt ty va sT bo ki) (sq_R re) tn w st i then tn (sq_L i - 1) - tn (sq_I i) + 1 else 0) := by
      rw [sq_fo_s, ← ha]; rfl
    refine yq_first h1024 (yq_last h1024 ⟨vp_in_nI (by omega) (by omega), vp_in_nI (by omega) (by omega), nm_r (e' := nI (tn (sq_L i - 1) - tn (sq_I i))) ?_ ?_⟩)
    · rw [nI_clamp (by omega), nI_clamp (by omega)]; exact nr.1
    · generalize hc : tn (sq_L i - 1) - tn (sq_I i) = c at ms nr
      have cb : c ≤ 50 := by omega
      have et : sq_et (c + 1) = nI c := by
        unfold sq_et
        rw [if_neg (by omega)]; rfl
      have t56 : (a = 0 ∨ c + 1 < a) → wY_tightest_56 post (wY_tightest_5 post (d + 1)) (sq_et a) (nI i) (nI c) (nI n) (nI st) (nI w) ty va ti sT bo ki re wy be := by
        intro hac
        unfold wY_tightest_56
        refine yq_finds1 H hs hz (fun wy' be' => ?_)
        try dsimp only
        refine br_c (fun q2 => nm_r (nI_1 i) (ih (i + 1) a wy' be' (by omega) (by omega) ?_ hb)) (fun q2 => nm_r (nI_1 i) ?_)
        · have y := (sq_le0 (by omega)).mp q2
          rw [ms, if_neg (by omega), sq_ot.2.2]
        · have y : 0 < sq_F (sq_mt ty va sT bo ki) (sq_R re) tn w st i := Nat.pos_of_ne_zero (fun z => q2 ((sq_le0 (by omega)).mpr z))
          rw [← et]
          refine ih (i + 1) (c + 1) wy' be' (by omega) (by omega) ?_ (by omega)
          rw [ms, if_pos y]
          unfold sq_tm
          rcases hac with hac | hac
          · rw [if_pos hac]
          · rw [if_neg (by omega), if_neg (by omega), if_neg (by omega)]
      refine br_c (fun q => t56 (Or.inl ((sq_et_no (by omega)).mp q))) (fun q => ?_)
      have a1 : a ≠ 0 := fun z => q ((sq_et_no (by omega)).mpr z)
      have ea : sq_et a = nI (a - 1) := if_neg a1
      refine br_c (fun q2 => nm_r (nI_1 i) (ih (i + 1) a wy be (by omega) (by omega) ?_ hb)) (fun q2 => t56 (Or.inr ?_))
      · rw [ea] at q2
        have k := (nI_leI (by omega) (by omega)).mp q2
        rw [ms]
        by_cases y : 0 < sq_F (sq_mt ty va sT bo ki) (sq_R re) tn w st i
        · rw [if_pos y]
          unfold sq_tm
          rw [if_neg a1, if_neg (by omega), if_pos (by omega)]
        · rw [if_neg y, sq_ot.2.2]
      · rw [ea] at q2
        have k : ¬ a - 1 ≤ c := fun z => q2 ((nI_leI (by omega) (by omega)).mpr z)
        omega
theorem yq_tightS {post : Int32 → SY → Prop} {wy be : Nat → Int32} (H : sq_W n st w tn ti ki re) (h : ∀ wy be : Nat → Int32, post (sq_et (sq_fo sq_tm (sq_gT (sq_mt ty va sT bo ki) (sq_R re) tn w st) (2 ^ n))) (nI n, nI st, nI w, ty, va, ti, sT, bo, ki, re, wy, be)) : ∃ m, wY_tightest_5 post m (-4) 1 (nI n) (nI st) (nI w) ty va ti sT bo ki re wy be := by
  have hp := Nat.two_pow_pos n
  have a := yq_tightL H h (2 ^ n - 1) 1 0 wy be (by omega) (by omega) ((sq_fo_1 sq_ot _).trans sq_gT0).symm (by omega)
  exact ⟨_, a⟩
