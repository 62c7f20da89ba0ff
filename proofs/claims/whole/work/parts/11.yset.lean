/-! the reference: first, last, size, a step's test, take, findsOf -/
variable {n st w : Nat} {tn : Nat → Nat} {ty va ti sT bo ki re : Nat → Int32}
theorem yq_f6 {post : Int32 → Prop} {s : Nat} {wy be : Nat → Int32} (hs : s < 1024) (h : post (nI (sq_I s))) : ∀ r, r ≤ 10 → wY_firstOf_6 post (nI s) (nI n) (nI st) (nI w) ty va ti sT bo ki re wy be (r + 1) (nI (sq_fd s (10 - r))) (nI r + (-1)) := by
  intro r
  induction r with
  | zero =>
    intro _
    rw [wY_firstOf_6]
    have e : sq_fd s (10 - 0) = sq_I s := sq_fd10 s hs
    rw [e]
    exact br_t (by decide) h
  | succ r ih =>
    intro hr
    rw [wY_firstOf_6, pk_m1]
    have ih' := ih (by omega)
    have e : sq_fd s (10 - r) = if s.testBit r = true then r else sq_fd s (10 - (r + 1)) := by
      rw [show 10 - r = (10 - (r + 1)) + 1 from by omega]
      show (if s.testBit (9 - (10 - (r + 1))) = true then 9 - (10 - (r + 1)) else sq_fd s (10 - (r + 1))) = _
      rw [show 9 - (10 - (r + 1)) = r from by omega]
    refine br_f (nI_pos (by omega)) ?_
    rw [sq_bit1 hs (by omega)]
    rw [e] at ih'
    cases b : s.testBit r
    · rw [b] at ih'
      exact br_f (by decide) (nm_e ih')
    · rw [b] at ih'
      exact br_t rfl (nm_e ih')
theorem yq_first {post : Int32 → Prop} {s : Nat} {wy be : Nat → Int32} (hs : s < 1024) (h : post (nI (sq_I s))) : wpY_firstOf post (nI n, nI st, nI w, ty, va, ti, sT, bo, ki, re, wy, be) (nI s) := ⟨11, yq_f6 hs h 10 (by omega)⟩
theorem yq_l4 {post : Int32 → Prop} {s : Nat} {wy be : Nat → Int32} (hs : s < 1024) (h : post (nI (sq_L s - 1))) : ∀ d i, i + d = 10 → wY_lastOf_4 post (nI s) (nI n) (nI st) (nI w) ty va ti sT bo ki re wy be (d + 1) (nI (sq_ls s i - 1)) (nI i) := by
  intro d
  induction d with
  | zero =>
    intro i hi
    have z : i = 10 := by omega
    subst z
    rw [wY_lastOf_4]
    exact br_t (nI_le (a := 10) (Nat.le_refl 10) (by omega)) h
  | succ d ih =>
    intro i hi
    rw [wY_lastOf_4]
    have ih' := ih (i + 1) (by omega)
    refine br_f (nI_ge (b := 10) (by omega) (by omega)) ?_
    rw [sq_bit1 hs (by omega)]
    cases b : s.testBit i
    · rw [sq_ls_n b] at ih'
      exact br_f (by decide) (nm_r (nI_1 i) ih')
    · rw [sq_ls_y b] at ih'
      exact br_t rfl (nm_r (nI_1 i) ih')
theorem yq_last {post : Int32 → Prop} {s : Nat} {wy be : Nat → Int32} (hs : s < 1024) (h : post (nI (sq_L s - 1))) : wpY_lastOf post (nI n, nI st, nI w, ty, va, ti, sT, bo, ki, re, wy, be) (nI s) := ⟨11, yq_l4 hs h 10 0 (by omega)⟩
theorem yq_z4 {post : Int32 → Prop} {s : Nat} {wy be : Nat → Int32} (hs : s < 1024) (h : post (nI (sq_Z s))) : ∀ d i, i + d = 10 → wY_sizeOf_4 post (nI s) (nI n) (nI st) (nI w) ty va ti sT bo ki re wy be (d + 1) (nI (sq_sz s i)) (nI i) := by
  intro d
  induction d with
  | zero =>
    intro i hi
    have z : i = 10 := by omega
    subst z
    rw [wY_sizeOf_4]
    exact br_t (nI_le (a := 10) (Nat.le_refl 10) (by omega)) h
  | succ d ih =>
    intro i hi
    rw [wY_sizeOf_4]
    have ih' := ih (i + 1) (by omega)
    refine br_f (nI_ge (b := 10) (by omega) (by omega)) ?_
    rw [sq_bit1 hs (by omega)]
    refine nm_r (e' := nI (sq_sz s (i + 1))) ?_ (nm_r (nI_1 i) ih')
    cases b : s.testBit i
    · rw [sq_sz_n b]
      exact Int32.add_zero _
    · rw [sq_sz_y b]
      exact nI_1 _
theorem yq_size {post : Int32 → Prop} {s : Nat} {wy be : Nat → Int32} (hs : s < 1024) (h : post (nI (sq_Z s))) : wpY_sizeOf post (nI n, nI st, nI w, ty, va, ti, sT, bo, ki, re, wy, be) (nI s) := ⟨11, yq_z4 hs h 10 0 (by omega)⟩
/-- the event ahead of e: none (then e is the first), or b -/
def yq_bf (lo : Int32) (l f e b : Nat) : Prop := (l = 0 ∧ lo = -1 ∧ e = f) ∨ (l = b + 1 ∧ lo = nI b ∧ e ≠ f ∧ b < 10)
theorem yq_m27 {post : Int32 → Prop} {lo : Int32} {l e k b f : Nat} {wy be : Nat → Int32} (H : sq_W n st w tn ti ki re) (he : e < 10) (hk : k < 4) (hf : f < 10) (hl : yq_bf lo l f e b) (h : post (sq_bi (sq_kp va bo ki f e k b))) : wY_meets_27 post (nI e) (nI k) lo (nI f) (nI n) (nI st) (nI w) ty va ti sT bo ki re wy be := by
  have ek : (nI k).toNatClampNeg = k := nI_clamp (by omega)
  have ee : (nI e).toNatClampNeg = e := nI_clamp (by omega)
  have ef : (nI f).toNatClampNeg = f := nI_clamp (by omega)
  have vk : vp_in (nI k) 4 := vp_in_nI hk (by omega)
  have ve : vp_in (nI e) 10 := vp_in_nI he (by omega)
  have vf : vp_in (nI f) 10 := vp_in_nI hf (by omega)
  unfold wY_meets_27
  rw [ek, ee, ef]
  refine ⟨vk, ?_⟩
  rcases sq_ki (H := H) k with c | c | c | c | c
  · rw [c]
    exact br_f (by decide) ⟨vk, br_f (by decide) ⟨vk, br_f (by decide) ⟨vk, br_t rfl (sq_d1 h (sq_kp0 c))⟩⟩⟩
  · rw [sq_kp1 c] at h
    rw [c]
    refine br_t rfl ?_
    rcases hl with ⟨_, rfl, hef⟩ | ⟨_, rfl, hef, hb⟩
    · exact br_t (by decide) (sq_d1 h (by rw [decide_eq_true hef]; rfl))
    · have eb : (nI b).toNatClampNeg = b := nI_clamp (by omega)
      rw [eb]
      refine br_f (nI_pos (by omega)) ⟨ve, vp_in_nI hb (by omega), br_c (fun q => ?_) (fun q => ?_)⟩
      · exact sq_d0 h (by rw [decide_eq_false hef, decide_eq_false (fun z => absurd q (Int32.not_le.mpr z))]; rfl)
      · exact sq_d1 h (by rw [decide_eq_true (Int32.not_le.mp q)]; simp)
  · rw [sq_kp2 c] at h
    rw [c]
    refine br_f (by decide) ⟨vk, br_t rfl ?_⟩
    rcases hl with ⟨_, rfl, hef⟩ | ⟨_, rfl, hef, hb⟩
    · exact br_t (by decide) (sq_d1 h (by rw [decide_eq_true hef]; rfl))
    · have eb : (nI b).toNatClampNeg = b := nI_clamp (by omega)
      rw [eb]
      refine br_f (nI_pos (by omega)) ⟨ve, vp_in_nI hb (by omega), br_c (fun q => ?_) (fun q => ?_)⟩
      · exact sq_d0 h (by rw [decide_eq_false hef, decide_eq_false (fun z => absurd q (Int32.not_le.mpr z))]; rfl)
      · exact sq_d1 h (by rw [decide_eq_true (Int32.not_le.mp q)]; simp)
  · rw [sq_kp3 c] at h
    rw [c]
    refine br_f (by decide) ⟨vk, br_f (by decide) ⟨vk, br_t rfl ⟨ve, vk, br_c (fun q => ?_) (fun q => ?_)⟩⟩⟩
    · exact sq_d1 h (decide_eq_true q)
    · exact sq_d0 h (decide_eq_false q)
  · rw [sq_kp4 c] at h
    rw [c]
    refine br_f (by decide) ⟨vk, br_f (by decide) ⟨vk, br_f (by decide) ⟨vk, br_f (by decide) ⟨ve, vf, br_c (fun q => ?_) (fun q => ?_)⟩⟩⟩⟩
    · exact sq_d1 h (decide_eq_true q)
    · exact sq_d0 h (decide_eq_false q)
theorem yq_meets {post : Int32 → Prop} {lo : Int32} {l e k b f : Nat} {wy be : Nat → Int32} (H : sq_W n st w tn ti ki re) (he : e < 10) (hk : k < 4) (hf : f < 10) (hl : yq_bf lo l f e b) (h : post (sq_bi ((sq_mt ty va sT bo ki) f e k b))) : wpY_meets post (nI n, nI st, nI w, ty, va, ti, sT, bo, ki, re, wy, be) (nI e) (nI k) lo (nI f) := by
  have ek : (nI k).toNatClampNeg = k := nI_clamp (by omega)
  have ee : (nI e).toNatClampNeg = e := nI_clamp (by omega)
  have vk : vp_in (nI k) 4 := vp_in_nI hk (by omega)
  have ve : vp_in (nI e) 10 := vp_in_nI he (by omega)
  unfold wpY_meets
  try dsimp only
  rw [ek, ee]
  unfold sq_mt at h
  refine ⟨vk, br_c (fun q => ?_) (fun q => ⟨ve, vk, br_c (fun q2 => ?_) (fun q2 => ?_)⟩)⟩
  · rw [decide_eq_true q] at h
    exact yq_m27 H he hk hf hl h
  · rw [decide_eq_true q2, Bool.or_true] at h
    exact yq_m27 H he hk hf hl h
  · exact sq_d0 h (by rw [decide_eq_false q, decide_eq_false q2]; rfl)
theorem yq_110 {post : SY → Prop} {J35 : Int32 → (Nat → Int32) → (Nat → Int32) → (Nat → Int32) → (Nat → Int32) → (Nat → Int32) → (Nat → Int32) → (Nat → Int32) → (Nat → Int32) → (Nat → Int32) → Prop} {lo : Int32} {l e k b f z x : Nat} {wy be : Nat → Int32} (H : sq_W n st w tn ti ki re) (he : e < 10) (hk : k < 4) (hf : f < 10) (hl : yq_bf lo l f e b)
    (h1 : (sq_mt ty va sT bo ki) f e k b = true → x = z) (h0 : (sq_mt ty va sT bo ki) f e k b = false → x = 0) (h : ∀ wy' : Nat → Int32, (∀ i, i ≠ k → wy' i = wy i) → wy' k = nI x → J35 (nI (k + 1)) ty va ti sT bo ki re wy' be) : wY_take_110 post J35 (nI e) lo (nI f) (nI k) (nI z) (nI n) (nI st) (nI w) ty va ti sT bo ki re wy be := by
  have ek : (nI k).toNatClampNeg = k := nI_clamp (by omega)
  have vk : vp_in (nI k) 4 := vp_in_nI hk (by omega)
  unfold wY_take_110
  refine yq_meets H he hk hf hl ?_
  rw [ek]
  cases a : (sq_mt ty va sT bo ki) f e k b
  · refine br_t rfl ⟨vk, nm_e (nm_r (nI_1 k) (h _ (fun i hi => pk_un hi) ?_))⟩
    rw [pk_us, h0 a]; rfl
  · refine br_f (by decide) ⟨vk, nm_e (nm_r (nI_1 k) (h _ (fun i hi => pk_un hi) ?_))⟩
    rw [pk_us, h1 a]
theorem yq_35 {post : SY → Prop} {lo : Int32} {l e b f : Nat} {v : Nat → Nat} {be : Nat → Int32} (H : sq_W n st w tn ti ki re) (he : e < 10) (hf : f < 10) (hl : yq_bf lo l f e b) (hb : l ≠ 0 → ∀ j, j < st → be j = nI (v j))
    (h : ∀ wy' : Nat → Int32, (∀ j, j < st → wy' j = nI (sq_nx (sq_mt ty va sT bo ki) (sq_R re) l f e v j)) → post (nI n, nI st, nI w, ty, va, ti, sT, bo, ki, re, wy', be)) :
    ∀ (d k : Nat) (wy : Nat → Int32), k + d = st → (∀ j, j < k → wy j = nI (sq_nx (sq_mt ty va sT bo ki) (sq_R re) l f e v j)) → wY_take_35 post (nI e) lo (nI f) (nI n) (nI st) (nI w) (d + 1) (nI k) ty va ti sT bo ki re wy be := by
  have hst : st ≤ 4 := H.2.1
  intro d
  induction d with
  | zero =>
    intro k wy hk hI
    have z : k = st := by omega
    subst z
    rw [wY_take_35]
    exact br_t (nI_le (Nat.le_refl _) (by omega)) (h wy hI)
  | succ d ih =>
    intro k wy hk hI
    rw [wY_take_35]
    have ek : (nI k).toNatClampNeg = k := nI_clamp (by omega)
    have vk : vp_in (nI k) 4 := vp_in_nI (by omega) (by omega)
    dsimp only
    rw [ek]
    have nx : ∀ wy' : Nat → Int32, (∀ i, i ≠ k → wy' i = wy i) → wy' k = nI (sq_nx (sq_mt ty va sT bo ki) (sq_R re) l f e v k) → wY_take_35 post (nI e) lo (nI f) (nI n) (nI st) (nI w) (d + 1) (nI (k + 1)) ty va ti sT bo ki re wy' be := by
      intro wy' h1 h2
      refine ih (k + 1) wy' (by omega) (fun j hj => ?_)
      by_cases c : j = k
      · subst c; exact h2
      · rw [h1 j c]; exact hI j (by omega)
    rcases hl with ⟨hl0, hlo, hef⟩ | ⟨hl0, hlo, hef, hb10⟩
    · have hl' : yq_bf lo l f e e := Or.inl ⟨hl0, hlo, hef⟩
      have t89 : ∀ z0 : Int32, wY_take_89 post (wY_take_35 post (nI e) lo (nI f) (nI n) (nI st) (nI w) (d + 1)) (nI e) lo (nI f) (nI k) z0 (nI n) (nI st) (nI w) ty va ti sT bo ki re wy be := by
        intro z0
        unfold wY_take_89
        refine br_f (by rw [hlo]; decide) (br_c (fun q => ?_) (fun q => ?_))
        · have z : k = 0 := (nI_eq (b := 0) (by omega) (by omega)).mp q
          refine yq_110 (z := 1) H he (by omega) hf hl' (fun a => ?_) (fun a => ?_) nx
          · unfold sq_nx
            rw [if_pos hl0, if_pos ⟨z, by rw [z, ← hef] at a; exact a⟩]
          · unfold sq_nx
            rw [if_pos hl0, if_neg]
            intro y
            rw [z, ← hef, y.2] at a
            exact nomatch a
        · have z : k ≠ 0 := fun z => q (by rw [z]; rfl)
          refine yq_110 (z := 0) H he (by omega) hf hl' (fun a => ?_) (fun a => ?_) nx
          · unfold sq_nx
            rw [if_pos hl0, if_neg (fun y => z y.1)]
          · unfold sq_nx
            rw [if_pos hl0, if_neg (fun y => z y.1)]
      have t65 : ∀ z0 : Int32, wY_take_65 post (wY_take_35 post (nI e) lo (nI f) (nI n) (nI st) (nI w) (d + 1)) (nI e) lo (nI f) (nI k) z0 (nI n) (nI st) (nI w) ty va ti sT bo ki re wy be := by
        intro z0
        unfold wY_take_65
        refine br_c (fun q => t89 z0) (fun q => ⟨?_, t89 _⟩)
        have z : k ≠ 0 := fun z => q (by rw [z]; decide)
        obtain ⟨j, rfl⟩ : ∃ j, k = j + 1 := ⟨k - 1, by omega⟩
        rw [nI_pred]
        exact vp_in_nI (by omega) (by omega)
      exact br_f (nI_ge (by omega) (by omega)) ⟨vk, br_c (fun q => t65 0) (fun q => ⟨vk, t65 _⟩)⟩
    · have hl' : yq_bf lo l f e b := Or.inr ⟨hl0, hlo, hef, hb10⟩
      have hz : ¬ l = 0 := by omega
      have hb' := hb hz
      have hlb : l - 1 = b := by omega
      have t110 : ∀ z : Nat, z = (if (sq_R re) k = true then v k else 0) + (if k = 0 then 0 else v (k - 1)) → wY_take_89 post (wY_take_35 post (nI e) lo (nI f) (nI n) (nI st) (nI w) (d + 1)) (nI e) lo (nI f) (nI k) (nI z) (nI n) (nI st) (nI w) ty va ti sT bo ki re wy be := by
        intro z ez
        unfold wY_take_89
        refine br_t (by rw [hlo]; exact nI_pos' (by omega)) (yq_110 H he (by omega) hf hl' (fun a => ?_) (fun a => ?_) nx)
        · unfold sq_nx
          rw [if_neg hz, hlb, if_pos a, ez]
        · unfold sq_nx
          rw [if_neg hz, hlb, if_neg (by rw [a]; decide)]
      have t65 : ∀ z : Nat, z = (if (sq_R re) k = true then v k else 0) → wY_take_65 post (wY_take_35 post (nI e) lo (nI f) (nI n) (nI st) (nI w) (d + 1)) (nI e) lo (nI f) (nI k) (nI z) (nI n) (nI st) (nI w) ty va ti sT bo ki re wy be := by
        intro z ez
        unfold wY_take_65
        refine br_c (fun q => ?_) (fun q => ?_)
        · have y : k = 0 := by
            have := (nI_leI (b := 0) (show k < 2 ^ 31 by omega) (by omega)).mp q
            omega
          exact t110 z (by rw [if_pos y, ez]; rfl)
        · have y : k ≠ 0 := fun z => q (by rw [z]; decide)
          obtain ⟨j, rfl⟩ : ∃ j, k = j + 1 := ⟨k - 1, by omega⟩
          rw [nI_pred, nI_clamp (by omega), hb' j (by omega), nI_add]
          exact ⟨vp_in_nI (by omega) (by omega), t110 _ (by rw [if_neg y, ez]; rfl)⟩
      refine br_f (nI_ge (by omega) (by omega)) ⟨vk, br_c (fun q => t65 0 ?_) (fun q => ⟨vk, ?_⟩)⟩
      · rw [if_neg]
        intro y
        have y2 := of_decide_eq_true y
        rw [q] at y2
        exact absurd y2 (by decide)
      · rw [hb' k (by omega)]
        refine t65 (v k) ?_
        rcases sq_re (H := H) k with r | r
        · exact absurd r q
        · rw [if_pos (show (sq_R re) k = true from decide_eq_true r)]
theorem yq_3 {post : SY → Prop} {lo : Int32} {l e b f : Nat} {v : Nat → Nat} {wy : Nat → Int32} (H : sq_W n st w tn ti ki re) (he : e < 10) (hf : f < 10) (hl : yq_bf lo l f e b) (hb : l ≠ 0 → ∀ j, j < st → wy j = nI (v j))
    (h : ∀ wy' be' : Nat → Int32, (∀ j, j < st → wy' j = nI (sq_nx (sq_mt ty va sT bo ki) (sq_R re) l f e v j)) → post (nI n, nI st, nI w, ty, va, ti, sT, bo, ki, re, wy', be')) :
    ∀ (d k : Nat) (be : Nat → Int32), k + d = st → (∀ j, j < k → be j = wy j) → wY_take_3 post (nI e) lo (nI f) (nI n) (nI st) (nI w) (d + 1) (nI k) ty va ti sT bo ki re wy be := by
  have hst : st ≤ 4 := H.2.1
  intro d
  induction d with
  | zero =>
    intro k be hk hI
    have z : k = st := by omega
    subst z
    rw [wY_take_3]
    refine br_t (nI_le (Nat.le_refl _) (by omega)) ⟨_, yq_35 (v := v) H he hf hl (fun z j hj => ?_) (fun wy' hw => h wy' be hw) k 0 wy (by omega) (fun j hj => absurd hj (Nat.not_lt_zero j))⟩
    rw [hI j hj]; exact hb z j hj
  | succ d ih =>
    intro k be hk hI
    rw [wY_take_3]
    have ek : (nI k).toNatClampNeg = k := nI_clamp (by omega)
    have vk : vp_in (nI k) 4 := vp_in_nI (by omega) (by omega)
    dsimp only
    rw [ek]
    refine br_f (nI_ge (by omega) (by omega)) ⟨vk, vk, nm_e (nm_r (nI_1 k) (ih (k + 1) _ (by omega) (fun j hj => ?_)))⟩
    by_cases c : j = k
    · subst c; exact pk_us
    · rw [pk_un c]; exact hI j (by omega)
theorem yq_take {post : SY → Prop} {lo : Int32} {l e b f : Nat} {v : Nat → Nat} {wy be : Nat → Int32} (H : sq_W n st w tn ti ki re) (he : e < 10) (hf : f < 10) (hl : yq_bf lo l f e b) (hb : l ≠ 0 → ∀ j, j < st → wy j = nI (v j))
    (h : ∀ wy' be' : Nat → Int32, (∀ j, j < st → wy' j = nI (sq_nx (sq_mt ty va sT bo ki) (sq_R re) l f e v j)) → post (nI n, nI st, nI w, ty, va, ti, sT, bo, ki, re, wy', be')) : wpY_take post (nI n, nI st, nI w, ty, va, ti, sT, bo, ki, re, wy, be) (nI e) lo (nI f) :=
  ⟨_, yq_3 H he hf hl hb h st 0 be (by omega) (fun j hj => absurd hj (Nat.not_lt_zero j))⟩
