/-! the reference: findsOf -/
theorem sq_fi_lt {s : Nat} (n : Nat) (h : sq_ls s n ≠ 0) : sq_fi s n < sq_ls s n ∧ sq_ls s n ≤ n := by
  induction n with
  | zero => exact absurd rfl h
  | succ n ih =>
    cases b : s.testBit n
    · rw [sq_ls_n b] at h ⊢
      rw [sq_fi_n b]
      have := ih h
      exact ⟨this.1, by omega⟩
    · rw [sq_ls_y b, sq_fi_y b]
      refine ⟨?_, Nat.le_refl _⟩
      by_cases c : sq_ls s n = 0
      · rw [if_pos c]; omega
      · rw [if_neg c]
        have := ih c
        omega
theorem sq_nx_f {M : Nat → Nat → Nat → Nat → Bool} {R : Nat → Bool} {s e k : Nat} {v : Nat → Nat} (he : e ≤ 10) : sq_nx M R (sq_ls s e) (sq_fi s e) e v k = sq_nx M R (sq_ls s e) (sq_I s) e v k := by
  by_cases c : sq_ls s e = 0
  · unfold sq_nx; rw [if_pos c, if_pos c]
  · rw [sq_I_of he c]
def yq_lo (l : Nat) : Int32 := if l = 0 then (-1) else nI (l - 1)
theorem sq_F_le {M : Nat → Nat → Nat → Nat → Bool} {R : Nat → Bool} {tn : Nat → Nat} {w st s : Nat} (hs : s < 2 ^ 10) : sq_F M R tn w st s ≤ 1024 := by
  have h := sq_Vle M R (n := 10) (by decide) s hs (st - 1)
  have h2 : 2 ^ sq_L s ≤ 2 ^ 10 := Nat.pow_le_pow_right (by decide) (sq_Lle (n := 10) (by decide) hs)
  unfold sq_F
  split
  · omega
  · omega
variable {n st w : Nat} {tn : Nat → Nat} {ty va ti sT bo ki re : Nat → Int32}
theorem yq_11 {post : Int32 → SY → Prop} {s : Nat} (H : sq_W n st w tn ti ki re) (hs : s < 2 ^ n) (h0 : s ≠ 0) (h : ∀ wy be : Nat → Int32, post (nI (sq_F (sq_mt ty va sT bo ki) (sq_R re) tn w st s)) (nI n, nI st, nI w, ty, va, ti, sT, bo, ki, re, wy, be)) :
    ∀ (d e : Nat) (wy be : Nat → Int32), e + d = n → (sq_ls s e ≠ 0 → ∀ k, k < st → wy k = nI (sq_v (sq_mt ty va sT bo ki) (sq_R re) s e k)) → wY_findsOf_11 post (nI s) (nI (sq_I s)) (d + 1) (yq_lo (sq_ls s e)) (nI e) (nI n) (nI st) (nI w) ty va ti sT bo ki re wy be := by
  have hn : n ≤ 10 := H.1
  have hst : st ≤ 4 := H.2.1
  have hp := sq_p1024 hn
  have hI := sq_Ilt' hn hs h0
  intro d
  induction d with
  | zero =>
    intro e wy be he hv
    have z : e = n := by omega
    subst z
    have t := sq_at10 (sq_mt ty va sT bo ki) (sq_R re) hn hs
    have hL := sq_Lpos hn hs h0
    have hL2 := sq_Lle hn hs
    have hL3 := sq_Ilt hn s hs h0
    rw [t.1, t.2] at hv
    rw [wY_findsOf_11, t.1]
    obtain ⟨b, hb⟩ : ∃ b, sq_L s = b + 1 := ⟨sq_L s - 1, by omega⟩
    have eb : yq_lo (sq_L s) = nI b := by
      unfold yq_lo
      rw [hb, if_neg (by omega)]; rfl
    have cb : (nI b).toNatClampNeg = b := nI_clamp (by omega)
    have ci : (nI (sq_I s)).toNatClampNeg = sq_I s := nI_clamp (by omega)
    have hF : sq_F (sq_mt ty va sT bo ki) (sq_R re) tn w st s = if 0 < b + 1 ∧ 0 < st ∧ tn b - tn (sq_I s) ≤ w then sq_V (sq_mt ty va sT bo ki) (sq_R re) s (st - 1) else 0 := by
      unfold sq_F
      rw [hb, Nat.add_sub_cancel]
    have hh := h wy be
    rw [hF] at hh
    dsimp only
    rw [eb, cb, ci]
    have near := sq_nearI H (show sq_I s ≤ b by omega) (show b < e by omega)
    refine br_t (nI_le (Nat.le_refl _) (by omega)) (br_f (nI_pos (by omega)) ⟨vp_in_nI (by omega) (by omega), vp_in_nI (by omega) (by omega), br_c (fun q => ?_) (fun q => ?_)⟩)
    · have k : ¬ tn b - tn (sq_I s) ≤ w := fun z => absurd q (Int32.not_lt.mpr (near.mpr z))
      rw [if_neg (fun z => k z.2.2)] at hh
      exact br_t rfl hh
    · have k : tn b - tn (sq_I s) ≤ w := near.mp (Int32.not_lt.mp q)
      refine br_f (by decide) (br_c (fun q2 => ?_) (fun q2 => ?_))
      · have y := (sq_le0 (c := st) (by omega)).mp q2
        rw [if_neg (fun z => absurd z.2.1 (by omega))] at hh
        exact hh
      · have y : st ≠ 0 := fun z => q2 ((sq_le0 (c := st) (by omega)).mpr z)
        obtain ⟨j, rfl⟩ : ∃ j, st = j + 1 := ⟨st - 1, by omega⟩
        rw [if_pos ⟨by omega, by omega, k⟩] at hh
        rw [nI_pred, nI_clamp (by omega), hv (by omega) j (by omega)]
        exact ⟨vp_in_nI (by omega) (by omega), hh⟩
  | succ d ih =>
    intro e wy be he hv
    rw [wY_findsOf_11]
    refine br_f (nI_ge (by omega) (by omega)) ?_
    rw [sq_bit1 (by omega) (by omega)]
    have ih' := ih (e + 1)
    cases b : s.testBit e
    · refine br_f (by decide) (nm_r (nI_1 e) ?_)
      have a := ih' wy be (by omega)
      rw [sq_ls_n b, sq_v_n b] at a
      exact a hv
    · have el : yq_lo (sq_ls s (e + 1)) = nI e := by
        unfold yq_lo
        rw [sq_ls_y b, if_neg (by omega)]; rfl
      rw [el] at ih'
      refine br_t rfl (yq_take (l := sq_ls s e) (b := sq_ls s e - 1) (v := sq_v (sq_mt ty va sT bo ki) (sq_R re) s e) H (by omega) (by omega) ?_ hv (fun wy' be' hw => nm_r (nI_1 e) (ih' wy' be' (by omega) (fun _ k hk => ?_))))
      · unfold yq_lo
        by_cases c : sq_ls s e = 0
        · refine Or.inl ⟨c, if_pos c, (sq_I_at (by omega) b c).symm⟩
        · have l := sq_fi_lt e c
          rw [sq_I_of (by omega) c] at l
          exact Or.inr ⟨by omega, if_neg c, by omega, by omega⟩
      · rw [hw k hk, sq_v_y b, sq_nx_f (by omega)]
theorem yq_finds1 {post : Int32 → SY → Prop} {s : Nat} {wy be : Nat → Int32} (H : sq_W n st w tn ti ki re) (hs : s < 2 ^ n) (h0 : s ≠ 0) (h : ∀ wy' be' : Nat → Int32, post (nI (sq_F (sq_mt ty va sT bo ki) (sq_R re) tn w st s)) (nI n, nI st, nI w, ty, va, ti, sT, bo, ki, re, wy', be')) : wpY_findsOf post (nI n, nI st, nI w, ty, va, ti, sT, bo, ki, re, wy, be) (nI s) := by
  have hp := sq_p1024 H.1
  unfold wpY_findsOf
  try dsimp only
  exact yq_first (by omega) ⟨_, yq_11 H hs h0 h n 0 wy be (by omega) (fun z => absurd rfl z)⟩
/-- is it an event: both sides -/
theorem xq_ev0 {post : Int32 → Prop} {x : Int32} {wa le : Nat → Int32} (hx : x < 0 ∨ nI n ≤ x) (h : post 0) : wpX_isEvent post (nI n, nI st, nI w, ty, va, ti, sT, bo, ki, re, wa, le) x := by
  unfold wpX_isEvent
  try dsimp only
  exact br_c (fun _ => h) (fun q => br_t (hx.resolve_left q) h)
theorem xq_ev1 {post : Int32 → Prop} {j : Nat} {wa le : Nat → Int32} (hn : n ≤ 10) (hj : j < n) (h : post 1) : wpX_isEvent post (nI n, nI st, nI w, ty, va, ti, sT, bo, ki, re, wa, le) (nI j) := by
  unfold wpX_isEvent
  try dsimp only
  exact br_f (nI_pos (by omega)) (br_f (nI_ge hj (by omega)) h)
theorem yq_ev0 {post : Int32 → Prop} {x : Int32} {wa le : Nat → Int32} (hx : x < 0 ∨ nI n ≤ x) (h : post 0) : wpY_isEvent post (nI n, nI st, nI w, ty, va, ti, sT, bo, ki, re, wa, le) x := by
  unfold wpY_isEvent
  try dsimp only
  exact br_c (fun _ => h) (fun q => br_t (hx.resolve_left q) h)
theorem yq_ev1 {post : Int32 → Prop} {j : Nat} {wa le : Nat → Int32} (hn : n ≤ 10) (hj : j < n) (h : post 1) : wpY_isEvent post (nI n, nI st, nI w, ty, va, ti, sT, bo, ki, re, wa, le) (nI j) := by
  unfold wpY_isEvent
  try dsimp only
  exact br_f (nI_pos (by omega)) (br_f (nI_ge hj (by omega)) h)
