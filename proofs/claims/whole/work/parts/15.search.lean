/-! the calls that search -/
theorem i_vc_finds {k : Nat} {u : SX} {v : SY} (I : i_Rel k u v) (hk : k + 4 ≤ 2048) : wpX_finds (fun r u' => wpY_finds (fun r' v' => r' = r ∧ i_Rel (k + 4) u' v') v) u := by
  obtain ⟨n, st, w, tn, ty, va, ti, sT, bo, ki, re, wa, le, wy, be, H, rfl, rfl⟩ := I
  unfold wpX_finds
  dsimp only
  refine xq_cl H sq_lo1 (fun wa' le' => ?_)
  dsimp only
  unfold wpY_finds
  dsimp only
  refine yq_findsS H (fun wy' be' => ⟨?_, rq_mk H⟩)
  rw [sq_A100 H.1]
theorem i_vc_endingAt {k : Nat} {u : SX} {v : SY} (I : i_Rel k u v) (hk : k + 4 ≤ 2048) (v1 : Int32) : wpX_endingAt (fun r u' => wpY_endingAt (fun r' v' => r' = r ∧ i_Rel (k + 4) u' v') v v1) u v1 := by
  obtain ⟨n, st, w, tn, ty, va, ti, sT, bo, ki, re, wa, le, wy, be, H, rfl, rfl⟩ := I
  have hn : n ≤ 10 := H.1
  unfold wpX_endingAt wpY_endingAt
  dsimp only
  rcases pk_ix v1 (show n < 2 ^ 31 by omega) with a | a | ⟨j, hj, rfl⟩
  · exact xq_ev0 (Or.inl a) (br_t rfl (yq_ev0 (Or.inl a) (br_t rfl ⟨rfl, rq_mk H⟩)))
  · exact xq_ev0 (Or.inr a) (br_t rfl (yq_ev0 (Or.inr a) (br_t rfl ⟨rfl, rq_mk H⟩)))
  · refine xq_ev1 hn hj (br_f (by decide) (xq_ce H hj (fun wa' le' => ?_)))
    dsimp only
    refine yq_ev1 hn hj (br_f (by decide) (yq_endS (by omega) H (fun wy' be' => ⟨?_, rq_mk H⟩)))
    rw [sq_Ny hn hj]
theorem i_vc_beginningAt {k : Nat} {u : SX} {v : SY} (I : i_Rel k u v) (hk : k + 4 ≤ 2048) (v1 : Int32) : wpX_beginningAt (fun r u' => wpY_beginningAt (fun r' v' => r' = r ∧ i_Rel (k + 4) u' v') v v1) u v1 := by
  obtain ⟨n, st, w, tn, ty, va, ti, sT, bo, ki, re, wa, le, wy, be, H, rfl, rfl⟩ := I
  have hn : n ≤ 10 := H.1
  unfold wpX_beginningAt wpY_beginningAt
  dsimp only
  rcases pk_ix v1 (show n < 2 ^ 31 by omega) with a | a | ⟨j, hj, rfl⟩
  · exact xq_ev0 (Or.inl a) (br_t rfl (yq_ev0 (Or.inl a) (br_t rfl ⟨rfl, rq_mk H⟩)))
  · exact xq_ev0 (Or.inr a) (br_t rfl (yq_ev0 (Or.inr a) (br_t rfl ⟨rfl, rq_mk H⟩)))
  · refine xq_ev1 hn hj (br_f (by decide) (xq_cb H hj sq_lo1 (fun wa' le' => ?_)))
    dsimp only
    refine yq_ev1 hn hj (br_f (by decide) (yq_begS (by omega) H (fun wy' be' => ⟨?_, rq_mk H⟩)))
    rw [sq_B100 hn]
theorem sq_loe {j : Nat} (hj : j < 10) : ∀ e, e < 10 → (nI e = nI j ↔ e = j) := fun _ he => nI_eq (by omega) (by omega)
theorem i_vc_using {k : Nat} {u : SX} {v : SY} (I : i_Rel k u v) (hk : k + 4 ≤ 2048) (v1 : Int32) : wpX_using (fun r u' => wpY_using (fun r' v' => r' = r ∧ i_Rel (k + 4) u' v') v v1) u v1 := by
  obtain ⟨n, st, w, tn, ty, va, ti, sT, bo, ki, re, wa, le, wy, be, H, rfl, rfl⟩ := I
  have hn : n ≤ 10 := H.1
  unfold wpX_using wpY_using
  dsimp only
  rcases pk_ix v1 (show n < 2 ^ 31 by omega) with a | a | ⟨j, hj, rfl⟩
  · exact xq_ev0 (Or.inl a) (br_t rfl (yq_ev0 (Or.inl a) (br_t rfl ⟨rfl, rq_mk H⟩)))
  · exact xq_ev0 (Or.inr a) (br_t rfl (yq_ev0 (Or.inr a) (br_t rfl ⟨rfl, rq_mk H⟩)))
  · refine xq_ev1 hn hj (br_f (by decide) (xq_cl H sq_lo1 (fun wa' le' => ?_)))
    dsimp only
    refine xq_cl H (sq_loe (show j < 10 by omega)) (fun wa2 le2 => ?_)
    dsimp only
    refine yq_ev1 hn hj (br_f (by decide) (yq_usS (by omega) H (fun wy' be' => ⟨?_, rq_mk H⟩)))
    have e := sq_wo (F := sq_F (sq_mt ty va sT bo ki) (sq_R re) tn w st) (o := j) (n := 2 ^ n)
    rw [sq_A100 hn, sq_An hn, pk_sub (by omega)]
    exact congrArg nI (by omega)
theorem i_vc_longest {k : Nat} {u : SX} {v : SY} (I : i_Rel k u v) (hk : k + 4 ≤ 2048) : wpX_longest (fun r u' => wpY_longest (fun r' v' => r' = r ∧ i_Rel (k + 4) u' v') v) u := by
  obtain ⟨n, st, w, tn, ty, va, ti, sT, bo, ki, re, wa, le, wy, be, H, rfl, rfl⟩ := I
  refine xq_longest H (fun wa' le' => ?_)
  unfold wpY_longest
  dsimp only
  refine yq_longS H (fun wy' be' => ⟨?_, rq_mk H⟩)
  rw [sq_ALn H.1]
theorem i_vc_tightest {k : Nat} {u : SX} {v : SY} (I : i_Rel k u v) (hk : k + 4 ≤ 2048) : wpX_tightest (fun r u' => wpY_tightest (fun r' v' => r' = r ∧ i_Rel (k + 4) u' v') v) u := by
  obtain ⟨n, st, w, tn, ty, va, ti, sT, bo, ki, re, wa, le, wy, be, H, rfl, rfl⟩ := I
  refine xq_tightest H (fun wa' le' => ?_)
  unfold wpY_tightest
  dsimp only
  refine yq_tightS H (fun wy' be' => ⟨?_, rq_mk H⟩)
  rw [sq_ATn H.1]
theorem i_vc_lastValues {k : Nat} {u : SX} {v : SY} (I : i_Rel k u v) (hk : k + 4 ≤ 2048) : wpX_lastValues (fun r u' => wpY_lastValues (fun r' v' => r' = r ∧ i_Rel (k + 4) u' v') v) u := by
  obtain ⟨n, st, w, tn, ty, va, ti, sT, bo, ki, re, wa, le, wy, be, H, rfl, rfl⟩ := I
  refine xq_lastValues H (fun wa' le' => ?_)
  unfold wpY_lastValues
  dsimp only
  exact yq_lvS H (fun wy' be' => ⟨rfl, rq_mk H⟩)
theorem i_vc_without {k : Nat} {u : SX} {v : SY} (I : i_Rel k u v) (hk : k + 4 ≤ 2048) (v1 : Int32) : wpX_without (fun r u' => wpY_without (fun r' v' => r' = r ∧ i_Rel (k + 4) u' v') v v1) u v1 := by
  obtain ⟨n, st, w, tn, ty, va, ti, sT, bo, ki, re, wa, le, wy, be, H, rfl, rfl⟩ := I
  have hn : n ≤ 10 := H.1
  unfold wpX_without wpY_without
  dsimp only
  rcases pk_ix v1 (show n < 2 ^ 31 by omega) with a | a | ⟨j, hj, rfl⟩
  · exact xq_ev0 (Or.inl a) (br_t rfl (yq_ev0 (Or.inl a) (br_t rfl ⟨rfl, rq_mk H⟩)))
  · exact xq_ev0 (Or.inr a) (br_t rfl (yq_ev0 (Or.inr a) (br_t rfl ⟨rfl, rq_mk H⟩)))
  · refine xq_ev1 hn hj (br_f (by decide) (xq_cl H (sq_loe (show j < 10 by omega)) (fun wa' le' => ?_)))
    dsimp only
    refine yq_ev1 hn hj (br_f (by decide) (yq_woS (by omega) H (fun wy' be' => ⟨?_, rq_mk H⟩)))
    rw [sq_An hn]
variable {n st w : Nat} {tn : Nat → Nat} {ty va ti sT bo ki re : Nat → Int32}
theorem yq_evb {post : Int32 → SY → Prop} {v1 v2 v3 : Int32} {wy be : Nat → Int32} (hb : v1 < 0 ∨ 3 < v1 ∨ v2 < 0 ∨ 9 < v2 ∨ v3 < 0 ∨ ¬ v3 ≤ 5) (h : post (-1) (nI n, nI st, nI w, ty, va, ti, sT, bo, ki, re, wy, be)) : wpY_event post (nI n, nI st, nI w, ty, va, ti, sT, bo, ki, re, wy, be) v1 v2 v3 := by
  unfold wpY_event
  dsimp only
  refine br_c (fun _ => h) (fun a => br_c (fun _ => h) (fun b => br_c (fun _ => h) (fun c => br_c (fun _ => h) (fun d => br_c (fun _ => h) (fun e => br_c (fun f => ?_) (fun _ => h))))))
  rcases hb with hb | hb | hb | hb | hb | hb
  · exact absurd hb a
  · exact absurd hb b
  · exact absurd hb c
  · exact absurd hb d
  · exact absurd hb e
  · exact absurd f hb
/-- the state behind one more event -/
theorem rq_ev {g T : Nat} (H : sq_W n st w tn ti ki re) (n10 : n < 10) (g5 : g ≤ 5) (eT : T = if n = 0 then g else tn (n - 1) + g) : sq_W (n + 1) st w (fun i => if i = n then T else tn i) (upd ti n (nI T)) ki re := by
  obtain ⟨h1, h2, h3, h4, h5, h6, h7, h8⟩ := H
  refine ⟨by omega, h2, h3, fun i hi => ?_, fun i j hij hj => ?_, fun i hi => ?_, h7, h8⟩
  · dsimp only
    by_cases q : i = n
    · subst q
      rw [pk_us, if_pos rfl]
    · rw [pk_un q, if_neg q]; exact h4 i (by omega)
  · dsimp only
    by_cases q : j = n
    · rw [if_pos q]
      by_cases p : i = n
      · rw [if_pos p]; omega
      · rw [if_neg p]
        have z : ¬ n = 0 := by omega
        rw [if_neg z] at eT
        have := h5 i (n - 1) (by omega) (by omega)
        omega
    · rw [if_neg q, if_neg (show ¬ i = n by omega)]
      exact h5 i j hij (by omega)
  · dsimp only
    by_cases q : i = n
    · rw [if_pos q]
      by_cases z : n = 0
      · rw [if_pos z] at eT; omega
      · rw [if_neg z] at eT
        have := h6 (n - 1) (by omega)
        omega
    · rw [if_neg q]
      exact h6 i (by omega)
theorem yq_evg {post : Int32 → SY → Prop} {v1 v2 : Int32} {g T : Nat} {wy be : Nat → Int32} (H : sq_W n st w tn ti ki re) (a1 : ¬ v1 < 0) (a2 : ¬ 3 < v1) (a3 : ¬ v2 < 0) (a4 : ¬ 9 < v2) (n10 : n < 10) (g5 : g ≤ 5) (eT : T = if n = 0 then g else tn (n - 1) + g)
    (h : ∀ wy' be' : Nat → Int32, post (nI (sq_N (sq_mt (upd ty n v1) (upd va n v2) sT bo ki) (sq_R re) (fun i => if i = n then T else tn i) w st n)) (nI (n + 1), nI st, nI w, upd ty n v1, upd va n v2, upd ti n (nI T), sT, bo, ki, re, wy', be')) : wpY_event post (nI n, nI st, nI w, ty, va, ti, sT, bo, ki, re, wy, be) v1 v2 (nI g) := by
  have H' := rq_ev H n10 g5 eT
  have vn : vp_in (nI n) 10 := vp_in_nI n10 (by omega)
  have en : (nI n).toNatClampNeg = n := nI_clamp (by omega)
  have nf : ¬ nI n = 10 := fun z => by
    have := (nI_eq (b := 10) (show n < 2 ^ 31 by omega) (by omega)).mp z
    omega
  have main : ∀ z0 : Int32, z0 + nI g = nI T → wY_event_92 post (nI g) z0 (nI n) (nI n) (nI st) (nI w) (upd ty n v1) (upd va n v2) ti sT bo ki re wy be := by
    intro z0 e0
    unfold wY_event_92
    rw [en, e0]
    refine ⟨vn, nm_e (nm_r (nI_1 n) ?_)⟩
    unfold wpY_endingAt
    dsimp only
    rw [nI_pred]
    refine yq_ev1 (by omega) (by omega) (br_f (by decide) (yq_endS n10 H' (fun wy' be' => ?_)))
    try dsimp only
    rw [sq_Ny (by omega) (by omega)]
    exact h wy' be'
  unfold wpY_event
  dsimp only
  rw [en]
  refine br_f a1 (br_f a2 (br_f a3 (br_f a4 (br_f (nI_pos (by omega)) (br_t (nI_le (b := 5) g5 (by omega)) (br_f nf ⟨vn, nm_e ⟨vn, nm_e (br_c (fun q => main 0 ?_) (fun q => ?_))⟩⟩))))))
  · have z : n = 0 := (nI_eq (b := 0) (by omega) (by omega)).mp q
    rw [if_pos z] at eT
    rw [eT]
    exact Int32.zero_add _
  · have z : n ≠ 0 := fun z => q (by rw [z]; rfl)
    rw [if_neg z] at eT
    have e1 : nI n - 1 = nI (n - 1) := by
      obtain ⟨m, hm⟩ : ∃ m, n = m + 1 := ⟨n - 1, by omega⟩
      rw [hm, nI_pred]; rfl
    rw [e1, nI_clamp (by omega)]
    refine ⟨vp_in_nI (by omega) (by omega), main _ ?_⟩
    rw [H.2.2.2.1 (n - 1) (by omega), nI_add, eT]
theorem i_vc_event {k : Nat} {u : SX} {v : SY} (I : i_Rel k u v) (hk : k + 4 ≤ 2048) (v1 : Int32) (v2 : Int32) (v3 : Int32) : wpX_event (fun r u' => wpY_event (fun r' v' => r' = r ∧ i_Rel (k + 4) u' v') v v1 v2 v3) u v1 v2 v3 := by
  obtain ⟨n, st, w, tn, ty, va, ti, sT, bo, ki, re, wa, le, wy, be, H, rfl, rfl⟩ := I
  have hn : n ≤ 10 := H.1
  unfold wpX_event
  dsimp only
  have bad : (v1 < 0 ∨ 3 < v1 ∨ v2 < 0 ∨ 9 < v2 ∨ v3 < 0 ∨ ¬ v3 ≤ 5) → wpY_event (fun r' v' => r' = (-1) ∧ i_Rel (k + 4) (nI n, nI st, nI w, ty, va, ti, sT, bo, ki, re, wa, le) v') (nI n, nI st, nI w, ty, va, ti, sT, bo, ki, re, wy, be) v1 v2 v3 := fun hb => yq_evb hb ⟨rfl, rq_mk H⟩
  refine br_c (fun a => bad (Or.inl a)) (fun a1 => br_c (fun a => bad (Or.inr (Or.inl a))) (fun a2 => br_c (fun a => bad (Or.inr (Or.inr (Or.inl a)))) (fun a3 => br_c (fun a => bad (Or.inr (Or.inr (Or.inr (Or.inl a))))) (fun a4 => br_c (fun a => bad (Or.inr (Or.inr (Or.inr (Or.inr (Or.inl a)))))) (fun a5 => br_c (fun a6 => ?_) (fun a => bad (Or.inr (Or.inr (Or.inr (Or.inr (Or.inr a)))))))))))
  refine br_c (fun a7 => ?_) (fun a7 => ?_)
  · have n10 : n < 10 := (nI_ltI (b := 10) (by omega) (by omega)).mp a7
    have vn : vp_in (nI n) 10 := vp_in_nI n10 (by omega)
    have en : (nI n).toNatClampNeg = n := nI_clamp (by omega)
    obtain ⟨g, hg, rfl⟩ := nI_of a5
    have g5 : g ≤ 5 := (nI_leI (b := 5) hg (by omega)).mp a6
    have main : ∀ T : Nat, (T = if n = 0 then g else tn (n - 1) + g) → wX_event_90 (fun r u' => wpY_event (fun r' v' => r' = r ∧ i_Rel (k + 4) u' v') (nI n, nI st, nI w, ty, va, ti, sT, bo, ki, re, wy, be) v1 v2 (nI g)) (nI n) (nI T) (nI n) (nI n) (nI st) (nI w) (upd ty n v1) (upd va n v2) ti sT bo ki re wa le := by
      intro T eT
      have H' := rq_ev H n10 g5 eT
      unfold wX_event_90
      rw [en]
      refine ⟨vn, nm_e (nm_r (nI_1 n) (xq_ce H' (by omega) (fun wa' le' => ?_)))⟩
      dsimp only
      exact yq_evg H a1 a2 a3 a4 n10 g5 eT (fun wy' be' => ⟨rfl, rq_mk H'⟩)
    rw [en]
    refine ⟨vn, nm_e ⟨vn, nm_e (br_c (fun q => main g ?_) (fun q => ?_))⟩⟩
    · have z : n = 0 := (nI_eq (b := 0) (by omega) (by omega)).mp q
      rw [if_pos z]
    · have z : n ≠ 0 := fun z => q (by rw [z]; rfl)
      have e1 : nI n - 1 = nI (n - 1) := by
        obtain ⟨m, hm⟩ : ∃ m, n = m + 1 := ⟨n - 1, by omega⟩
        rw [hm, nI_pred]; rfl
      rw [e1, nI_clamp (by omega), H.2.2.2.1 (n - 1) (by omega), nI_add]
      exact ⟨vp_in_nI (by omega) (by omega), main _ (by rw [if_neg z])⟩
  · have z : n = 10 := by
      have z : ¬ n < 10 := fun z => a7 (nI_lt (b := 10) z (by omega))
      omega
    unfold wpY_event
    dsimp only
    exact br_f a1 (br_f a2 (br_f a3 (br_f a4 (br_f a5 (br_t a6 (br_t (by rw [z]; rfl) ⟨rfl, rq_mk H⟩))))))
