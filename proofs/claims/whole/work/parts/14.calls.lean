/-! the relation, and the calls that don't search -/
def i_Rel (_ : Nat) (u : SX) (v : SY) : Prop := ∃ (n st w : Nat) (tn : Nat → Nat) (ty va ti sT bo ki re wa le wy be : Nat → Int32), sq_W n st w tn ti ki re ∧ u = (nI n, nI st, nI w, ty, va, ti, sT, bo, ki, re, wa, le) ∧ v = (nI n, nI st, nI w, ty, va, ti, sT, bo, ki, re, wy, be)
theorem i_up {k : Nat} {u : SX} {v : SY} (h : i_Rel k u v) : i_Rel (k + 4) u v := h
theorem rq_mk {k n st w : Nat} {tn : Nat → Nat} {ty va ti sT bo ki re wa le wy be : Nat → Int32} (H : sq_W n st w tn ti ki re) : i_Rel k (nI n, nI st, nI w, ty, va, ti, sT, bo, ki, re, wa, le) (nI n, nI st, nI w, ty, va, ti, sT, bo, ki, re, wy, be) := ⟨n, st, w, tn, ty, va, ti, sT, bo, ki, re, wa, le, wy, be, H, rfl, rfl⟩
theorem i_vc0 : wpX_init (fun u => wpY_init (fun v => i_Rel 0 u v)) := by
  intro a ea b eb
  cases eb.trans ea.symm
  exact rq_mk (n := 0) (st := 1) (w := 10) (tn := fun _ => 0) ⟨by omega, by omega, by omega, fun i hi => absurd hi (Nat.not_lt_zero i), fun i j _ hj => absurd hj (Nat.not_lt_zero j), fun i hi => absurd hi (Nat.not_lt_zero i), fun i => Or.inl rfl, fun i => Or.inl rfl⟩
theorem i_vc_begin {k : Nat} {u : SX} {v : SY} (I : i_Rel k u v) (hk : k + 4 ≤ 2048) : wpX_begin (fun u' => wpY_begin (fun v' => i_Rel (k + 4) u' v') v) u := by
  obtain ⟨n, st, w, tn, ty, va, ti, sT, bo, ki, re, wa, le, wy, be, H, rfl, rfl⟩ := I
  obtain ⟨h1, h2, h3, h4, h5, h6, h7, h8⟩ := H
  exact rq_mk (k := k + 4) (n := n) (st := 0) (w := w) (tn := tn) ⟨h1, by omega, h3, h4, h5, h6, h7, h8⟩
theorem i_vc_restart {k : Nat} {u : SX} {v : SY} (I : i_Rel k u v) (hk : k + 4 ≤ 2048) : wpX_restart (fun u' => wpY_restart (fun v' => i_Rel (k + 4) u' v') v) u := by
  obtain ⟨n, st, w, tn, ty, va, ti, sT, bo, ki, re, wa, le, wy, be, H, rfl, rfl⟩ := I
  obtain ⟨h1, h2, h3, h4, h5, h6, h7, h8⟩ := H
  exact rq_mk (k := k + 4) (n := 0) (st := st) (w := w) (tn := tn) ⟨by omega, h2, h3, fun i hi => absurd hi (Nat.not_lt_zero i), fun i j _ hj => absurd hj (Nat.not_lt_zero j), fun i hi => absurd hi (Nat.not_lt_zero i), h7, h8⟩
theorem i_vc_events {k : Nat} {u : SX} {v : SY} (I : i_Rel k u v) (hk : k + 4 ≤ 2048) : wpX_events (fun r => wpY_events (fun r' => r' = r ∧ i_Rel (k + 4) u v) v) u := by
  obtain ⟨n, st, w, tn, ty, va, ti, sT, bo, ki, re, wa, le, wy, be, H, rfl, rfl⟩ := I
  exact ⟨rfl, rq_mk H⟩
theorem i_vc_window {k : Nat} {u : SX} {v : SY} (I : i_Rel k u v) (hk : k + 4 ≤ 2048) (v1 : Int32) : wpX_window (fun r u' => wpY_window (fun r' v' => r' = r ∧ i_Rel (k + 4) u' v') v v1) u v1 := by
  obtain ⟨n, st, w, tn, ty, va, ti, sT, bo, ki, re, wa, le, wy, be, H, rfl, rfl⟩ := I
  unfold wpX_window wpY_window
  dsimp only
  refine br_c (fun a => br_t a ⟨rfl, rq_mk H⟩) (fun a => br_c (fun b => br_f a (br_t b ?_)) (fun b => br_f a (br_f b ⟨rfl, rq_mk H⟩)))
  obtain ⟨j, hj, rfl⟩ := nI_of a
  have c : j ≤ 40 := (nI_leI (b := 40) hj (by omega)).mp b
  obtain ⟨h1, h2, h3, h4, h5, h6, h7, h8⟩ := H
  exact ⟨rfl, rq_mk (w := j) ⟨h1, h2, c, h4, h5, h6, h7, h8⟩⟩
variable {n st w : Nat} {tn : Nat → Nat} {ty va ti sT bo ki re : Nat → Int32}
theorem yq_any {post : Int32 → SY → Prop} {v1 v2 v3 : Int32} {wy be : Nat → Int32} (h : ∀ z0 : Int32, wY_step_26 post v1 v2 v3 z0 (nI n) (nI st) (nI w) ty va ti sT bo ki re wy be) : wpY_step post (nI n, nI st, nI w, ty, va, ti, sT, bo, ki, re, wy, be) v1 v2 v3 := by
  unfold wpY_step wY_step_9 wY_step_25 wY_step_21
  dsimp only
  exact br_c (fun _ => br_c (fun _ => h 0) (fun _ => br_c (fun _ => h 0) (fun _ => h 1))) (fun _ => br_c (fun _ => h 1) (fun _ => br_c (fun _ => h 0) (fun _ => br_c (fun _ => h 0) (fun _ => h 1))))
theorem yq_good {post : Int32 → SY → Prop} {v1 v2 : Int32} {c : Nat} {wy be : Nat → Int32} (hc : c ≤ 4 ∨ (8 ≤ c ∧ c ≤ 12)) (h : wY_step_26 post v1 v2 (nI c) 1 (nI n) (nI st) (nI w) ty va ti sT bo ki re wy be) : wpY_step post (nI n, nI st, nI w, ty, va, ti, sT, bo, ki, re, wy, be) v1 v2 (nI c) := by
  unfold wpY_step wY_step_9 wY_step_25 wY_step_21
  dsimp only
  refine br_f (nI_pos (by omega)) (br_c (fun _ => h) (fun q => ?_))
  have z : ¬ c ≤ 4 := fun z => q (nI_le (b := 4) z (by omega))
  exact br_f (nI_nlt (b := 8) (by omega) (by omega)) (br_f (nI_nlt (a := 12) (by omega) (by omega)) h)
theorem yq_badv {post : Int32 → SY → Prop} {v1 v2 v3 : Int32} {wy be : Nat → Int32} (hb : v3 < 0 ∨ ∃ c, c < 2 ^ 31 ∧ v3 = nI c ∧ ¬ (c ≤ 4 ∨ (8 ≤ c ∧ c ≤ 12))) (h : wY_step_26 post v1 v2 v3 0 (nI n) (nI st) (nI w) ty va ti sT bo ki re wy be) : wpY_step post (nI n, nI st, nI w, ty, va, ti, sT, bo, ki, re, wy, be) v1 v2 v3 := by
  unfold wpY_step wY_step_9 wY_step_25 wY_step_21
  dsimp only
  rcases hb with hb | ⟨c, hc, rfl, hn⟩
  · refine br_t hb (br_t ?_ h)
    rw [Int32.lt_iff_toInt_lt] at hb ⊢
    have e1 : (0 : Int32).toInt = 0 := by decide
    have e2 : (8 : Int32).toInt = 8 := by decide
    omega
  · refine br_f (nI_pos (by omega)) (br_f (nI_ge (a := 4) (by omega) (by omega)) (br_c (fun _ => h) (fun q => br_t ?_ h)))
    have z : ¬ c < 8 := fun z => q (nI_lt (b := 8) z (by omega))
    exact nI_lt (a := 12) (by omega) (by omega)
theorem yq_26b {post : Int32 → SY → Prop} {v1 v2 v3 z0 : Int32} {wy be : Nat → Int32} (hb : v1 < 0 ∨ 4 < v1 ∨ v2 < 0 ∨ ¬ v2 ≤ 9 ∨ z0 = 0) (h : post (-1) (nI n, nI st, nI w, ty, va, ti, sT, bo, ki, re, wy, be)) : wY_step_26 post v1 v2 v3 z0 (nI n) (nI st) (nI w) ty va ti sT bo ki re wy be := by
  unfold wY_step_26
  refine br_c (fun _ => h) (fun a => br_c (fun _ => h) (fun b => br_c (fun _ => h) (fun c => br_c (fun _ => h) (fun d => br_c (fun _ => h) (fun e => ?_)))))
  rcases hb with hb | hb | hb | hb | hb
  · exact absurd hb a
  · exact absurd hb b
  · exact absurd hb c
  · exact absurd (Int32.not_le.mp hb) d
  · exact absurd hb e
theorem i_vc_step {k : Nat} {u : SX} {v : SY} (I : i_Rel k u v) (hk : k + 4 ≤ 2048) (v1 : Int32) (v2 : Int32) (v3 : Int32) : wpX_step (fun r u' => wpY_step (fun r' v' => r' = r ∧ i_Rel (k + 4) u' v') v v1 v2 v3) u v1 v2 v3 := by
  obtain ⟨n, st, w, tn, ty, va, ti, sT, bo, ki, re, wa, le, wy, be, H, rfl, rfl⟩ := I
  have hst : st ≤ 4 := H.2.1
  unfold wpX_step
  dsimp only
  have bad : (v1 < 0 ∨ 4 < v1 ∨ v2 < 0 ∨ ¬ v2 ≤ 9) → wpY_step (fun r' v' => r' = (-1) ∧ i_Rel (k + 4) (nI n, nI st, nI w, ty, va, ti, sT, bo, ki, re, wa, le) v') (nI n, nI st, nI w, ty, va, ti, sT, bo, ki, re, wy, be) v1 v2 v3 := by
    intro hb
    refine yq_any (fun z0 => yq_26b ?_ ⟨rfl, rq_mk H⟩)
    rcases hb with hb | hb | hb | hb
    · exact Or.inl hb
    · exact Or.inr (Or.inl hb)
    · exact Or.inr (Or.inr (Or.inl hb))
    · exact Or.inr (Or.inr (Or.inr (Or.inl hb)))
  have bad3 : (v3 < 0 ∨ ∃ c, c < 2 ^ 31 ∧ v3 = nI c ∧ ¬ (c ≤ 4 ∨ (8 ≤ c ∧ c ≤ 12))) → wpY_step (fun r' v' => r' = (-1) ∧ i_Rel (k + 4) (nI n, nI st, nI w, ty, va, ti, sT, bo, ki, re, wa, le) v') (nI n, nI st, nI w, ty, va, ti, sT, bo, ki, re, wy, be) v1 v2 v3 := by
    intro hb
    exact yq_badv hb (yq_26b (Or.inr (Or.inr (Or.inr (Or.inr rfl)))) ⟨rfl, rq_mk H⟩)
  refine br_c (fun a => bad (Or.inl a)) (fun a1 => br_c (fun a => bad (Or.inr (Or.inl a))) (fun a2 => br_c (fun a => bad (Or.inr (Or.inr (Or.inl a)))) (fun a3 => br_c (fun a4 => ?_) (fun a => bad (Or.inr (Or.inr (Or.inr a)))))))
  refine br_c (fun a => bad3 (Or.inl a)) (fun a5 => ?_)
  obtain ⟨c, hc, rfl⟩ := nI_of a5
  refine br_c (fun a6 => ?_) (fun a => bad3 (Or.inr ⟨c, hc, rfl, ?_⟩))
  · have c16 : c < 16 := (nI_ltI (b := 16) hc (by omega)).mp a6
    have e8 : nI c - nI c / 8 * 8 = nI (c % 8) := pk_rem (d := 8) hc (by omega) (by omega)
    have d8 : nI c / 8 = nI (c / 8) := pk_div (d := 8) hc (by omega) (by omega)
    refine ⟨by decide, nm_r e8 (br_c (fun a7 => ?_) (fun a => bad3 (Or.inr ⟨c, hc, rfl, ?_⟩)))⟩
    · have c4 : c % 8 ≤ 4 := (nI_leI (b := 4) (by omega) (by omega)).mp a7
      have good : c ≤ 4 ∨ (8 ≤ c ∧ c ≤ 12) := by omega
      refine br_c (fun a8 => ?_) (fun a8 => ?_)
      · have st4 : st < 4 := (nI_ltI (b := 4) (by omega) (by omega)).mp a8
        have vs : vp_in (nI st) 4 := vp_in_nI st4 (by omega)
        have es : (nI st).toNatClampNeg = st := nI_clamp (by omega)
        rw [es, d8]
        refine ⟨vs, nm_e ⟨vs, nm_e ⟨vs, nm_e ⟨by decide, vs, nm_e (nm_r (nI_1 st) ?_)⟩⟩⟩⟩
        refine yq_good good ?_
        have fin : ∀ z0 : Int32, vp_nar .boolean z0 = nI (c / 8) → wY_step_117 (fun r' v' => r' = nI (st + 1) ∧ i_Rel (k + 4) (nI n, nI (st + 1), nI w, ty, va, ti, upd sT st v1, upd bo st v2, upd ki st (nI (c % 8)), upd re st (nI (c / 8)), wa, le) v') z0 (nI st) (nI n) (nI st) (nI w) ty va ti (upd sT st v1) (upd bo st v2) (upd ki st (nI (c % 8))) re wy be := by
          intro z0 ez
          unfold wY_step_117
          rw [es, ez]
          refine ⟨vs, nm_e (nm_r (nI_1 st) ⟨rfl, rq_mk (tn := tn) ?_⟩)⟩
          obtain ⟨h1, h2, h3, h4, h5, h6, h7, h8⟩ := H
          refine ⟨h1, by omega, h3, h4, h5, h6, fun i => ?_, fun i => ?_⟩
          · by_cases q : i = st
            · subst q
              rw [pk_us]
              have z : c % 8 = 0 ∨ c % 8 = 1 ∨ c % 8 = 2 ∨ c % 8 = 3 ∨ c % 8 = 4 := by omega
              rcases z with z | z | z | z | z
              · rw [z]; exact Or.inl rfl
              · rw [z]; exact Or.inr (Or.inl rfl)
              · rw [z]; exact Or.inr (Or.inr (Or.inl rfl))
              · rw [z]; exact Or.inr (Or.inr (Or.inr (Or.inl rfl)))
              · rw [z]; exact Or.inr (Or.inr (Or.inr (Or.inr rfl)))
            · rw [pk_un q]; exact h7 i
          · by_cases q : i = st
            · subst q
              rw [pk_us]
              have z : c / 8 = 0 ∨ c / 8 = 1 := by omega
              rcases z with z | z
              · rw [z]; exact Or.inl rfl
              · rw [z]; exact Or.inr rfl
            · rw [pk_un q]; exact h8 i
        have nf : ¬ nI st = 4 := fun z => by
          have := (nI_eq (b := 4) (show st < 2 ^ 31 by omega) (by omega)).mp z
          omega
        unfold wY_step_26
        rw [es, e8]
        refine br_f a1 (br_f a2 (br_f a3 (br_f (Int32.not_lt.mpr a4) (br_f (by decide) (br_f nf ⟨vs, nm_e ⟨vs, nm_e ⟨by decide, vs, nm_e (br_c (fun a9 => fin 0 ?_) (fun a9 => fin 1 ?_))⟩⟩⟩)))))
        · have z : c ≤ 7 := (nI_leI (b := 7) (by omega) (by omega)).mp a9
          rw [show c / 8 = 0 from by omega]; rfl
        · have z : ¬ c ≤ 7 := fun z => a9 (nI_le (b := 7) z (by omega))
          rw [show c / 8 = 1 from by omega]; rfl
      · have st4 : st = 4 := by
          have z : ¬ st < 4 := fun z => a8 (nI_lt (b := 4) z (by omega))
          omega
        refine yq_good good ?_
        unfold wY_step_26
        exact br_f a1 (br_f a2 (br_f a3 (br_f (Int32.not_lt.mpr a4) (br_f (by decide) (br_t (by rw [st4]; rfl) ⟨rfl, rq_mk H⟩)))))
    · have z : ¬ c % 8 ≤ 4 := fun z => a (nI_le (b := 4) z (by omega))
      omega
  · have z : ¬ c < 16 := fun z => a (nI_lt (b := 16) z (by omega))
    omega
