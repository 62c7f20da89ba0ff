/-! the component: a step's test, lengthen, growTo -/
variable {n st w : Nat} {tn : Nat → Nat} {ty va ti sT bo ki re : Nat → Int32}
theorem sq_ki {H : sq_W n st w tn ti ki re} (k : Nat) : ki k = 0 ∨ ki k = 1 ∨ ki k = 2 ∨ ki k = 3 ∨ ki k = 4 := H.2.2.2.2.2.2.1 k
theorem sq_re {H : sq_W n st w tn ti ki re} (k : Nat) : re k = 0 ∨ re k = 1 := H.2.2.2.2.2.2.2 k
theorem sq_kp0 {f e k b : Nat} (h : ki k = 0) : sq_kp va bo ki f e k b = true := by
  unfold sq_kp; rw [h]; rfl
theorem sq_kp1 {f e k b : Nat} (h : ki k = 1) : sq_kp va bo ki f e k b = (decide (e = f) || decide (va b < va e)) := by
  unfold sq_kp; rw [if_pos h]
theorem sq_kp2 {f e k b : Nat} (h : ki k = 2) : sq_kp va bo ki f e k b = (decide (e = f) || decide (va e < va b)) := by
  unfold sq_kp; rw [h, if_neg (by decide), if_pos rfl]
theorem sq_kp3 {f e k b : Nat} (h : ki k = 3) : sq_kp va bo ki f e k b = decide (va e = bo k) := by
  unfold sq_kp; rw [h, if_neg (by decide), if_neg (by decide), if_pos rfl]
theorem sq_kp4 {f e k b : Nat} (h : ki k = 4) : sq_kp va bo ki f e k b = decide (va e = va f) := by
  unfold sq_kp; rw [h, if_neg (by decide), if_neg (by decide), if_neg (by decide), if_pos rfl]
theorem sq_d1 {P : Int32 → Prop} {b : Bool} (h : P (sq_bi b)) (e : b = true) : P 1 := by rw [e] at h; exact h
theorem sq_d0 {P : Int32 → Prop} {b : Bool} (h : P (sq_bi b)) (e : b = false) : P 0 := by rw [e] at h; exact h
theorem sq_dt {p : Prop} {d : Decidable p} (h : p) : decide p = true := decide_eq_true h
theorem sq_df {p : Prop} {d : Decidable p} (h : ¬ p) : decide p = false := decide_eq_false h
theorem xq_s27 {post : Int32 → Prop} {e k b f : Nat} {wa le : Nat → Int32} (H : sq_W n st w tn ti ki re) (he : e < 10) (hk : k < 4) (hb : b < 10) (hf : f < 10) (h : post (sq_bi (sq_kp va bo ki f e k b))) : wX_suits_27 post (nI e) (nI k) (nI b) (nI f) (nI n) (nI st) (nI w) ty va ti sT bo ki re wa le := by
  have ek : (nI k).toNatClampNeg = k := nI_clamp (by omega)
  have ee : (nI e).toNatClampNeg = e := nI_clamp (by omega)
  have eb : (nI b).toNatClampNeg = b := nI_clamp (by omega)
  have ef : (nI f).toNatClampNeg = f := nI_clamp (by omega)
  have vk : vp_in (nI k) 4 := vp_in_nI hk (by omega)
  have ve : vp_in (nI e) 10 := vp_in_nI he (by omega)
  have vb : vp_in (nI b) 10 := vp_in_nI hb (by omega)
  have vf : vp_in (nI f) 10 := vp_in_nI hf (by omega)
  have q1 : nI e = nI f ↔ e = f := nI_eq (by omega) (by omega)
  unfold wX_suits_27
  rw [ek, ee, eb, ef]
  refine ⟨vk, ?_⟩
  rcases sq_ki (H := H) k with c | c | c | c | c
  · refine nm_r c (br_t (by decide) ?_)
    exact sq_d1 h (sq_kp0 c)
  · rw [sq_kp1 c] at h
    refine nm_r c (br_f (by decide) (br_f (by decide) (br_t rfl (br_c (fun q => ?_) (fun q => ⟨ve, vb, br_c (fun q2 => ?_) (fun q2 => ?_)⟩)))))
    · exact sq_d1 h (by rw [decide_eq_true (q1.mp q)]; rfl)
    · exact sq_d0 h (by rw [decide_eq_false (fun z => q (q1.mpr z)), decide_eq_false (fun z => absurd q2 (Int32.not_le.mpr z))]; rfl)
    · exact sq_d1 h (by rw [decide_eq_true (Int32.not_le.mp q2)]; simp)
  · rw [sq_kp2 c] at h
    refine nm_r c (br_f (by decide) (br_f (by decide) (br_f (by decide) (br_t rfl (br_c (fun q => ?_) (fun q => ⟨ve, vb, br_c (fun q2 => ?_) (fun q2 => ?_)⟩))))))
    · exact sq_d1 h (by rw [decide_eq_true (q1.mp q)]; rfl)
    · exact sq_d0 h (by rw [decide_eq_false (fun z => q (q1.mpr z)), decide_eq_false (fun z => absurd q2 (Int32.not_le.mpr z))]; rfl)
    · exact sq_d1 h (by rw [decide_eq_true (Int32.not_le.mp q2)]; simp)
  · rw [sq_kp3 c] at h
    refine nm_r c (br_f (by decide) (br_f (by decide) (br_f (by decide) (br_f (by decide) (br_t rfl ⟨ve, vk, br_c (fun q => ?_) (fun q => ?_)⟩)))))
    · exact sq_d1 h (decide_eq_true q)
    · exact sq_d0 h (decide_eq_false q)
  · rw [sq_kp4 c] at h
    refine nm_r c (br_f (by decide) (br_f (by decide) (br_f (by decide) (br_f (by decide) (br_f (by decide) (br_t rfl ⟨ve, vf, br_c (fun q => ?_) (fun q => ?_)⟩))))))
    · exact sq_d1 h (decide_eq_true q)
    · exact sq_d0 h (decide_eq_false q)
theorem xq_suits {post : Int32 → Prop} {e k b f : Nat} {wa le : Nat → Int32} (H : sq_W n st w tn ti ki re) (he : e < 10) (hk : k < 4) (hb : b < 10) (hf : f < 10) (h : post (sq_bi ((sq_mt ty va sT bo ki) f e k b))) : wpX_suits post (nI n, nI st, nI w, ty, va, ti, sT, bo, ki, re, wa, le) (nI e) (nI k) (nI b) (nI f) := by
  have ek : (nI k).toNatClampNeg = k := nI_clamp (by omega)
  have ee : (nI e).toNatClampNeg = e := nI_clamp (by omega)
  have vk : vp_in (nI k) 4 := vp_in_nI hk (by omega)
  have ve : vp_in (nI e) 10 := vp_in_nI he (by omega)
  unfold wpX_suits
  try dsimp only
  rw [ek, ee]
  unfold sq_mt at h
  refine ⟨vk, br_c (fun q => ?_) (fun q => ⟨vk, ve, br_c (fun q2 => ?_) (fun q2 => ?_)⟩)⟩
  · rw [decide_eq_true q] at h
    exact xq_s27 H he hk hb hf h
  · rw [decide_eq_true q2.symm, Bool.or_true] at h
    exact xq_s27 H he hk hb hf h
  · exact sq_d0 h (by rw [decide_eq_false q, decide_eq_false (fun z => q2 z.symm)]; rfl)
theorem xq_len {post : SX → Prop} {a b ga gb da db : Nat} {wa le : Nat → Int32} (ha : a < 40) (hb : b < 40) (ea : wa a = nI ga) (eb : wa b = nI gb) (la : le a = nI da) (lb : le b = nI db) (h1 : ga < 2 ^ 30) (h2 : da < 2 ^ 30) (h3 : db < 2 ^ 30)
    (h : ∀ wa' le' : Nat → Int32, (∀ i, i ≠ b → wa' i = wa i ∧ le' i = le i) → wa' b = nI (gb + ga) → le' b = nI (sq_ln db ga da) → post (nI n, nI st, nI w, ty, va, ti, sT, bo, ki, re, wa', le')) : wpX_lengthen post (nI n, nI st, nI w, ty, va, ti, sT, bo, ki, re, wa, le) (nI a) (nI b) := by
  have e1 : (nI a).toNatClampNeg = a := nI_clamp (by omega)
  have e2 : (nI b).toNatClampNeg = b := nI_clamp (by omega)
  have va' : vp_in (nI a) 40 := vp_in_nI ha (by omega)
  have vb' : vp_in (nI b) 40 := vp_in_nI hb (by omega)
  unfold wpX_lengthen
  try dsimp only
  rw [e1, e2, ea, eb, la, lb]
  refine ⟨va', br_c (fun q => ?_) (fun q => ⟨vb', va', vb', nm_e ⟨va', vb', br_c (fun q2 => ?_) (fun q2 => ⟨va', vb', nm_e ?_⟩)⟩⟩)⟩
  · have z : ga = 0 := (nI_eq (by omega) (by omega)).mp (q.trans nI_0.symm)
    refine h wa le (fun _ _ => ⟨rfl, rfl⟩) ?_ ?_
    · rw [eb, z]; rfl
    · rw [lb, z]; rfl
  · have z : ga ≠ 0 := fun z => q (by rw [z]; exact nI_0)
    have z2 : da < db := (nI_ltI (by omega) (by omega)).mp q2
    refine h _ le (fun i hi => ⟨pk_un hi, rfl⟩) ?_ ?_
    · rw [pk_us, nI_add]
    · rw [lb]; unfold sq_ln; rw [if_neg z, Nat.max_eq_left (by omega)]
  · have z : ga ≠ 0 := fun z => q (by rw [z]; exact nI_0)
    have z2 : ¬ da < db := fun z => q2 ((nI_ltI (by omega) (by omega)).mpr z)
    refine h _ _ (fun i hi => ⟨pk_un hi, pk_un hi⟩) ?_ ?_
    · rw [pk_us, nI_add]
    · rw [pk_us, nI_1]; unfold sq_ln; rw [if_neg z, Nat.max_eq_right (by omega)]
