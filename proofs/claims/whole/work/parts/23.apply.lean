/-! apply -/
theorem fd_mul_Bn {f g : Nat → Int} {A C : Nat} (hg : fd_B g C) (n : Nat) : ∀ f : Nat → Int, fd_B f A → (fd_mul f g n).natAbs ≤ (n + 1) * (A * C) := by
  induction n with
  | zero =>
    intro f hf
    rw [fd_mul, Int.natAbs_mul]
    have := Nat.mul_le_mul (hf 0) (hg 0)
    omega
  | succ n ih =>
    intro f hf
    rw [fd_mul]
    have h1 : (f 0 * g (n + 1)).natAbs ≤ A * C := by rw [Int.natAbs_mul]; exact Nat.mul_le_mul (hf 0) (hg (n + 1))
    have h2 := ih (fun i => f (i + 1)) (fun i => hf (i + 1))
    have e : (n + 1 + 1) * (A * C) = (n + 1) * (A * C) + A * C := by rw [Nat.add_mul (n + 1) 1, Nat.one_mul]
    rw [e]
    omega
theorem fd_mul_H {f g : Nat → Int} (hf : fd_H0 f) (hg : fd_H0 g) : fd_B (fd_mul f g) 4611686018427387904 ∧ fd_L (fd_mul f g) 10 := by
  have hL := (fd_top 5 5 f g hf.2 hg.2).2
  refine ⟨fun i => ?_, hL⟩
  by_cases hi : i ≤ 10
  · have h1 := fd_mul_Bn (f := f) (A := 20) (C := 20) (fd_H0_B hg) i f (fd_H0_B hf)
    have h2 : (i + 1) * (20 * 20) ≤ 11 * (20 * 20) := Nat.mul_le_mul_right _ (by omega)
    omega
  · rw [hL i (by omega)]; simp
theorem fd_DI_u {f g w q w' q' : Nat → Int} {d : Nat} (hg : fd_D g d) (h : fd_DI f g w q d 0) (h' : fd_DI f g w' q' d 0) : w = w' := by
  have e : fd_sub w w' = fd_mul g (fd_sub q' q) := by
    rw [fd_mul_sub]; funext i
    have a1 := congrFun h.1 i
    have a2 := congrFun h'.1 i
    simp only [fd_sub, fd_add] at *
    omega
  have hF : fd_F (fd_sub q' q) := fd_F_sub (fd_L_F h'.2.2) (fd_L_F h.2.2)
  by_cases hz : fd_sub q' q = fd_z
  · rw [hz, fd_mul_z] at e
    exact fd_sub_z e
  · obtain ⟨b, hb⟩ := fd_D_ex hF hz
    have h5 := fd_D_mul hg hb
    rw [← e] at h5
    exact absurd (by simp only [fd_sub]; rw [h.2.1 (d + b) (by omega), h'.2.1 (d + b) (by omega)]; rfl) h5.1
theorem fd_quo_b {f g q : Nat → Int} (hf : fd_H0 f) (hg : fd_F g) (hz : g ≠ fd_z) (hq : fd_F q) (e : fd_mul g q = f) : fd_B q 4611686018427387904 ∧ fd_L q 5 := by
  by_cases hfz : f = fd_z
  · rw [hfz] at e
    have hqz : q = fd_z := (fd_dom hg hq e).resolve_left hz
    rw [hqz]; exact ⟨fun i => by simp [fd_z], fun _ _ => rfl⟩
  · obtain ⟨h1, h2⟩ := fd_dv_bL ⟨hf.1, hf.2, hfz⟩ hq ⟨g, hg, by rw [fd_mul_comm]; exact e⟩
    exact ⟨fd_B_mono h1 (by decide), h2⟩
def fd_AO (o : Nat) (he : Nat → Int32) (d : Nat) (f g : Nat → Int) (r : Int32) (he' : Nat → Int32) : Prop :=
  match o with
  | 0 => fd_K he d (fd_add f g) r he'
  | 1 => fd_K he d (fd_sub f g) r he'
  | 2 => fd_K he d (fd_mul f g) r he'
  | 3 => ∃ G, fd_GC f g G ∧ fd_K he d G r he'
  | 4 => ((g = fd_z ∨ ¬ fd_dv g f) ∧ r = -1002 ∧ he' = he) ∨ (g ≠ fd_z ∧ ∃ q, fd_F q ∧ fd_mul g q = f ∧ fd_K he d q r he')
  | _ => ((¬ ∃ e, fd_D g e ∧ (g e = 1 ∨ g e = -1)) ∧ r = -1002 ∧ he' = he) ∨ (∃ e w q, fd_D g e ∧ (g e = 1 ∨ g e = -1) ∧ fd_DI f g w q e 0 ∧ fd_K he d w r he')
theorem fd_AO_u {o : Nat} {he h1 h2 : Nat → Int32} {d : Nat} {f g : Nat → Int} {r1 r2 : Int32} (hg : fd_F g) (a : fd_AO o he d f g r1 h1) (b : fd_AO o he d f g r2 h2) : r2 = r1 ∧ h1 = h2 := by
  match o, a, b with
  | 0, a, b => exact fd_K_u a b
  | 1, a, b => exact fd_K_u a b
  | 2, a, b => exact fd_K_u a b
  | 3, ⟨G, x1, x2⟩, ⟨G', y1, y2⟩ =>
    rw [← fd_GC_u x1 y1] at y2
    exact fd_K_u x2 y2
  | 4, a, b =>
    rcases a with ⟨x1, x2, x3⟩ | ⟨x1, q, x2, x3, x4⟩
    · rcases b with ⟨y1, y2, y3⟩ | ⟨y1, q', y2, y3, y4⟩
      · exact ⟨by rw [x2, y2], by rw [x3, y3]⟩
      · rcases x1 with x1 | x1
        · exact absurd x1 y1
        · exact absurd ⟨q', y2, y3⟩ x1
    · rcases b with ⟨y1, y2, y3⟩ | ⟨y1, q', y2, y3, y4⟩
      · rcases y1 with y1 | y1
        · exact absurd y1 x1
        · exact absurd ⟨q, x2, x3⟩ y1
      · rw [← fd_cancel hg x1 x2 y2 (by rw [x3, y3])] at y4
        exact fd_K_u x4 y4
  | (n + 5), a, b =>
    rcases a with ⟨x1, x2, x3⟩ | ⟨e, w, q, x1, x2, x3, x4⟩
    · rcases b with ⟨y1, y2, y3⟩ | ⟨e', w', q', y1, y2, y3, y4⟩
      · exact ⟨by rw [x2, y2], by rw [x3, y3]⟩
      · exact absurd ⟨e', y1, y2⟩ x1
    · rcases b with ⟨y1, y2, y3⟩ | ⟨e', w', q', y1, y2, y3, y4⟩
      · exact absurd ⟨e, x1, x2⟩ y1
      · have ee := fd_D_u x1 y1
        subst ee
        rw [← fd_DI_u x1 x3 y3] at y4
        exact fd_K_u x4 y4
theorem fd_AO_ok {o : Nat} {he h1 : Nat → Int32} {d : Nat} {f g : Nat → Int} {r1 : Int32} (hok : fd_ok he) (a : fd_AO o he d f g r1 h1) : fd_ok h1 := by
  match o, a with
  | 0, a => exact fd_K_ok hok a
  | 1, a => exact fd_K_ok hok a
  | 2, a => exact fd_K_ok hok a
  | 3, ⟨G, x1, x2⟩ => exact fd_K_ok hok x2
  | 4, a =>
    rcases a with ⟨x1, x2, x3⟩ | ⟨x1, q, x2, x3, x4⟩
    · rw [x3]; exact hok
    · exact fd_K_ok hok x4
  | (n + 5), a =>
    rcases a with ⟨x1, x2, x3⟩ | ⟨e, w, q, x1, x2, x3, x4⟩
    · rw [x3]; exact hok
    · exact fd_K_ok hok x4
section
variable {fc : Int32} {he : Nat → Int32} {re op qu rs wk fo : Nat → Int64}
theorem xs_addTimes {post : SX → Prop} {f g : Nat → Int} {s : Int} {x : Int32} (hx : x.toInt64 = fd_l s) (hf : fd_R re f) (hg : fd_R op g) (H : ∀ re, fd_R re (fun i => f i + s * g i) → post (fc, he, re, op, qu, rs, wk, fo)) : wpX_addOperandTimes post (fc, he, re, op, qu, rs, wk, fo) x := by
  refine fd_fill (fun n y t => wX_addOperandTimes_2 post x fc n y he t op qu rs wk fo) 6 0 (fun i => fd_l (f i + s * g i)) re (fun n t h1 _ => ?_) (fun n i t hi h2 hW => ?_)
  · exact br_t (nI_le (Nat.le_refl 6) (by decide)) (H t (fun i hi => by have := h1 i hi; rwa [Nat.zero_add] at this))
  · refine br_f (nI_ge (b := 6) hi (by decide)) ⟨vp_in_nI hi (by decide), vp_in_nI hi (by decide), vp_in_nI hi (by decide), nm_r ?_ (nm_r (nI_1 i) hW)⟩
    rw [nI_clamp (by omega), h2 i (by omega), hf i hi, hg i hi, hx, fd_l_mul, fd_l_add, Nat.zero_add]
theorem xs_ap166 {post : Int32 → SX → Prop} {d : Nat} {f : Nat → Int} (hd : d < 4) (hR : fd_R re f) (hB : fd_B f 4611686018427387904) (hL : fd_L f 5) (H : ∀ r he', fd_K he d f r he' → post r (fc, he', re, op, qu, rs, wk, fo)) : wX_apply_166 post (nI d) fc he re op qu rs wk fo := by
  unfold wX_apply_166
  exact xs_keepResult hd hR hB hL H
theorem xs_makeQuotient {post : Int32 → SX → Prop} {f g : Nat → Int} (hf : fd_H0 f) (hg : fd_H0 g) (hre : fd_R re f) (hop : fd_R op g) (H0 : (g = fd_z ∨ ¬ fd_dv g f) → ∀ re qu, post 0 (fc, he, re, op, qu, rs, wk, fo)) (H1 : g ≠ fd_z → ∀ q re qu, fd_F q → fd_mul g q = f → fd_R re q → post 1 (fc, he, re, op, qu, rs, wk, fo)) : wpX_makeQuotient post (fc, he, re, op, qu, rs, wk, fo) := by
  unfold wpX_makeQuotient
  dsimp only
  refine xs_deg_operand hop (fd_H0_B hg) (by decide) hg.2 (fun hz => ?_) (fun d hd hD => ?_)
  · refine xs_divide_neg_result ?_
    dsimp only
    exact br_t rfl (H0 (Or.inl hz) re qu)
  · have hM : 20 * (1 + 20) ^ (min (6 - d) 6) ≤ 4611686018427387904 := by
      have h3 : (1 + 20) ^ (min (6 - d) 6) ≤ (1 + 20) ^ 6 := Nat.pow_le_pow_right (by decide) (by omega)
      exact Nat.le_trans (Nat.mul_le_mul_left _ h3) (by decide)
    refine xs_divide_result hD hd hop (fd_H0_B hg) (by decide) hre hf.2 (tt := 6) (fun j hj => hf.2 j (by omega)) (fd_H0_B hf) hM (fun T qu1 w q hT hq hDI hw _ => ?_) (fun hn _ T qu1 => ?_)
    · dsimp only
      refine br_f (by decide) (xs_deg_result hT hw (Nat.le_refl _) (fun j hj => hDI.2.1 j (by omega)) (fun hz => br_t (by decide) ?_) (fun d' hd' hD' => br_f (nI_pos (by omega)) (H0 (Or.inr (fd_DI_end hD hDI (fd_D_nz hD'))) T qu1)))
      refine xs_copy_quotient_result (fun re1 hre1 => ?_)
      dsimp only
      rw [hz] at hDI
      exact H1 (fd_D_nz hD) q re1 qu1 (fd_L_F hDI.2.2) (fd_DI_0 hDI) (fun i hi => by rw [hre1 i hi, hq i hi])
    · dsimp only
      exact br_t rfl (H0 (Or.inr hn) T qu1)
theorem xs_rest24 {post : Int32 → SX → Prop} {f g : Nat → Int} {e : Nat} (hf : fd_H0 f) (hg : fd_H0 g) (hre : fd_R re f) (hop : fd_R op g) (hD : fd_D g e) (hu : g e = 1 ∨ g e = -1) (H1 : ∀ w q re qu, fd_DI f g w q e 0 → fd_B w 4611686018427387904 → fd_R re w → post 1 (fc, he, re, op, qu, rs, wk, fo)) : wX_makeRest_24 post fc he re op qu rs wk fo := by
  unfold wX_makeRest_24
  refine xs_deg_operand hop (fd_H0_B hg) (by decide) hg.2 (fun hz => absurd hz (fd_D_nz hD)) (fun d hd hD' => ?_)
  have ee := fd_D_u hD' hD
  subst ee
  have hM : 20 * (1 + 20) ^ (min (6 - d) 6) ≤ 4611686018427387904 := by
    have h3 : (1 + 20) ^ (min (6 - d) 6) ≤ (1 + 20) ^ 6 := Nat.pow_le_pow_right (by decide) (by omega)
    exact Nat.le_trans (Nat.mul_le_mul_left _ h3) (by decide)
  refine xs_divide_result hD hd hop (fd_H0_B hg) (by decide) hre hf.2 (tt := 6) (fun j hj => hf.2 j (by omega)) (fd_H0_B hf) hM (fun T qu1 w q hT hq hDI hw _ => ?_) (fun _ hn T qu1 => ?_)
  · dsimp only
    exact ⟨rfl, H1 w q T qu1 hDI hw hT⟩
  · obtain ⟨z, hz⟩ := hn
    exfalso
    rcases hu with h | h
    · exact hz (by rw [h]; exact ⟨z, by simp⟩)
    · exact hz (by rw [h]; exact ⟨-z, by simp⟩)
theorem fd_l_m1 : fd_l (-1) = -1 := by decide
theorem xs_makeRest {post : Int32 → SX → Prop} {f g : Nat → Int} (hf : fd_H0 f) (hg : fd_H0 g) (hre : fd_R re f) (hop : fd_R op g) (H0 : (¬ ∃ e, fd_D g e ∧ (g e = 1 ∨ g e = -1)) → ∀ re qu, post 0 (fc, he, re, op, qu, rs, wk, fo)) (H1 : ∀ e w q re qu, fd_D g e → (g e = 1 ∨ g e = -1) → fd_DI f g w q e 0 → fd_B w 4611686018427387904 → fd_R re w → post 1 (fc, he, re, op, qu, rs, wk, fo)) : wpX_makeRest post (fc, he, re, op, qu, rs, wk, fo) := by
  unfold wpX_makeRest
  dsimp only
  refine xs_leadOf_operand hop (fd_H0_B hg) (by decide) hg.2 (fun hz => ?_) (fun e he' hD => ?_)
  · refine br_f (by decide) (br_f (by decide) (H0 (fun h => ?_) re qu))
    obtain ⟨e, hD, _⟩ := h
    exact fd_D_nz hD hz
  · have hs : fd_s (g e) := fd_s_of (fd_H0_B hg e) (by decide)
    have l1 : fd_l (g e) = 1 ↔ g e = 1 := by rw [← fd_l_1]; exact fd_l_eq hs (fd_s_lit (by decide))
    have l2 : fd_l (g e) = -1 ↔ g e = -1 := by rw [← fd_l_m1]; exact fd_l_eq hs (fd_s_lit (by decide))
    refine br_c (fun z => xs_rest24 hf hg hre hop hD (Or.inl (l1.mp z)) (fun w q re qu => H1 e w q re qu hD (Or.inl (l1.mp z)))) (fun z => br_c (fun y => xs_rest24 hf hg hre hop hD (Or.inr (l2.mp y)) (fun w q re qu => H1 e w q re qu hD (Or.inr (l2.mp y)))) (fun y => H0 (fun h => ?_) re qu))
    obtain ⟨e', hD', hu⟩ := h
    rw [fd_D_u hD' hD] at hu
    rcases hu with h | h
    · exact z (l1.mpr h)
    · exact y (l2.mpr h)
theorem fd_m1_le5 {d : Nat} (hd : d < 6) : (-1 : Int32) + nI d ≤ 5 ∧ nI d + (-1 : Int32) ≤ 5 := by
  have hk : ∀ d : Fin 6, (-1 : Int32) + nI d.val ≤ 5 ∧ nI d.val + (-1 : Int32) ≤ 5 := by decide
  exact hk ⟨d, hd⟩
theorem xs_apply {post : Int32 → SX → Prop} {o d a b : Nat} (ho : o < 6) (hd : d < 4) (ha : a < 4) (hb : b < 4) (hok : fd_ok he) (H : ∀ r he', fd_AO o he d (fd_reg he a) (fd_reg he b) r he' → ∀ fc re op qu rs wk fo, post r (fc, he', re, op, qu, rs, wk, fo)) : wpX_apply post (fc, he, re, op, qu, rs, wk, fo) (nI o) (nI d) (nI a) (nI b) := by
  have hf := fd_reg_H0 hok ha
  have hg := fd_reg_H0 hok hb
  unfold wpX_apply
  dsimp only
  refine br_f (nI_pos (by omega)) (br_f (nI_nlt (b := o) (a := 5) (by omega) (by omega)) (xs_reg hd (br_f (by decide) (xs_reg ha (br_f (by decide) (xs_reg hb (br_f (by decide) (xs_load_result ha (fun re1 hre1 => ?_)))))))))
  dsimp only
  refine xs_load_operand hb (fun op1 hop1 => ?_)
  dsimp only
  have hre := fd_reg_R hre1
  have hop := fd_reg_R hop1
  refine br_f (nI_pos (by omega)) ?_
  match o, ho, H with
  | 0, _, H =>
    refine br_f (by decide) (br_t (by decide) (xs_addTimes (s := 1) (by decide) hre hop (fun re2 hR => ?_)))
    dsimp only
    have e : (fun i => fd_reg he a i + 1 * fd_reg he b i) = fd_add (fd_reg he a) (fd_reg he b) := by funext i; simp [fd_add]
    rw [e] at hR
    exact xs_ap166 hd hR (fun i => by have := hf.1 i; have := hg.1 i; simp only [fd_add]; omega) (fun j hj => by simp only [fd_add]; rw [hf.2 j hj, hg.2 j hj]; rfl) (fun r he' hK => H r he' hK _ _ _ _ _ _ _)
  | 1, _, H =>
    refine br_f (by decide) (br_f (by decide) (br_t (by decide) (xs_addTimes (s := -1) (by decide) hre hop (fun re2 hR => ?_))))
    dsimp only
    have e : (fun i => fd_reg he a i + -1 * fd_reg he b i) = fd_sub (fd_reg he a) (fd_reg he b) := by funext i; simp only [fd_sub]; omega
    rw [e] at hR
    exact xs_ap166 hd hR (fun i => by have := hf.1 i; have := hg.1 i; simp only [fd_sub]; omega) (fun j hj => by simp only [fd_sub]; rw [hf.2 j hj, hg.2 j hj]; rfl) (fun r he' hK => H r he' hK _ _ _ _ _ _ _)
  | 2, _, H =>
    refine br_f (by decide) (br_f (by decide) (br_f (by decide) (br_t (by decide) ?_)))
    obtain ⟨hB, hL10⟩ := fd_mul_H hf hg
    have hgo : fd_L (fd_mul (fd_reg he a) (fd_reg he b)) 5 → wpX_multiplyByOperand (fun u => match u with | (f1, f2, f3, f4, f5, f6, f7, f8) => (wX_apply_166 post (nI d) f1 f2 f3 f4 f5 f6 f7 f8)) (fc, he, re1, op1, qu, rs, wk, fo) := fun h5 => by
      refine xs_mulOp hre hf.2 hop (fun re2 wk2 hR => ?_)
      dsimp only
      exact xs_ap166 hd hR hB h5 (fun r he' hK => H r he' hK _ _ _ _ _ _ _)
    refine xs_deg_result hre (fd_H0_B hf) (by decide) hf.2 (fun hz => ?_) (fun d1 hd1 hD1 => ?_)
    · have h5 : fd_L (fd_mul (fd_reg he a) (fd_reg he b)) 5 := by rw [hz, fd_z_mul]; exact fun _ _ => rfl
      exact xs_deg_operand hop (fd_H0_B hg) (by decide) hg.2 (fun _ => br_t (by decide) (hgo h5)) (fun d2 hd2 _ => br_t (fd_m1_le5 hd2).1 (hgo h5))
    · refine xs_deg_operand hop (fd_H0_B hg) (by decide) hg.2 (fun hz => br_t (fd_m1_le5 hd1).2 (hgo (by rw [hz, fd_mul_z]; exact fun _ _ => rfl))) (fun d2 hd2 hD2 => ?_)
      have hD := fd_D_mul hD1 hD2
      rw [nI_add]
      by_cases hs : d1 + d2 ≤ 5
      · exact br_t (nI_le (b := 5) hs (by decide)) (hgo (fd_L_mono hD.2 hs))
      · exact br_f (nI_ge (a := 5) (by omega) (by omega)) (H _ he (Or.inl ⟨fun h0 => hs (fd_D_le hD h0.2), rfl, rfl⟩) _ _ _ _ _ _ _)
  | 3, _, H =>
    refine br_f (by decide) (br_f (by decide) (br_f (by decide) (br_f (by decide) (br_t (by decide) (xs_common ha hb hok hre (fun G hGC fc re op qu rs wk fo hR => ?_))))))
    dsimp only
    obtain ⟨hB, h5⟩ := fd_GC_b hf hg hGC
    exact xs_ap166 hd hR (fd_B_mono hB (by decide)) h5 (fun r he' hK => H r he' ⟨G, hGC, hK⟩ _ _ _ _ _ _ _)
  | 4, _, H =>
    refine br_f (by decide) (br_f (by decide) (br_f (by decide) (br_f (by decide) (br_f (by decide) (br_t (by decide) (xs_makeQuotient hf hg hre hop (fun hn re qu => ?_) (fun hz q re qu hq e hR => ?_)))))))
    · dsimp only
      exact br_t rfl (H _ he (Or.inl ⟨hn, rfl, rfl⟩) _ _ _ _ _ _ _)
    · dsimp only
      obtain ⟨hB, h5⟩ := fd_quo_b hf (fd_L_F hg.2) hz hq e
      exact br_f (by decide) (xs_ap166 hd hR hB h5 (fun r he' hK => H r he' (Or.inr ⟨hz, q, hq, e, hK⟩) _ _ _ _ _ _ _))
  | 5, _, H =>
    refine br_t (by decide) (xs_makeRest hf hg hre hop (fun hn re qu => ?_) (fun e w q re qu hD hu hDI hB hR => ?_))
    · dsimp only
      exact br_t rfl (H _ he (Or.inl ⟨hn, rfl, rfl⟩) _ _ _ _ _ _ _)
    · dsimp only
      have he5 : e ≤ 5 := fd_D_le hD hg.2
      exact br_f (by decide) (xs_ap166 hd hR hB (fun j hj => hDI.2.1 j (by omega)) (fun r he' hK => H r he' (Or.inr ⟨e, w, q, hD, hu, hDI, hK⟩) _ _ _ _ _ _ _))
end
