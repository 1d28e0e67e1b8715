/-! long division -/
def fd_DI (f g w q : Nat → Int) (d s : Nat) : Prop := f = fd_add w (fd_mul g q) ∧ (∀ j, s + d ≤ j → w j = 0) ∧ fd_L q 5
def fd_ws (w g : Nat → Int) (x : Int) (s : Nat) : Nat → Int := fun k => w k - (if s ≤ k then x * g (k - s) else 0)
def fd_qs (q : Nat → Int) (x : Int) (s : Nat) : Nat → Int := fun k => if k = s then x else q k
theorem fd_DI_step {f g w q : Nat → Int} {d s : Nat} (hg : fd_D g d) (hs : s < 6) (h : fd_DI f g w q d (s + 1)) (hq0 : q s = 0) (hdv : g d ∣ w (s + d)) : fd_DI f g (fd_ws w g (w (s + d) / g d) s) (fd_qs q (w (s + d) / g d) s) d s := by
  obtain ⟨h1, h2, h3⟩ := h
  refine ⟨?_, fun j hj => ?_, fun j hj => ?_⟩
  · have e : fd_qs q (w (s + d) / g d) s = fd_add q (fd_mo (w (s + d) / g d) s) := by
      funext k; simp only [fd_qs, fd_add, fd_mo]
      by_cases hk : k = s
      · rw [if_pos hk, if_pos hk, hk, hq0]; omega
      · rw [if_neg hk, if_neg hk]; omega
    rw [e, fd_mul_add, fd_mul_comm g (fd_mo _ _), fd_mo_mul]
    rw [h1]
    funext k
    have h1k := congrFun h1 k
    simp only [fd_add, fd_ws] at *
    omega
  · simp only [fd_ws]
    rw [if_pos (by omega)]
    by_cases e : j = s + d
    · subst e
      have e2 : s + d - s = d := by omega
      rw [e2, Int.ediv_mul_cancel hdv]; omega
    · rw [h2 j (by omega), hg.2 (j - s) (by omega)]; simp
  · simp only [fd_qs]
    rw [if_neg (by omega)]; exact h3 j hj
theorem fd_DI_no {f g w q : Nat → Int} {d s : Nat} (hg : fd_D g d) (h : fd_DI f g w q d (s + 1)) (hn : ¬ g d ∣ w (s + d)) : ¬ fd_dv g f := by
  intro hdv
  obtain ⟨Q, hQ, e⟩ := hdv
  obtain ⟨h1, h2, h3⟩ := h
  have ew : w = fd_mul g (fd_sub Q q) := by
    rw [fd_mul_sub, e, h1]; funext k; simp only [fd_sub, fd_add]; omega
  have hF : fd_F (fd_sub Q q) := fd_F_sub hQ (fd_L_F h3)
  by_cases hz : fd_sub Q q = fd_z
  · rw [hz, fd_mul_z] at ew
    rw [ew] at hn
    exact hn ⟨0, by simp [fd_z]⟩
  · obtain ⟨e', he'⟩ := fd_D_ex hF hz
    have h5 := fd_D_mul hg he'
    rw [← ew] at h5
    have hle : e' ≤ s := by
      rcases Nat.lt_or_ge s e' with hc | hc
      · exact absurd (h2 (d + e') (by omega)) h5.1
      · exact hc
    have h6 := (fd_top d s g (fd_sub Q q) hg.2 (fd_L_mono he'.2 hle)).1
    rw [← ew, Nat.add_comm] at h6
    exact hn ⟨_, h6⟩
theorem fd_DI_end {f g w q : Nat → Int} {d : Nat} (hg : fd_D g d) (h : fd_DI f g w q d 0) (hw : w ≠ fd_z) : ¬ fd_dv g f := by
  intro hdv
  obtain ⟨Q, hQ, e⟩ := hdv
  obtain ⟨h1, h2, h3⟩ := h
  have ew : w = fd_mul g (fd_sub Q q) := by
    rw [fd_mul_sub, e, h1]; funext k; simp only [fd_sub, fd_add]; omega
  have hF : fd_F (fd_sub Q q) := fd_F_sub hQ (fd_L_F h3)
  by_cases hz : fd_sub Q q = fd_z
  · rw [hz, fd_mul_z] at ew
    exact hw ew
  · obtain ⟨e', he'⟩ := fd_D_ex hF hz
    have h5 := fd_D_mul hg he'
    rw [← ew] at h5
    exact h5.1 (h2 (d + e') (by omega))
theorem fd_DI_0 {f g q : Nat → Int} {d : Nat} (h : fd_DI f g fd_z q d 0) : fd_mul g q = f := by
  rw [h.1]; funext k; simp [fd_add, fd_z]
theorem fd_DI_init {f g : Nat → Int} {d s : Nat} (h : ∀ j, s + d ≤ j → f j = 0) : fd_DI f g f fd_z d s :=
  ⟨by rw [fd_mul_z]; funext k; simp [fd_add, fd_z], h, fun _ _ => rfl⟩
theorem fd_ws_B {w g : Nat → Int} {x : Int} {s M G : Nat} (hw : fd_B w M) (hg : fd_B g G) (hx : x.natAbs ≤ M) : fd_B (fd_ws w g x s) (M * (1 + G)) := by
  intro k
  simp only [fd_ws]
  have h1 := hw k
  have h3 : M ≤ M * (1 + G) := Nat.le_mul_of_pos_right M (by omega)
  by_cases hk : s ≤ k
  · rw [if_pos hk]
    have h2 : (x * g (k - s)).natAbs ≤ M * G := by rw [Int.natAbs_mul]; exact Nat.mul_le_mul hx (hg _)
    rw [Nat.mul_add, Nat.mul_one]
    omega
  · rw [if_neg hk]; omega
theorem fd_ws_0 (w g : Nat → Int) (s : Nat) : fd_ws w g 0 s = w := by
  funext k; simp only [fd_ws]; split <;> simp
theorem fd_ediv_le {a b : Int} (hb : b ≠ 0) (h : b ∣ a) : (a / b).natAbs ≤ a.natAbs := by
  obtain ⟨c, hc⟩ := h
  rw [hc, Int.mul_ediv_cancel_left _ hb, Int.natAbs_mul]
  exact Nat.le_mul_of_pos_left _ (by omega)
theorem fd_isub {a b : Nat} (h : b ≤ a) : nI a - nI b = nI (a - b) := by
  rw [← fd_i_nat, ← fd_i_nat, ← fd_i_nat, fd_i_sub]; congr 1; omega
theorem fd_ineg (s : Nat) (hs : s < 7) : (nI s + (-1) < 0) ↔ s = 0 := by
  have h : ∀ s : Fin 7, (nI s.val + (-1) < 0) ↔ s.val = 0 := by decide
  exact h ⟨s, hs⟩
theorem xs_div90_work {post : Int32 → SX → Prop} {J : Int32 → (Nat → Int32) → (Nat → Int64) → (Nat → Int64) → (Nat → Int64) → (Nat → Int64) → (Nat → Int64) → (Nat → Int64) → Prop} {x3 : Int64} {fc : Int32} {he : Nat → Int32} {re op qu rs wk fo : Nat → Int64} {d s : Nat} (hd : s + d < 6) (H : ∀ t, (∀ j, j ≤ d → t (s + j) = wk (s + j) - qu s * op j) → (∀ j, (j < s ∨ s + d < j) → t j = wk j) → J (nI s + (-1)) he re op qu rs t fo) : ∃ n, wX_divide__work_90 post J (nI d) x3 (nI s) fc n 0 he re op qu rs wk fo := by
  refine fd_fill (fun n x t => wX_divide__work_90 post J (nI d) x3 (nI s) fc n x he re op qu rs t fo) (d + 1) s (fun j => wk (s + j) - qu s * op j) wk (fun n t h1 h2 => ?_) (fun n i t hi h2 hW => ?_)
  · exact br_t (nI_lt (by omega) (by omega)) (nm_e (H t (fun j hj => h1 j (by omega)) (fun j hj => h2 j (by omega))))
  · have e : nI s + nI i = nI (s + i) := nI_add s i
    refine br_f (nI_nlt (by omega) (by omega)) ⟨by rw [e]; exact vp_in_nI (by omega) (by decide), vp_in_nI (by omega) (by decide), vp_in_nI (by omega) (by decide), by rw [e]; exact vp_in_nI (by omega) (by decide), nm_r ?_ (nm_r (nI_1 i) hW)⟩
    rw [e, nI_clamp (by omega), nI_clamp (by omega), nI_clamp (by omega), h2 (s + i) (by omega)]
theorem xs_div52_work {post : Int32 → SX → Prop} {fc : Int32} {he : Nat → Int32} {re op qu rs wk fo : Nat → Int64} {f g : Nat → Int} {d G tt : Nat} (hg : fd_D g d) (hd : d < 6) (hop : fd_R op g) (hG : fd_B g G) (hGs : G ≤ 4611686018427387904)
    (H1 : ∀ T qu w q, fd_R T w → fd_R qu q → fd_DI f g w q d 0 → fd_B w 4611686018427387904 → fd_B q 4611686018427387904 → post 1 (fc, he, re, op, qu, rs, T, fo))
    (H0 : ¬ fd_dv g f → (∃ z, ¬ g d ∣ z) → ∀ T qu, post 0 (fc, he, re, op, qu, rs, T, fo)) :
    ∀ (s M : Nat) (T qu : Nat → Int64) (w q : Nat → Int), s + d ≤ 6 → fd_R T w → fd_R qu q → (∀ j, j < s → q j = 0) → fd_B q 4611686018427387904 → fd_DI f g w q d s → (∀ j, tt + d ≤ j → w j = 0) → fd_B w M → M * (1 + G) ^ (min s tt) ≤ 4611686018427387904 → wX_divide__work_52 post (nI d) (fd_l (g d)) fc (s + 1) (nI s + (-1)) he re op qu rs T fo := by
  intro s
  induction s with
  | zero =>
    intro M T qu w q hsd hT hq hq0 hqB hDI htt hw hM
    refine br_t (by decide) (H1 T qu w q hT hq hDI (fun i => Nat.le_trans (hw i) ?_) hqB)
    simpa using hM
  | succ s ih =>
    intro M T qu w q hsd hT hq hq0 hqB hDI htt hw hM
    rw [fd_m1]
    have hM1 : M ≤ 4611686018427387904 := Nat.le_trans (Nat.le_mul_of_pos_right M (Nat.pow_pos (by omega))) hM
    have hG1 : fd_s (g d) := fd_s_of (hG d) hGs
    have e : nI s + nI d = nI (s + d) := nI_add s d
    have hl : ¬ fd_l (g d) = 0 := fun z => hg.1 ((fd_l_z hG1).mp z)
    have hw1 : fd_s (w (s + d)) := fd_s_of (hw _) hM1
    have eT : T (nI s + nI d).toNatClampNeg = fd_l (w (s + d)) := by rw [e, nI_clamp (by omega), hT _ (by omega)]
    refine br_f (nI_pos (by omega)) ⟨by rw [e]; exact vp_in_nI (by omega) (by decide), hl, ?_⟩
    by_cases hdv : g d ∣ w (s + d)
    · refine br_t (by rw [eT]; exact (fd_l_rem0 hw1 hG1).mpr hdv) ⟨by rw [e]; exact vp_in_nI (by omega) (by decide), hl, vp_in_nI (by omega) (by decide), ?_⟩
      have eq' : vp_updL qu (nI s).toNatClampNeg (T (nI s + nI d).toNatClampNeg / fd_l (g d)) = vp_updL qu s (fd_l (w (s + d) / g d)) := by
        rw [nI_clamp (by omega), eT, fd_l_divx hw1 hG1 hdv]
      refine nm_r eq' (xs_div90_work (by omega) (fun t h1 h2 => ?_))
      have hx : (w (s + d) / g d).natAbs ≤ M := Nat.le_trans (fd_ediv_le hg.1 hdv) (hw _)
      have hDI' := fd_DI_step hg (by omega) hDI (hq0 s (by omega)) hdv
      have hRt : fd_R t (fd_ws w g (w (s + d) / g d) s) := by
        intro k hk
        simp only [fd_ws]
        by_cases hks : s ≤ k
        · rw [if_pos hks]
          by_cases hkd : k ≤ s + d
          · have h3 := h1 (k - s) (by omega)
            have e3 : s + (k - s) = k := by omega
            rw [e3, fd_uLs, hT k hk, hop (k - s) (by omega), fd_l_mul, fd_l_sub] at h3
            exact h3
          · rw [h2 k (by omega), hT k hk, hg.2 (k - s) (by omega)]; simp
        · rw [if_neg hks, h2 k (by omega), hT k hk]; simp
      have hRq : fd_R (vp_updL qu s (fd_l (w (s + d) / g d))) (fd_qs q (w (s + d) / g d) s) := by
        intro k hk
        simp only [fd_qs]
        by_cases hks : k = s
        · rw [if_pos hks, hks, fd_uLs]
        · rw [if_neg hks, fd_uLn hks, hq k hk]
      have hq0' : ∀ j, j < s → fd_qs q (w (s + d) / g d) s j = 0 := fun j hj => by
        simp only [fd_qs]; rw [if_neg (by omega)]; exact hq0 j (by omega)
      have hqB' : fd_B (fd_qs q (w (s + d) / g d) s) 4611686018427387904 := fun j => by
        simp only [fd_qs]
        by_cases hj : j = s
        · rw [if_pos hj]; exact Nat.le_trans hx hM1
        · rw [if_neg hj]; exact hqB j
      by_cases hst : s < tt
      · refine ih (M * (1 + G)) _ _ _ _ (by omega) hRt hRq hq0' hqB' hDI' (fun j hj => ?_) (fd_ws_B hw hG hx) ?_
        · exact hDI'.2.1 j (by omega)
        · have e4 : min (s + 1) tt = min s tt + 1 := by omega
          rw [e4, Nat.pow_succ] at hM
          rw [Nat.mul_assoc, Nat.mul_comm (1 + G)]; exact hM
      · have h0 : w (s + d) = 0 := htt _ (by omega)
        have e5 : fd_ws w g (w (s + d) / g d) s = w := by rw [h0, Int.zero_ediv]; exact fd_ws_0 w g s
        rw [e5] at hRt hDI'
        refine ih M _ _ _ _ (by omega) hRt hRq hq0' hqB' hDI' htt hw ?_
        have e4 : min (s + 1) tt = min s tt := by omega
        rw [e4] at hM; exact hM
    · exact br_f (by rw [eT]; exact fun z => hdv ((fd_l_rem0 hw1 hG1).mp z)) (H0 (fd_DI_no hg hDI hdv) ⟨_, hdv⟩ T qu)
theorem xs_divide_work {post : Int32 → SX → Prop} {fc : Int32} {he : Nat → Int32} {re op qu rs wk fo : Nat → Int64} {f g : Nat → Int} {d G M tt : Nat} (hg : fd_D g d) (hd : d < 6) (hop : fd_R op g) (hG : fd_B g G) (hGs : G ≤ 4611686018427387904) (hf : fd_R wk f) (hL : fd_L f 5) (htt : ∀ j, tt + d ≤ j → f j = 0) (hB : fd_B f M) (hM : M * (1 + G) ^ (min (6 - d) tt) ≤ 4611686018427387904)
    (H1 : ∀ T qu w q, fd_R T w → fd_R qu q → fd_DI f g w q d 0 → fd_B w 4611686018427387904 → fd_B q 4611686018427387904 → post 1 (fc, he, re, op, qu, rs, T, fo))
    (H0 : ¬ fd_dv g f → (∃ z, ¬ g d ∣ z) → ∀ T qu, post 0 (fc, he, re, op, qu, rs, T, fo)) : wpX_divide__work post (fc, he, re, op, qu, rs, wk, fo) (nI d) := by
  have eo : op (nI d).toNatClampNeg = fd_l (g d) := by rw [nI_clamp (by omega), hop d hd]
  have hl : ¬ fd_l (g d) = 0 := fun z => hg.1 ((fd_l_z (fd_s_of (hG d) hGs)).mp z)
  refine br_t (nI_pos' (by omega)) ⟨vp_in_nI hd (by decide), ?_⟩
  rw [eo]
  refine br_f hl (fd_fill (fun n x t => wX_divide__work_26 post (nI d) (fd_l (g d)) fc n x he re op t rs wk fo) 6 0 (fun _ => 0) qu (fun n t h1 _ => ?_) (fun n i t hi _ hW => ?_))
  · refine br_t (nI_le (Nat.le_refl 6) (by decide)) (nm_r (e' := nI (6 - d) + (-1)) ?_ ⟨6 - d + 1, ?_⟩)
    · have e6 : 6 - d = (5 - d) + 1 := by omega
      rw [e6, fd_m1]; exact fd_isub (a := 5) (by omega)
    · exact xs_div52_work (qu := qu) (wk := wk) hg hd hop hG hGs H1 H0 (6 - d) M wk t f fd_z (by omega) hf (fun i hi => by have := h1 i hi; rw [Nat.zero_add] at this; rw [this]; exact fd_l_0.symm) (fun _ _ => rfl) (fun _ => by simp [fd_z]) (fd_DI_init (fun j hj => hL j (by omega))) htt hB hM
  · exact br_f (nI_ge (b := 6) hi (by decide)) ⟨vp_in_nI hi (by decide), nm_r (by rw [nI_clamp (by omega), Nat.zero_add]) (nm_r (nI_1 i) hW)⟩
theorem xs_divide_neg_work {post : Int32 → SX → Prop} {fc : Int32} {he : Nat → Int32} {re op qu rs wk fo : Nat → Int64} (H0 : post 0 (fc, he, re, op, qu, rs, wk, fo)) : wpX_divide__work post (fc, he, re, op, qu, rs, wk, fo) (-1) :=
  br_f (by decide) (br_t rfl H0)
theorem xs_div90_result {post : Int32 → SX → Prop} {J : Int32 → (Nat → Int32) → (Nat → Int64) → (Nat → Int64) → (Nat → Int64) → (Nat → Int64) → (Nat → Int64) → (Nat → Int64) → Prop} {x3 : Int64} {fc : Int32} {he : Nat → Int32} {re op qu rs wk fo : Nat → Int64} {d s : Nat} (hd : s + d < 6) (H : ∀ t, (∀ j, j ≤ d → t (s + j) = re (s + j) - qu s * op j) → (∀ j, (j < s ∨ s + d < j) → t j = re j) → J (nI s + (-1)) he t op qu rs wk fo) : ∃ n, wX_divide__result_90 post J (nI d) x3 (nI s) fc n 0 he re op qu rs wk fo := by
  refine fd_fill (fun n x t => wX_divide__result_90 post J (nI d) x3 (nI s) fc n x he t op qu rs wk fo) (d + 1) s (fun j => re (s + j) - qu s * op j) re (fun n t h1 h2 => ?_) (fun n i t hi h2 hW => ?_)
  · exact br_t (nI_lt (by omega) (by omega)) (nm_e (H t (fun j hj => h1 j (by omega)) (fun j hj => h2 j (by omega))))
  · have e : nI s + nI i = nI (s + i) := nI_add s i
    refine br_f (nI_nlt (by omega) (by omega)) ⟨by rw [e]; exact vp_in_nI (by omega) (by decide), vp_in_nI (by omega) (by decide), vp_in_nI (by omega) (by decide), by rw [e]; exact vp_in_nI (by omega) (by decide), nm_r ?_ (nm_r (nI_1 i) hW)⟩
    rw [e, nI_clamp (by omega), nI_clamp (by omega), nI_clamp (by omega), h2 (s + i) (by omega)]
theorem xs_div52_result {post : Int32 → SX → Prop} {fc : Int32} {he : Nat → Int32} {re op qu rs wk fo : Nat → Int64} {f g : Nat → Int} {d G tt : Nat} (hg : fd_D g d) (hd : d < 6) (hop : fd_R op g) (hG : fd_B g G) (hGs : G ≤ 4611686018427387904)
    (H1 : ∀ T qu w q, fd_R T w → fd_R qu q → fd_DI f g w q d 0 → fd_B w 4611686018427387904 → fd_B q 4611686018427387904 → post 1 (fc, he, T, op, qu, rs, wk, fo))
    (H0 : ¬ fd_dv g f → (∃ z, ¬ g d ∣ z) → ∀ T qu, post 0 (fc, he, T, op, qu, rs, wk, fo)) :
    ∀ (s M : Nat) (T qu : Nat → Int64) (w q : Nat → Int), s + d ≤ 6 → fd_R T w → fd_R qu q → (∀ j, j < s → q j = 0) → fd_B q 4611686018427387904 → fd_DI f g w q d s → (∀ j, tt + d ≤ j → w j = 0) → fd_B w M → M * (1 + G) ^ (min s tt) ≤ 4611686018427387904 → wX_divide__result_52 post (nI d) (fd_l (g d)) fc (s + 1) (nI s + (-1)) he T op qu rs wk fo := by
  intro s
  induction s with
  | zero =>
    intro M T qu w q hsd hT hq hq0 hqB hDI htt hw hM
    refine br_t (by decide) (H1 T qu w q hT hq hDI (fun i => Nat.le_trans (hw i) ?_) hqB)
    simpa using hM
  | succ s ih =>
    intro M T qu w q hsd hT hq hq0 hqB hDI htt hw hM
    rw [fd_m1]
    have hM1 : M ≤ 4611686018427387904 := Nat.le_trans (Nat.le_mul_of_pos_right M (Nat.pow_pos (by omega))) hM
    have hG1 : fd_s (g d) := fd_s_of (hG d) hGs
    have e : nI s + nI d = nI (s + d) := nI_add s d
    have hl : ¬ fd_l (g d) = 0 := fun z => hg.1 ((fd_l_z hG1).mp z)
    have hw1 : fd_s (w (s + d)) := fd_s_of (hw _) hM1
    have eT : T (nI s + nI d).toNatClampNeg = fd_l (w (s + d)) := by rw [e, nI_clamp (by omega), hT _ (by omega)]
    refine br_f (nI_pos (by omega)) ⟨by rw [e]; exact vp_in_nI (by omega) (by decide), hl, ?_⟩
    by_cases hdv : g d ∣ w (s + d)
    · refine br_t (by rw [eT]; exact (fd_l_rem0 hw1 hG1).mpr hdv) ⟨by rw [e]; exact vp_in_nI (by omega) (by decide), hl, vp_in_nI (by omega) (by decide), ?_⟩
      have eq' : vp_updL qu (nI s).toNatClampNeg (T (nI s + nI d).toNatClampNeg / fd_l (g d)) = vp_updL qu s (fd_l (w (s + d) / g d)) := by
        rw [nI_clamp (by omega), eT, fd_l_divx hw1 hG1 hdv]
      refine nm_r eq' (xs_div90_result (by omega) (fun t h1 h2 => ?_))
      have hx : (w (s + d) / g d).natAbs ≤ M := Nat.le_trans (fd_ediv_le hg.1 hdv) (hw _)
      have hDI' := fd_DI_step hg (by omega) hDI (hq0 s (by omega)) hdv
      have hRt : fd_R t (fd_ws w g (w (s + d) / g d) s) := by
        intro k hk
        simp only [fd_ws]
        by_cases hks : s ≤ k
        · rw [if_pos hks]
          by_cases hkd : k ≤ s + d
          · have h3 := h1 (k - s) (by omega)
            have e3 : s + (k - s) = k := by omega
            rw [e3, fd_uLs, hT k hk, hop (k - s) (by omega), fd_l_mul, fd_l_sub] at h3
            exact h3
          · rw [h2 k (by omega), hT k hk, hg.2 (k - s) (by omega)]; simp
        · rw [if_neg hks, h2 k (by omega), hT k hk]; simp
      have hRq : fd_R (vp_updL qu s (fd_l (w (s + d) / g d))) (fd_qs q (w (s + d) / g d) s) := by
        intro k hk
        simp only [fd_qs]
        by_cases hks : k = s
        · rw [if_pos hks, hks, fd_uLs]
        · rw [if_neg hks, fd_uLn hks, hq k hk]
      have hq0' : ∀ j, j < s → fd_qs q (w (s + d) / g d) s j = 0 := fun j hj => by
        simp only [fd_qs]; rw [if_neg (by omega)]; exact hq0 j (by omega)
      have hqB' : fd_B (fd_qs q (w (s + d) / g d) s) 4611686018427387904 := fun j => by
        simp only [fd_qs]
        by_cases hj : j = s
        · rw [if_pos hj]; exact Nat.le_trans hx hM1
        · rw [if_neg hj]; exact hqB j
      by_cases hst : s < tt
      · refine ih (M * (1 + G)) _ _ _ _ (by omega) hRt hRq hq0' hqB' hDI' (fun j hj => ?_) (fd_ws_B hw hG hx) ?_
        · exact hDI'.2.1 j (by omega)
        · have e4 : min (s + 1) tt = min s tt + 1 := by omega
          rw [e4, Nat.pow_succ] at hM
          rw [Nat.mul_assoc, Nat.mul_comm (1 + G)]; exact hM
      · have h0 : w (s + d) = 0 := htt _ (by omega)
        have e5 : fd_ws w g (w (s + d) / g d) s = w := by rw [h0, Int.zero_ediv]; exact fd_ws_0 w g s
        rw [e5] at hRt hDI'
        refine ih M _ _ _ _ (by omega) hRt hRq hq0' hqB' hDI' htt hw ?_
        have e4 : min (s + 1) tt = min s tt := by omega
        rw [e4] at hM; exact hM
    · exact br_f (by rw [eT]; exact fun z => hdv ((fd_l_rem0 hw1 hG1).mp z)) (H0 (fd_DI_no hg hDI hdv) ⟨_, hdv⟩ T qu)
theorem xs_divide_result {post : Int32 → SX → Prop} {fc : Int32} {he : Nat → Int32} {re op qu rs wk fo : Nat → Int64} {f g : Nat → Int} {d G M tt : Nat} (hg : fd_D g d) (hd : d < 6) (hop : fd_R op g) (hG : fd_B g G) (hGs : G ≤ 4611686018427387904) (hf : fd_R re f) (hL : fd_L f 5) (htt : ∀ j, tt + d ≤ j → f j = 0) (hB : fd_B f M) (hM : M * (1 + G) ^ (min (6 - d) tt) ≤ 4611686018427387904)
    (H1 : ∀ T qu w q, fd_R T w → fd_R qu q → fd_DI f g w q d 0 → fd_B w 4611686018427387904 → fd_B q 4611686018427387904 → post 1 (fc, he, T, op, qu, rs, wk, fo))
    (H0 : ¬ fd_dv g f → (∃ z, ¬ g d ∣ z) → ∀ T qu, post 0 (fc, he, T, op, qu, rs, wk, fo)) : wpX_divide__result post (fc, he, re, op, qu, rs, wk, fo) (nI d) := by
  have eo : op (nI d).toNatClampNeg = fd_l (g d) := by rw [nI_clamp (by omega), hop d hd]
  have hl : ¬ fd_l (g d) = 0 := fun z => hg.1 ((fd_l_z (fd_s_of (hG d) hGs)).mp z)
  refine br_t (nI_pos' (by omega)) ⟨vp_in_nI hd (by decide), ?_⟩
  rw [eo]
  refine br_f hl (fd_fill (fun n x t => wX_divide__result_26 post (nI d) (fd_l (g d)) fc n x he re op t rs wk fo) 6 0 (fun _ => 0) qu (fun n t h1 _ => ?_) (fun n i t hi _ hW => ?_))
  · refine br_t (nI_le (Nat.le_refl 6) (by decide)) (nm_r (e' := nI (6 - d) + (-1)) ?_ ⟨6 - d + 1, ?_⟩)
    · have e6 : 6 - d = (5 - d) + 1 := by omega
      rw [e6, fd_m1]; exact fd_isub (a := 5) (by omega)
    · exact xs_div52_result (qu := qu) (re := re) hg hd hop hG hGs H1 H0 (6 - d) M re t f fd_z (by omega) hf (fun i hi => by have := h1 i hi; rw [Nat.zero_add] at this; rw [this]; exact fd_l_0.symm) (fun _ _ => rfl) (fun _ => by simp [fd_z]) (fd_DI_init (fun j hj => hL j (by omega))) htt hB hM
  · exact br_f (nI_ge (b := 6) hi (by decide)) ⟨vp_in_nI hi (by decide), nm_r (by rw [nI_clamp (by omega), Nat.zero_add]) (nm_r (nI_1 i) hW)⟩
theorem xs_divide_neg_result {post : Int32 → SX → Prop} {fc : Int32} {he : Nat → Int32} {re op qu rs wk fo : Nat → Int64} (H0 : post 0 (fc, he, re, op, qu, rs, wk, fo)) : wpX_divide__result post (fc, he, re, op, qu, rs, wk, fo) (-1) :=
  br_f (by decide) (br_t rfl H0)
theorem xs_makeOperand {post : SX → Prop} {fc : Int32} {he : Nat → Int32} {re op qu rs wk fo : Nat → Int64} {t m l : Int} (ht : fd_k t) (hm : fd_k m) (hl : fd_k l) (H : ∀ o', fd_R o' (fd_q t m l) → post (fc, he, re, o', qu, rs, wk, fo)) : wpX_makeOperand post (fc, he, re, op, qu, rs, wk, fo) (fd_i t) (fd_i m) (fd_i l) := by
  unfold wpX_makeOperand
  dsimp only
  refine xs_clear_operand (fun z hz => ?_)
  intro a ea b eb c ec
  refine H c (fun i hi => ?_)
  subst ec eb ea
  match i, hi with
  | 0, _ => rw [fd_uLs, fd_i_l hl]; rfl
  | 1, _ => rw [fd_uLn (by decide), fd_uLs, fd_i_l hm]; rfl
  | 2, _ => rw [fd_uLn (by decide), fd_uLn (by decide), fd_uLs, fd_i_l ht]; rfl
  | (k + 3), hi => rw [fd_uLn (by omega), fd_uLn (by omega), fd_uLn (by omega)]; show z (k + 3) = _; rw [hz _ hi, fd_q_L t m l (k + 3) (by omega), fd_l_0]
theorem xs_divideRest {post : Int32 → SX → Prop} {fc : Int32} {he : Nat → Int32} {re op qu rs wk fo : Nat → Int64} {f g : Nat → Int} {d G M tt : Nat} (hg : fd_D g d) (hd : d < 6) (hop : fd_R op g) (hG : fd_B g G) (hGs : G ≤ 4611686018427387904) (hf : fd_R rs f) (hL : fd_L f 5) (htt : ∀ j, tt + d ≤ j → f j = 0) (hB : fd_B f M) (hM : M * (1 + G) ^ (min (6 - d) tt) ≤ 4611686018427387904)
    (H1 : ∀ qu rs wk f', fd_R rs f' → fd_L f' 5 → fd_mul g f' = f → post 1 (fc, he, re, op, qu, rs, wk, fo))
    (H0 : ¬ fd_dv g f → ∀ qu wk, post 0 (fc, he, re, op, qu, rs, wk, fo)) : wpX_divideRest post (fc, he, re, op, qu, rs, wk, fo) (nI d) := by
  unfold wpX_divideRest
  dsimp only
  refine xs_copy_rest_work (fun wk1 hwk => ?_)
  dsimp only
  refine xs_divide_work hg hd hop hG hGs (fun i hi => by rw [hwk i hi, hf i hi]) hL htt hB hM (fun T qu1 w q hT hq hDI hw _ => ?_) (fun hn _ T qu1 => ?_)
  · dsimp only
    refine br_f (by decide) (xs_deg_work hT hw (Nat.le_refl _) (fun j hj => hDI.2.1 j (by omega)) (fun hz => ?_) (fun d' hd' hD' => ?_))
    · refine br_t (by decide) (xs_copy_quotient_rest (fun rs1 hrs => ?_))
      dsimp only
      rw [hz] at hDI
      exact H1 qu1 rs1 T q (fun i hi => by rw [hrs i hi, hq i hi]) hDI.2.2 (fd_DI_0 hDI)
    · exact br_f (nI_pos (by omega)) (H0 (fd_DI_end hg hDI (fd_D_nz hD')) qu1 T)
  · dsimp only
    exact br_t rfl (H0 hn qu1 T)
