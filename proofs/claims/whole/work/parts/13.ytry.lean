/-! the reference's content and its search for factors -/
theorem fd_cont_u {f : Nat → Int} {c c' : Nat} (h : fd_cont f c) (h' : fd_cont f c') : c = c' := by
  rcases Nat.lt_trichotomy c c' with h1 | h1 | h1
  · exact absurd h'.2.2.1 (h.2.2.2 c' h1 h'.2.1)
  · exact h1
  · exact absurd h.2.2.1 (h'.2.2.2 c h1 h.2.1)
section
variable {cn ot : Int32} {rg : Nat → Int32} {md wh td yr yq pt kp : Nat → Int64} {dg : Nat → Int32}
theorem ys_big42 {post : Int64 → Prop} {J4 : Int64 → Int32 → Prop} {x3 : Int32} : ∀ (k s g a : Nat), s + k = 100 → a + s ≤ 100 → g ≤ 1000 → J4 (fd_l (Nat.gcd g a : Nat)) (x3 + 1) → wY_bigCommon_42 post J4 x3 cn ot rg md wh td yr yq pt kp dg (k + 1) (fd_l (g : Int)) (fd_l (a : Int)) (nI s) := by
  intro k
  induction k with
  | zero =>
    intro s g a hs ha hg h
    have e : s = 100 := by omega
    have e2 : a = 0 := by omega
    subst e e2
    rw [Nat.gcd_zero_right] at h
    exact br_t (nI_le (a := 100) (b := 100) (Nat.le_refl _) (by decide)) (nm_e h)
  | succ k ih =>
    intro s g a hs ha hg h
    refine br_f (nI_ge (b := 100) (by omega) (by decide)) ?_
    by_cases ha0 : a = 0
    · subst ha0
      exact br_t (by decide) (nm_r (nI_1 s) (ih (s + 1) g 0 (by omega) (by omega) hg h))
    · have hz : ¬ fd_l (a : Int) = 0 := fun z => by
        have := (fd_l_z (fd_s_lit (by omega))).mp z
        omega
      refine br_f hz (br_f hz ⟨hz, nm_r (e' := fd_l ((g % a : Nat) : Int)) ?_ (nm_r (nI_1 s) (ih (s + 1) a (g % a) (by omega) ?_ (by omega) ?_))⟩)
      · rw [fd_l_rem (fd_s_lit (by omega)) (fd_s_lit (by omega))]; rfl
      · have := Nat.mod_lt g (Nat.pos_of_ne_zero ha0)
        omega
      · rw [Nat.gcd_comm a, ← Nat.gcd_rec, Nat.gcd_comm]; exact h
theorem ys_bigCommon {post : Int64 → Prop} {f : Nat → Int} (hR : fd_R wh f) (h0 : fd_H0 f) (hz : f ≠ fd_z) (H : ∀ c, fd_cont f c → post (fd_l (c : Int))) : wpY_bigCommon post (cn, ot, rg, md, wh, td, yr, yq, pt, kp, dg) := by
  have key : ∀ (k i g : Nat), i + k = 6 → g ≤ 20 → (∀ j, j < i → (g : Int) ∣ f j) → (∀ c : Nat, (∀ j, j < i → (c : Int) ∣ f j) → c ∣ g) → wY_bigCommon_4 post cn ot rg md wh td yr yq pt kp dg (k + 1) (fd_l (g : Int)) (nI i) := by
    intro k
    induction k with
    | zero =>
      intro i g hi hg h1 h2
      have e : i = 6 := by omega
      subst e
      have hall : fd_all g f := fd_all6 h0.2 h1
      have hg1 : 1 ≤ g := by
        rcases Nat.eq_zero_or_pos g with e | e
        · subst e
          exact absurd (funext fun i => Int.zero_dvd.mp (hall i)) hz
        · exact e
      refine br_t (nI_le (Nat.le_refl 6) (by decide)) (br_t ?_ (H g ⟨hg1, hg, hall, fun c' h3 h4 h5 => ?_⟩))
      · exact (fd_l_le (a := 1) (b := g) (fd_s_lit (by decide)) (fd_s_lit (by omega))).mpr (by omega)
      · have := Nat.le_of_dvd hg1 (h2 c' (fun j _ => h5 j))
        omega
    | succ k ih =>
      intro i g hi hg h1 h2
      have hi6 : i < 6 := by omega
      have hfs : fd_s (f i) := fd_s_of (fd_H0_B h0 i) (by decide)
      have hb := h0.1 i
      have hgo : ∀ x : Int64, x = fd_l ((f i).natAbs : Int) → ∃ n42, wY_bigCommon_42 post (wY_bigCommon_4 post cn ot rg md wh td yr yq pt kp dg (k + 1)) (nI i) cn ot rg md wh td yr yq pt kp dg n42 (fd_l (g : Int)) x 0 := by
        intro x hx
        rw [hx]
        refine ⟨100 + 1, ys_big42 100 0 g (f i).natAbs (by omega) (by omega) (by omega) ?_⟩
        rw [nI_1]
        refine ih (i + 1) _ (by omega) ?_ (fun j hj => ?_) (fun c hc => ?_)
        · rcases Nat.eq_zero_or_pos g with e | e
          · subst e; rw [Nat.gcd_zero_left]; omega
          · exact Nat.le_trans (Nat.gcd_le_left _ e) hg
        · by_cases e : j = i
          · rw [e, Int.ofNat_dvd_left]; exact Nat.gcd_dvd_right _ _
          · have h3 := h1 j (by omega)
            rw [Int.ofNat_dvd_left] at h3 ⊢
            exact Nat.dvd_trans (Nat.gcd_dvd_left _ _) h3
        · refine Nat.dvd_gcd (h2 c (fun j hj => hc j (by omega))) ?_
          have h3 := hc i (by omega)
          rw [Int.ofNat_dvd_left] at h3
          exact h3
      refine br_f (nI_ge (b := 6) hi6 (by decide)) ⟨vp_in_nI hi6 (by decide), ?_⟩
      rw [nI_clamp (by omega), hR i hi6]
      have hle : (0 ≤ fd_l (f i)) ↔ 0 ≤ f i := by
        rw [← fd_l_0]; exact fd_l_le (fd_s_lit (by decide)) hfs
      refine br_c (fun z => ⟨vp_in_nI hi6 (by decide), fun x ex => hgo x ?_⟩) (fun z => ⟨vp_in_nI hi6 (by decide), fun x ex => hgo x ?_⟩)
      · have := hle.mp z
        rw [ex]; congr 1; omega
      · have : ¬ 0 ≤ f i := fun w => z (hle.mpr w)
        rw [ex, fd_l_neg]; congr 1; omega
  exact ⟨7, key 6 0 0 (by omega) (by omega) (fun j hj => absurd hj (Nat.not_lt_zero j)) (fun c _ => ⟨0, rfl⟩)⟩
theorem ys_prim32 {post : SY → Prop} {f F' : Nat → Int} {k : Int} (hk : k ≠ 0) (hks : fd_s k) (hR : fd_R wh f) (h0 : fd_H0 f) (hF : f = fd_sm k F') (H : ∀ t, fd_R t F' → post (cn, ot, rg, md, t, td, yr, yq, pt, kp, dg)) : ∃ n, wY_makePrimitive_32 post (fd_l k) cn ot n 0 rg md wh td yr yq pt kp dg := by
  have hl : ¬ fd_l k = 0 := fun z => hk ((fd_l_z hks).mp z)
  refine fd_fill (fun n x t => wY_makePrimitive_32 post (fd_l k) cn ot n x rg md t td yr yq pt kp dg) 6 0 (fun i => fd_l (F' i)) wh (fun n t h1 _ => ?_) (fun n i t hi h2 hW => ?_)
  · exact br_t (nI_le (Nat.le_refl 6) (by decide)) (H t (fun i hi => by have := h1 i hi; rwa [Nat.zero_add] at this))
  · refine br_f (nI_ge (b := 6) hi (by decide)) ⟨vp_in_nI hi (by decide), br_f hl ⟨hl, vp_in_nI hi (by decide), nm_r ?_ (nm_r (nI_1 i) hW)⟩⟩
    have hs : fd_s (f i) := fd_s_of (fd_H0_B h0 i) (by decide)
    have hfi : k * F' i = f i := by rw [hF]; rfl
    rw [nI_clamp (by omega), h2 i (by omega), hR i hi, fd_l_divx hs hks ⟨F' i, hfi.symm⟩, Nat.zero_add, ← hfi, Int.mul_ediv_cancel_left _ hk]
theorem ys_makePrimitive {post : SY → Prop} {f : Nat → Int} (hR : fd_R wh f) (h0 : fd_H0 f) (Hz : f = fd_z → post (cn, ot, rg, md, wh, td, yr, yq, pt, kp, dg)) (H : ∀ t F k d, fd_R t F → k ≠ 0 → f = fd_sm k F → fd_H F → fd_pr F → fd_D F d → 0 < F d → post (cn, ot, rg, md, t, td, yr, yq, pt, kp, dg)) : wpY_makePrimitive post (cn, ot, rg, md, wh, td, yr, yq, pt, kp, dg) := by
  unfold wpY_makePrimitive
  dsimp only
  refine ys_deg hR (fd_H0_B h0) (by decide) h0.2 (fun hz => br_f (by decide) (Hz hz)) (fun d hd hD => br_t (nI_pos' (by omega)) (ys_bigCommon hR h0 (fd_D_nz hD) (fun c hc => ⟨vp_in_nI hd (by decide), ?_⟩)))
  have hs : fd_s (f d) := fd_s_of (fd_H0_B h0 d) (by decide)
  have hck : fd_s (c : Int) := fd_s_lit (by have := hc.2.1; omega)
  have hle : (0 ≤ fd_l (f d)) ↔ 0 ≤ f d := by
    rw [← fd_l_0]; exact fd_l_le (fd_s_lit (by decide)) hs
  rw [nI_clamp (by omega), hR d hd]
  by_cases hsg : 0 ≤ f d
  · refine br_t (hle.mpr hsg) ?_
    obtain ⟨F, hF⟩ := fd_div_all (f := f) (m := (c : Int)) hc.2.2.1
    obtain ⟨g1, g2, g3, g4, g5⟩ := fd_cont_pr h0 hc hD (c : Int) (by rw [if_pos hsg]) F hF
    exact ys_prim32 g1 hck hR h0 hF (fun t ht => H t F _ d ht g1 hF g2 g3 g4 g5)
  · refine br_f (fun z => hsg (hle.mp z)) (nm_r (fd_l_neg _) ?_)
    obtain ⟨F, hF⟩ := fd_div_all (f := f) (m := -(c : Int)) (fun i => Int.neg_dvd.mpr (hc.2.2.1 i))
    obtain ⟨g1, g2, g3, g4, g5⟩ := fd_cont_pr h0 hc hD (-(c : Int)) (by rw [if_neg hsg]) F hF
    exact ys_prim32 g1 ⟨by have := hck.1; have := hck.2; omega, by have := hck.1; have := hck.2; omega⟩ hR h0 hF (fun t ht => H t F _ d ht g1 hF g2 g3 g4 g5)
end
theorem fd_ac1 {n : Nat} (h : n < 820) : (1 + (nI n / 41)).toInt64 = fd_l (1 + ((n / 41 : Nat) : Int)) := by
  have hk : ∀ a : Fin 820, (1 + (nI a.val / 41)).toInt64 = fd_l (1 + ((a.val / 41 : Nat) : Int)) := by decide +kernel
  exact hk ⟨n, h⟩
theorem fd_ac2 {n : Nat} (h : n < 820) : ((nI n - nI n / 41 * 41) - 20).toInt64 = fd_l (((n % 41 : Nat) : Int) - 20) := by
  have hk : ∀ a : Fin 820, ((nI a.val - nI a.val / 41 * 41) - 20).toInt64 = fd_l (((a.val % 41 : Nat) : Int) - 20) := by decide +kernel
  exact hk ⟨n, h⟩
def fd_PL (F : Nat → Int) (ac : Nat) (f : Nat → Int) (L : List (Nat → Int)) : Prop := fd_P1 F f L (1 + ((ac / 41 : Nat) : Int)) (((ac % 41 : Nat) : Int) - 20)
theorem fd_PL_next {F f : Nat → Int} {L : List (Nat → Int)} {ac : Nat} (h : fd_PL F ac f L) (hn : ¬ fd_dv (fd_q 0 (1 + ((ac / 41 : Nat) : Int)) (((ac % 41 : Nat) : Int) - 20)) f) : fd_PL F (ac + 1) f L := by
  have h1 := fd_P1_next h hn
  unfold fd_PL
  by_cases e : ac % 41 = 40
  · have e1 : (ac + 1) / 41 = ac / 41 + 1 := by omega
    have e2 : (ac + 1) % 41 = 0 := by omega
    rw [e1, e2]
    rw [e] at h1
    have h2 := fd_P1_row (a := 1 + ((ac / 41 : Nat) : Int)) h1
    have e3 : 1 + ((ac / 41 : Nat) : Int) + 1 = 1 + ((ac / 41 + 1 : Nat) : Int) := by omega
    rw [e3] at h2
    exact h2
  · have e1 : (ac + 1) / 41 = ac / 41 := by omega
    have e2 : (ac + 1) % 41 = ac % 41 + 1 := by omega
    rw [e1, e2]
    have e3 : ((ac % 41 : Nat) : Int) - 20 + 1 = ((ac % 41 + 1 : Nat) : Int) - 20 := by omega
    rw [e3] at h1
    exact h1
theorem fd_ax_no {f : Nat → Int} {a : Int} (hp : fd_pr f) (ha : 2 ≤ a) : ¬ fd_dv (fd_q 0 a 0) f := by
  intro h
  have h1 := fd_pr_dv h hp a.natAbs (fun i => ?_)
  · omega
  · rw [Int.natAbs_dvd]
    match i with
    | 0 => exact ⟨0, by rw [fd_q_0]; simp⟩
    | 1 => exact ⟨1, by rw [fd_q_1]; simp⟩
    | (k + 2) => rw [fd_q_L1 a 0 (k + 2) (by omega)]; exact ⟨0, by simp⟩
section
variable {post : SY → Prop} {ot : Int32} {rg : Nat → Int32} {md kp : Nat → Int64} {dg : Nat → Int32}
theorem ys_lin2 {F : Nat → Int} (hF : fd_H F) (hp : fd_pr F)
    (H : ∀ f L wh td yr yq pt, fd_PL F 820 f L → fd_R wh f → fd_AL pt L → post (nI L.length, ot, rg, md, wh, td, yr, yq, pt, kp, dg)) :
    ∀ (k ac : Nat) (f : Nat → Int) (L : List (Nat → Int)) (wh td yr yq pt : Nat → Int64), ac + k = 820 → fd_PL F ac f L → fd_R wh f → fd_AL pt L → wY_tryLinear_2 post (k + 1) (nI ac) (nI L.length) ot rg md wh td yr yq pt kp dg := by
  intro k
  induction k with
  | zero =>
    intro ac f L wh td yr yq pt hac hP hwh hpt
    have e : ac = 820 := by omega
    subst e
    exact br_t (nI_le (a := 820) (b := 820) (Nat.le_refl _) (by decide)) (H f L wh td yr yq pt hP hwh hpt)
  | succ k ih =>
    intro ac f L wh td yr yq pt hac hP hwh hpt
    have hst : fd_St F f L := hP.1
    have hB := fd_St_B hF hst
    have hL5 := fd_St_L5 hF.2.1 hst
    have hskip : ¬ fd_dv (fd_q 0 (1 + ((ac / 41 : Nat) : Int)) (((ac % 41 : Nat) : Int) - 20)) f → ∀ x, x = nI ac + 1 → wY_tryLinear_2 post (k + 1) x (nI L.length) ot rg md wh td yr yq pt kp dg := fun hn => nm_r (nI_1 ac) (ih (ac + 1) f L wh td yr yq pt (by omega) (fd_PL_next hP hn) hwh hpt)
    refine br_f (nI_ge (b := 820) (by omega) (by decide)) ⟨by decide, nm_r (fd_ac1 (by omega)) ⟨by decide, nm_r (fd_ac2 (by omega)) ?_⟩⟩
    have ha1 : (1 : Int) ≤ 1 + ((ac / 41 : Nat) : Int) := by omega
    have ha2 : 1 + ((ac / 41 : Nat) : Int) ≤ 20 := by omega
    have hc1 : (-20 : Int) ≤ ((ac % 41 : Nat) : Int) - 20 := by omega
    have hc2 : ((ac % 41 : Nat) : Int) - 20 ≤ 20 := by omega
    have hT : ∀ f f' L, fd_PL F ac f L → fd_F f' → fd_mul (fd_q 0 (1 + ((ac / 41 : Nat) : Int)) (((ac % 41 : Nat) : Int) - 20)) f' = f → fd_PL F ac f' (L ++ [fd_q 0 (1 + ((ac / 41 : Nat) : Int)) (((ac % 41 : Nat) : Int) - 20)]) := fun f f' L h hf' e => fd_P1_take hp h ha1 hf' e
    have hnx : ∀ f L, fd_PL F ac f L → ¬ fd_dv (fd_q 0 (1 + ((ac / 41 : Nat) : Int)) (((ac % 41 : Nat) : Int) - 20)) f → fd_PL F (ac + 1) f L := fun f L h hn => fd_PL_next h hn
    generalize hae : 1 + ((ac / 41 : Nat) : Int) = a at *
    generalize hce : ((ac % 41 : Nat) : Int) - 20 = c at *
    have has : fd_s a := fd_s_lit (by omega)
    have hcs : fd_s c := fd_s_lit (by omega)
    have haz : ¬ fd_l a = 0 := fun z => by have := (fd_l_z has).mp z; omega
    have hfs : ∀ i, fd_s (f i) := fun i => fd_s_of (hB i) (by decide)
    have hgo : wY_tryLinear_94 post (wY_tryLinear_2 post (k + 1)) (nI ac) (fd_l a) (fd_l c) (nI L.length) ot rg md wh td yr yq pt kp dg := by
      unfold wY_tryLinear_94
      refine ys_give (t := 0) (m := a) (l := c) (fun td1 htd => ?_)
      dsimp only
      refine ys_takeOut (d := 1) (t := 0) (m := a) (l := c) hF (Nat.le_refl 1) (by decide) (fd_q_D1 c (by omega)) (fd_q_B (by decide) (by omega) (by omega)) htd (fun f L => fd_PL F ac f L) (fun f L h => h.1) hT hP hwh hpt (fun f L wh yr yq pt hP hn hwh hpt => ?_)
      dsimp only
      exact nm_r (nI_1 ac) (ih (ac + 1) f L wh td1 yr yq pt (by omega) (hnx f L hP hn) hwh hpt)
    refine ys_deg hwh hB (by decide) hL5 (fun z => absurd z (fd_St_nz hst)) (fun d hd hD => ?_)
    by_cases hd1 : d < 1
    · exact br_t (nI_lt (b := 1) hd1 (by decide)) (hskip fun hdv => by have := (fd_l_lead (by omega) hD hdv).2; omega)
    · refine br_f (nI_nlt (b := 1) (by omega) (by omega)) ⟨vp_in_nI hd (by decide), haz, ?_⟩
      rw [nI_clamp (by omega), hwh d hd, hwh 0 (by decide)]
      refine br_c (fun z => ?_) (fun z => hskip fun hdv => z ((fd_l_rem0 (hfs d) has).mpr (fd_l_lead (by omega) hD hdv).1))
      by_cases hc0 : c = 0
      · refine br_t (by rw [hc0]; exact fd_l_0) (br_c (fun z0 => br_c (fun _ => hgo) (fun z1 => hskip ?_)) (fun z0 => hskip fun hdv => z0 ?_))
        · rw [hc0]
          refine fd_ax_no (fd_St_pr hp hst) ?_
          have : a ≠ 1 := fun e => z1 (by rw [e]; exact fd_l_1)
          omega
        · have h1 := fd_q_low hdv
          rw [hc0] at h1
          rw [Int.zero_dvd.mp h1]; exact fd_l_0
      · have hcz : ¬ fd_l c = 0 := fun z => hc0 ((fd_l_z hcs).mp z)
        exact br_f hcz ⟨hcz, br_c (fun _ => hgo) (fun z0 => hskip fun hdv => z0 ((fd_l_rem0 (hfs 0) hcs).mpr (fd_q_low hdv)))⟩
theorem ys_tryLinear {F : Nat → Int} {d : Nat} (hF : fd_H F) (hp : fd_pr F) (hDF : fd_D F d) (hpos : 0 < F d) {wh td yr yq pt : Nat → Int64} (hwh : fd_R wh F)
    (H : ∀ f L wh td yr yq pt, fd_St F f L → fd_LF f → List.Pairwise fd_le L → (∀ p ∈ L, fd_D p 1) → fd_R wh f → fd_AL pt L → post (nI L.length, ot, rg, md, wh, td, yr, yq, pt, kp, dg)) : wpY_tryLinear post (0, ot, rg, md, wh, td, yr, yq, pt, kp, dg) :=
  ⟨820 + 1, ys_lin2 hF hp (fun f L wh td yr yq pt hP hwh hpt => H f L wh td yr yq pt hP.1 (fd_P1_end hF hP) hP.2.1 (fun p hp => (hP.2.2.1 p hp).1) hwh hpt) 820 0 F [] wh td yr yq pt (by omega) (fd_P1_0 hDF hpos) hwh (fd_AL_nil pt)⟩
theorem ys_linZ {cn : Int32} {wh td yr yq pt : Nat → Int64} (hwh : fd_R wh fd_z) (H : post (cn, ot, rg, md, wh, td, yr, yq, pt, kp, dg)) : wpY_tryLinear post (cn, ot, rg, md, wh, td, yr, yq, pt, kp, dg) := by
  refine fd_upl (fun n x => wY_tryLinear_2 post n x cn ot rg md wh td yr yq pt kp dg) (fun _ => True) 820 (fun h n => br_t (nI_le (a := 820) (b := 820) (Nat.le_refl _) (by decide)) H) (fun n i hi h hW => ?_)
  refine br_f (nI_ge (b := 820) hi (by decide)) ⟨by decide, nm_e ⟨by decide, nm_e (ys_deg (f := fd_z) (M := 0) hwh (fun i => Nat.le_refl 0) (by decide) (fun _ _ => rfl) (fun _ => br_t (by decide) (nm_r (nI_1 i) (hW trivial))) (fun d hd hD => absurd rfl hD.1))⟩⟩
end
