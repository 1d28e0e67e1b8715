/-! the reference modulo p -/
def fd_wm (p : Int) (w u : Nat → Int) (x : Int) (s d : Nat) : Nat → Int := fun k => if s ≤ k ∧ k ≤ s + d then (w k + (p - x) * u (k - s)) % p else w k
theorem fd_wm_cg {p : Int} {f w q u : Nat → Int} {x : Int} {s d : Nat} (hu : fd_L u d) (hq : q s = 0) (h : fd_cg p f (fd_add w (fd_mul u q))) : fd_cg p f (fd_add (fd_wm p w u x s d) (fd_mul u (fd_qs q x s))) := by
  have e : fd_qs q x s = fd_add q (fd_mo x s) := by
    funext k; simp only [fd_qs, fd_add, fd_mo]
    by_cases hk : k = s
    · rw [if_pos hk, if_pos hk, hk, hq]; omega
    · rw [if_neg hk, if_neg hk]; omega
  intro k
  rw [e, fd_mul_add, fd_mul_comm u (fd_mo _ _), fd_mo_mul]
  have h1 := h k
  simp only [fd_add, fd_wm] at h1 ⊢
  by_cases hk : s ≤ k
  · by_cases hk2 : k ≤ s + d
    · rw [if_pos ⟨hk, hk2⟩, if_pos hk]
      have h2 : p ∣ (w k + (p - x) * u (k - s)) % p - (w k + (p - x) * u (k - s)) := Int.dvd_sub_self_of_emod_eq rfl
      have h3 : p ∣ p * u (k - s) := ⟨_, rfl⟩
      have h4 := Int.dvd_sub (Int.dvd_sub h1 h2) h3
      have e3 : f k - (w k + fd_mul u q k) - ((w k + (p - x) * u (k - s)) % p - (w k + (p - x) * u (k - s))) - p * u (k - s) = f k - ((w k + (p - x) * u (k - s)) % p + (fd_mul u q k + x * u (k - s))) := by
        rw [Int.sub_mul]; omega
      rw [e3] at h4
      exact h4
    · rw [if_neg (by omega), if_pos hk, hu (k - s) (by omega)]
      have e3 : f k - (w k + (fd_mul u q k + x * 0)) = f k - (w k + fd_mul u q k) := by omega
      rw [e3]; exact h1
  · rw [if_neg (by omega), if_neg hk]
    have e3 : f k - (w k + (fd_mul u q k + 0)) = f k - (w k + fd_mul u q k) := by omega
    rw [e3]; exact h1
theorem fd_wm_rd {p : Int} {w u : Nat → Int} {x : Int} {s d : Nat} (hp : 0 < p) (hw : fd_rd p w) : fd_rd p (fd_wm p w u x s d) := fun k => by
  simp only [fd_wm]
  by_cases h : s ≤ k ∧ k ≤ s + d
  · rw [if_pos h]; exact ⟨Int.emod_nonneg _ (by omega), Int.emod_lt_of_pos _ hp⟩
  · rw [if_neg h]; exact hw k
section
variable {cn ot : Int32} {rg : Nat → Int32} {md wh td yr yq pt kp : Nat → Int64} {dg : Nat → Int32}
theorem ys_dm137 {post : Int32 → SY → Prop} {w : Nat → Int} (hR : fd_R yr w) (hB : fd_B w 4611686018427387904) (hL : fd_L w 5) (H1 : w = fd_z → post 1 (cn, ot, rg, md, wh, td, yr, yq, pt, kp, dg)) (H0 : w ≠ fd_z → post 0 (cn, ot, rg, md, wh, td, yr, yq, pt, kp, dg)) : ∃ n, wY_dividesModulo_137 post cn ot rg md wh td yr yq pt kp dg n 0 := by
  refine fd_upl (fun n x => wY_dividesModulo_137 post cn ot rg md wh td yr yq pt kp dg n x) (fun j => w j = 0) 6 (fun h n => ?_) (fun n i hi h hW => ?_)
  · refine br_t (nI_le (Nat.le_refl 6) (by decide)) (H1 (funext fun i => ?_))
    by_cases hi : i < 6
    · exact h i hi
    · exact hL i (by omega)
  · refine br_f (nI_ge (b := 6) hi (by decide)) ⟨vp_in_nI hi (by decide), ?_⟩
    rw [nI_clamp (by omega)]
    exact br_c (fun z => nm_r (nI_1 i) (hW ((fd_R0 hR hB (Nat.le_refl _) hi).mp z))) (fun z => H0 (fun e => z ((fd_R0 hR hB (Nat.le_refl _) hi).mpr (by rw [e]; rfl))))
theorem ys_dm71 {post : Int32 → SY → Prop} {J : Int32 → (Nat → Int32) → (Nat → Int64) → (Nat → Int64) → (Nat → Int64) → (Nat → Int64) → (Nat → Int64) → (Nat → Int64) → (Nat → Int64) → (Nat → Int32) → Prop} {p d s : Nat} {w u : Nat → Int} {x : Int} (hp : 2 ≤ p) (hp7 : p ≤ 7) (hd : s + d < 6) (hx : 0 ≤ x ∧ x < p) (hyr : fd_R yr w) (hw : fd_rd p w) (htd : fd_R td u) (hu : ∀ i, 0 ≤ u i ∧ u i ≤ 6) (H : ∀ t, fd_R t (fd_wm p w u x s d) → J (nI s + (-1)) rg md wh td t yq pt kp dg) : ∃ n, wY_dividesModulo_71 post J (nI d) (fd_l (p : Int)) (nI s) (fd_l x) cn ot n 0 rg md wh td yr yq pt kp dg := by
  have hps : fd_s (p : Int) := fd_s_lit (by omega)
  have hpz : ¬ fd_l (p : Int) = 0 := fun z => by have := (fd_l_z hps).mp z; omega
  have hp1 : (1 : Int64) ≤ fd_l (p : Int) := (fd_l_le (a := 1) (fd_s_lit (by decide)) hps).mpr (by omega)
  refine fd_fill (fun n y t => wY_dividesModulo_71 post J (nI d) (fd_l (p : Int)) (nI s) (fd_l x) cn ot n y rg md wh td t yq pt kp dg) (d + 1) s (fun j => fd_l ((w (s + j) + (p - x) * u j) % p)) yr (fun n t h1 h2 => ?_) (fun n i t hi h2 hW => ?_)
  · refine br_t (nI_lt (by omega) (by omega)) (nm_e (H t (fun k hk => ?_)))
    simp only [fd_wm]
    by_cases h : s ≤ k ∧ k ≤ s + d
    · rw [if_pos h]
      have h3 := h1 (k - s) (by omega)
      have e3 : s + (k - s) = k := by omega
      rw [e3] at h3
      exact h3
    · rw [if_neg h, h2 k (by omega), hyr k hk]
  · have e : nI s + nI i = nI (s + i) := nI_add s i
    have hin : vp_in (nI s + nI i) 6 := by rw [e]; exact vp_in_nI (by omega) (by decide)
    refine br_f (nI_nlt (by omega) (by omega)) ⟨hin, vp_in_nI (by omega) (by decide), br_t hp1 ⟨hpz, hin, nm_r ?_ (nm_r (nI_1 i) hW)⟩⟩
    have h3 := hw (s + i)
    have h4 := hu i
    have h5 : 0 ≤ (p - x) * u i := Int.mul_nonneg (by omega) h4.1
    have h6 : (p - x) * u i ≤ 7 * 6 := Int.mul_le_mul (by omega) h4.2 h4.1 (by decide)
    have hs : fd_s (w (s + i) + (p - x) * u i) := ⟨by omega, by omega⟩
    rw [e, nI_clamp (by omega), nI_clamp (by omega), h2 (s + i) (by omega), hyr _ (by omega), htd i (by omega), fd_l_sub, fd_l_mul, fd_l_add, fd_l_rem hs hps, Int.tmod_eq_emod_of_nonneg (by omega)]
end
theorem ys_dm43 {post : Int32 → SY → Prop} {cn ot : Int32} {rg : Nat → Int32} {md wh td pt kp : Nat → Int64} {dg : Nat → Int32} {f u : Nat → Int} {d p : Nat} (hp : 2 ≤ p) (hp7 : p ≤ 7) (hd : d < 6) (huL : fd_L u d) (hu1 : u d = 1) (hu : ∀ i, 0 ≤ u i ∧ u i ≤ 6) (htd : fd_R td u)
    (H1 : ∀ q yr yq, fd_MQ p u f q → fd_R yq q → post 1 (cn, ot, rg, md, wh, td, yr, yq, pt, kp, dg))
    (H0 : ¬ fd_mdv p u f → ∀ yr yq, post 0 (cn, ot, rg, md, wh, td, yr, yq, pt, kp, dg)) :
    ∀ (s : Nat) (yr yq : Nat → Int64) (w q : Nat → Int), s + d ≤ 6 → fd_R yr w → fd_R yq q → fd_rd p w → fd_rd p q → (∀ j, j < s → q j = 0) → fd_L q 5 → (∀ j, s + d ≤ j → w j = 0) → fd_cg p f (fd_add w (fd_mul u q)) → wY_dividesModulo_43 post (nI d) (fd_l (p : Int)) cn ot (s + 1) (nI s + (-1)) rg md wh td yr yq pt kp dg := by
  intro s
  induction s with
  | zero =>
    intro yr yq w q hsd hyr hyq hw hq hq0 hqL hw0 hc
    have hB : fd_B w 4611686018427387904 := fun i => by have := hw i; omega
    refine br_t (by decide) (ys_dm137 hyr hB (fun j hj => hw0 j (by omega)) (fun hz => ?_) (fun hz => ?_))
    · refine H1 q yr yq ⟨hq, hqL, fd_cg_sym ?_⟩ hyq
      rw [hz] at hc
      intro i
      have h1 := hc i
      simp only [fd_add, fd_z] at h1
      rw [Int.zero_add] at h1
      exact h1
    · refine H0 (fun hm => hz ?_) yr yq
      obtain ⟨Q, hQ⟩ := hm
      have h1 : ∀ j, (p : Int) ∣ fd_mul u (fd_sub Q q) j - w j := fun j => by
        have h2 := Int.dvd_add (hQ.2.2 j) (hc j)
        rw [fd_mul_sub]
        simp only [fd_sub, fd_add] at h2 ⊢
        have e : fd_mul u Q j - f j + (f j - (w j + fd_mul u q j)) = fd_mul u Q j - fd_mul u q j - w j := by omega
        rw [e] at h2; exact h2
      have h4 : ∀ j, (p : Int) ∣ fd_sub Q q j := fd_monic huL hu1 (fd_F_sub (fd_L_F hQ.2.1) (fd_L_F hqL)) (fun j hj => by
        have h5 := h1 j
        rw [hw0 j (by omega), Int.sub_zero] at h5
        exact h5)
      refine fd_rd_eq hw (fun i => ⟨Int.le_refl 0, by show (0 : Int) < p; omega⟩) (fun j => ?_)
      have h6 := fd_dvd_mul_le (p : Int) (fd_sub Q q) j u (fun i _ => h4 i)
      have h7 := Int.dvd_sub h6 (h1 j)
      have e : fd_mul u (fd_sub Q q) j - (fd_mul u (fd_sub Q q) j - w j) = w j - fd_z j := by simp only [fd_z]; omega
      rw [e] at h7
      exact h7
  | succ s ih =>
    intro yr yq w q hsd hyr hyq hw hq hq0 hqL hw0 hc
    rw [fd_m1]
    have e : nI s + nI d = nI (s + d) := nI_add s d
    have hin : vp_in (nI s + nI d) 6 := by rw [e]; exact vp_in_nI (by omega) (by decide)
    refine br_f (nI_pos (by omega)) ⟨hin, nm_r (e' := fd_l (w (s + d))) (by rw [e, nI_clamp (by omega), hyr _ (by omega)]) ⟨vp_in_nI (by omega) (by decide), nm_r (e' := vp_updL yq s (fd_l (w (s + d)))) (by rw [nI_clamp (by omega)]) ?_⟩⟩
    refine ys_dm71 hp hp7 (by omega) (hw (s + d)) hyr hw htd hu (fun t ht => ih t _ (fd_wm p w u (w (s + d)) s d) (fd_qs q (w (s + d)) s) (by omega) ht (fun k hk => ?_) (fd_wm_rd (by omega) hw) (fun k => ?_) (fun j hj => ?_) (fun j hj => ?_) (fun j hj => ?_) (fd_wm_cg huL (hq0 s (by omega)) hc))
    · simp only [fd_qs]
      by_cases hks : k = s
      · rw [if_pos hks, hks, fd_uLs]
      · rw [if_neg hks, fd_uLn hks, hyq k hk]
    · simp only [fd_qs]
      by_cases hks : k = s
      · rw [if_pos hks]; exact hw _
      · rw [if_neg hks]; exact hq k
    · simp only [fd_qs]; rw [if_neg (by omega)]; exact hq0 j (by omega)
    · simp only [fd_qs]; rw [if_neg (by omega)]; exact hqL j hj
    · simp only [fd_wm]
      by_cases ej : j = s + d
      · rw [ej, if_pos (by omega)]
        have e2 : s + d - s = d := by omega
        rw [e2, hu1]
        have e3 : w (s + d) + (p - w (s + d)) * 1 = p := by omega
        rw [e3, Int.emod_self]
      · rw [if_neg (by omega)]; exact hw0 j (by omega)
theorem ys_divMod {post : Int32 → SY → Prop} {cn ot : Int32} {rg : Nat → Int32} {md wh td yr yq pt kp : Nat → Int64} {dg : Nat → Int32} {f u : Nat → Int} {d p : Nat} (hp : 2 ≤ p) (hp7 : p ≤ 7) (hd : d < 6) (huL : fd_L u d) (hu1 : u d = 1) (hu : ∀ i, 0 ≤ u i ∧ u i ≤ 6) (htd : fd_R td u) (hwh : fd_R wh f) (hf : fd_rd p f) (hL : fd_L f 5)
    (H1 : ∀ q yr yq, fd_MQ p u f q → fd_R yq q → post 1 (cn, ot, rg, md, wh, td, yr, yq, pt, kp, dg))
    (H0 : ¬ fd_mdv p u f → ∀ yr yq, post 0 (cn, ot, rg, md, wh, td, yr, yq, pt, kp, dg)) : wpY_dividesModulo post (cn, ot, rg, md, wh, td, yr, yq, pt, kp, dg) (nI d) (fd_l (p : Int)) := by
  refine fd_fill2 (fun n x a b => wY_dividesModulo_3 post (nI d) (fd_l (p : Int)) cn ot n x rg md wh td a b pt kp dg) 6 wh (fun _ => 0) yr yq (fun n a b h1 h2 => ?_) (fun n i a b hi hW => ?_)
  · refine br_t (nI_le (Nat.le_refl 6) (by decide)) (nm_r (e' := nI (6 - d) + (-1)) ?_ ⟨6 - d + 1, ?_⟩)
    · have e6 : 6 - d = (5 - d) + 1 := by omega
      rw [e6, fd_m1]; exact fd_isub (a := 5) (by omega)
    · refine ys_dm43 hp hp7 hd huL hu1 hu htd H1 H0 (6 - d) a b f fd_z (by omega) (fun i hi => by rw [h1 i hi, hwh i hi]) (fun i hi => by rw [h2 i hi]; exact fd_l_0.symm) hf (fun i => ⟨Int.le_refl 0, by show (0 : Int) < p; omega⟩) (fun _ _ => rfl) (fun _ _ => rfl) (fun j hj => hL j (by omega)) (fun i => ?_)
      rw [fd_mul_z]
      exact ⟨0, by simp [fd_add, fd_z]⟩
  · exact br_f (nI_ge (b := 6) hi (by decide)) ⟨vp_in_nI hi (by decide), vp_in_nI hi (by decide), nm_r (by rw [nI_clamp (by omega)]) ⟨vp_in_nI hi (by decide), nm_r (by rw [nI_clamp (by omega)]) (nm_r (nI_1 i) hW)⟩⟩
def fd_DG (dg : Nat → Int32) (L : List (Nat → Int)) : Prop := ∀ k, k < L.length → ∃ d, fd_D (L.getD k fd_z) d ∧ dg k = nI d
theorem fd_DG_snoc {dg : Nat → Int32} {L : List (Nat → Int)} {g : Nat → Int} {d : Nat} (h : fd_DG dg L) (hD : fd_D g d) : fd_DG (upd dg L.length (nI d)) (L ++ [g]) := by
  intro k hk
  rw [List.length_append, List.length_singleton] at hk
  by_cases e : k = L.length
  · refine ⟨d, ?_, ?_⟩
    · rw [e, fd_getD_r]; exact hD
    · rw [e, fd_us]
  · obtain ⟨d', h1, h2⟩ := h k (by omega)
    refine ⟨d', ?_, ?_⟩
    · rw [fd_getD_l (by omega)]; exact h1
    · rw [fd_un e]; exact h2
section
variable {post : Int32 → SY → Prop} {cn ot : Int32} {rg : Nat → Int32} {md kp pt : Nat → Int64}
theorem ys_sm125 {J : Int32 → Int32 → Int32 → Int32 → (Nat → Int32) → (Nat → Int64) → (Nat → Int64) → (Nat → Int64) → (Nat → Int64) → (Nat → Int64) → (Nat → Int64) → (Nat → Int64) → (Nat → Int32) → Prop} {td : Nat → Int64} {u : Nat → Int} {d p bc : Nat} (hp : 2 ≤ p) (hp7 : p ≤ 7) (hd1 : 1 ≤ d) (hd : d ≤ 2) (huL : fd_L u d) (hu1 : u d = 1) (hu : ∀ i, 0 ≤ u i ∧ u i ≤ 6) (htd : fd_R td u) {S : fd_MS}
    (H : ∀ wh yr yq dg, fd_MI p S → fd_R wh S.1 → fd_DG dg S.2 → J (nI S.2.length) (nI (bc + 1)) cn ot rg md wh td yr yq pt kp dg) : ∀ (j k : Nat) (s : fd_MS) (wh yr yq : Nat → Int64) (dg : Nat → Int32), k + j = 5 → fd_MI p s → fd_R wh s.1 → fd_DG dg s.2 → fd_mi p u j s = S → wY_splitModulo_125 post J (nI p) (nI bc) (nI d) (j + 1) (nI s.2.length) (nI k) cn ot rg md wh td yr yq pt kp dg := by
  have huB : fd_B u 6 := fun i => by have := hu i; omega
  intro j
  induction j with
  | zero =>
    intro k s wh yr yq dg hk hI hwh hdg e
    have e5 : k = 5 := by omega
    subst e5
    rw [fd_mi] at e
    subst e
    exact br_t (nI_le (a := 5) (b := 5) (Nat.le_refl 5) (by decide)) (nm_r (nI_1 bc) (H wh yr yq dg hI hwh hdg))
  | succ j ih =>
    intro k s wh yr yq dg hk hI hwh hdg e
    obtain ⟨i1, i2, ⟨e0, he0, hle⟩, i4⟩ := id hI
    have hB : fd_B s.1 6 := fun i => by have := i1 i; omega
    refine br_f (nI_ge (b := 5) (by omega) (by decide)) (ys_top hwh hB (by decide) i2 (fun z => absurd z (fd_D_nz he0)) (fun t ht hDt => br_c (fun z => ?_) (fun z => ?_)))
    · have hlt : t < d := (nI_ltI (by omega) (by omega)).mp z
      have hn : ¬ fd_mdv p u s.1 := fun hm => by
        obtain ⟨q, hq⟩ := hm
        obtain ⟨e', _, hf⟩ := fd_MQ_deg (by omega) huL hu1 i1 (fd_D_nz hDt) hq
        have := fd_D_u hDt hf
        omega
      rw [fd_mi, fd_ms_no hn] at e
      exact nm_r (nI_1 k) (ih (k + 1) s wh yr yq dg (by omega) hI hwh hdg e)
    · rw [fd_l64n p (by omega)]
      refine ys_divMod hp hp7 (by omega) huL hu1 hu htd hwh i1 i2 (fun q yr1 yq1 hq hyq => ?_) (fun hn yr1 yq1 => ?_)
      · dsimp only
        have hI2 := fd_MI_ms (by omega) hd1 (by omega) huL hu1 huB hI
        rw [fd_mi] at e
        rw [fd_ms_yes huL hu1 hq] at e hI2
        have hlen : s.2.length < 5 := by
          obtain ⟨_, _, ⟨e', _, hle'⟩, _⟩ := hI2
          have hle2 : (s.2 ++ [u]).length + e' ≤ 5 := hle'
          rw [List.length_append, List.length_singleton] at hle2
          omega
        have el : (s.2 ++ [u]).length = s.2.length + 1 := by rw [List.length_append, List.length_singleton]
        have hDu : fd_D u d := ⟨by rw [hu1]; decide, huL⟩
        refine br_f (by decide) ⟨vp_in_nI hlen (by decide), nm_r (e' := upd dg s.2.length (nI d)) (by rw [nI_clamp (by omega)]) (nm_r (nI_1 _) ?_)⟩
        refine fd_fill (fun n x w => wY_splitModulo_165 post J (wY_splitModulo_125 post J (nI p) (nI bc) (nI d) (j + 1)) (nI p) (nI (s.2.length + 1)) (nI bc) (nI d) (nI k) cn ot n x rg md w td yr1 yq1 pt kp (upd dg s.2.length (nI d))) 6 0 yq1 wh (fun n w h1 _ => ?_) (fun n i w hi _ hW => ?_)
        · refine br_t (nI_le (Nat.le_refl 6) (by decide)) (nm_r (nI_1 k) ?_)
          have h := ih (k + 1) (q, s.2 ++ [u]) w yr1 yq1 (upd dg s.2.length (nI d)) (by omega) hI2 (fun i hi => by have := h1 i hi; rw [Nat.zero_add] at this; rw [this, hyq i hi]) (fd_DG_snoc hdg hDu) e
          rw [← el]
          exact h
        · exact br_f (nI_ge (b := 6) hi (by decide)) ⟨vp_in_nI hi (by decide), vp_in_nI hi (by decide), nm_r (by rw [nI_clamp (by omega), Nat.zero_add]) (nm_r (nI_1 i) hW)⟩
      · dsimp only
        rw [fd_mi, fd_ms_no hn] at e
        exact br_t rfl (nm_r (nI_1 k) (ih (k + 1) s wh yr1 yq1 dg (by omega) hI hwh hdg e))
theorem fd_mu_nn {p bc : Nat} (hp2 : 2 ≤ p) (hp7 : p ≤ 7) (hbc : bc < p * p + p) (i : Nat) : 0 ≤ fd_mu p bc i ∧ fd_mu p bc i ≤ 6 := by
  obtain ⟨_, _, h3⟩ := fd_mu_ok hp2 hp7 hbc
  have h4 := h3 i
  have h5 : 0 ≤ fd_mu p bc i := by
    unfold fd_mu
    by_cases h : bc < p
    · rw [if_pos h]
      match i with
      | 0 => rw [fd_q_0]; omega
      | 1 => rw [fd_q_1]; decide
      | (n + 2) => rw [fd_q_L1 _ _ (n + 2) (by omega)]; decide
    · rw [if_neg h]
      match i with
      | 0 => rw [fd_q_0]; exact Int.natCast_nonneg _
      | 1 => rw [fd_q_1]; exact Int.natCast_nonneg _
      | 2 => rw [fd_q_2]; decide
      | (n + 3) => rw [fd_q_L _ _ _ (n + 3) (by omega)]; decide
  omega
theorem ys_sm62 {p : Nat} (hp : 2 ≤ p) (hp7 : p ≤ 7) (f : Nat → Int)
    (H : ∀ L wh td yr yq dg, fd_ML p f L → fd_MB L → fd_DG dg L → post (nI L.length) (cn, ot, rg, md, wh, td, yr, yq, pt, kp, dg)) : ∀ (n bc : Nat) (wh td yr yq : Nat → Int64) (dg : Nat → Int32), bc + n = p * p + p → fd_MI p (fd_mz p (f, []) bc) → fd_R wh (fd_mz p (f, []) bc).1 → fd_DG dg (fd_mz p (f, []) bc).2 → wY_splitModulo_62 post (nI p) (n + 1) (nI (fd_mz p (f, []) bc).2.length) (nI bc) cn ot rg md wh td yr yq pt kp dg := by
  have hpp : p * p ≤ 49 := Nat.mul_le_mul hp7 hp7
  have ep : nI p * nI p + nI p = nI (p * p + p) := by
    rw [← nI_add]; congr 1; exact (Int32.ofNat_mul p p).symm
  intro n
  induction n with
  | zero =>
    intro bc wh td yr yq dg hbc hI hwh hdg
    have e : bc = p * p + p := by omega
    subst e
    obtain ⟨i1, i2, ⟨e, he', hle⟩, i4⟩ := hI
    have hB : fd_B (fd_mz p (f, []) (p * p + p)).1 6 := fun i => by have := i1 i; omega
    refine br_t (by rw [ep]; exact nI_le (Nat.le_refl _) (by omega)) (ys_top hwh hB (by decide) i2 (fun z => absurd z (fd_D_nz he')) (fun d hd hD => ?_))
    have ee := fd_D_u hD he'
    subst ee
    by_cases h0 : d = 0
    · subst h0
      exact br_t (nI_le (a := 0) (b := 0) (Nat.le_refl 0) (by decide)) (H _ wh td yr yq dg ⟨0, hD, fun _ => rfl, fun h => absurd h (by decide)⟩ ⟨by omega, i4⟩ hdg)
    · refine br_f (nI_nle (by omega) (by omega)) (ys_top hwh hB (by decide) i2 (fun z => absurd z (fd_D_nz hD)) (fun d2 hd2 hD2 => ?_))
      have ee := fd_D_u hD2 hD
      subst ee
      have hl : ((fd_mz p (f, []) (p * p + p)).2 ++ [(fd_mz p (f, []) (p * p + p)).1]).length = (fd_mz p (f, []) (p * p + p)).2.length + 1 := by rw [List.length_append, List.length_singleton]
      refine ⟨vp_in_nI (by omega) (by decide), nm_r (e' := upd dg (fd_mz p (f, []) (p * p + p)).2.length (nI d2)) (by rw [nI_clamp (by omega)]) (nm_r (nI_1 _) ?_)⟩
      have h := H ((fd_mz p (f, []) (p * p + p)).2 ++ [(fd_mz p (f, []) (p * p + p)).1]) wh td yr yq (upd dg (fd_mz p (f, []) (p * p + p)).2.length (nI d2)) ⟨d2, hD, fun h => absurd h h0, fun _ => rfl⟩ ⟨by omega, fun g hg => ?_⟩ (fd_DG_snoc hdg hD)
      · rw [hl] at h; exact h
      · rcases List.mem_append.mp hg with h | h
        · exact i4 g h
        · rw [List.mem_singleton.mp h]; exact ⟨d2, hD, by omega, hB⟩
  | succ n ih =>
    intro bc wh td yr yq dg hbc hI hwh hdg
    have hlt : bc < p * p + p := by omega
    obtain ⟨u1, u2, u3⟩ := fd_mu_ok hp hp7 hlt
    have unn := fd_mu_nn hp hp7 hlt
    have hnp : ¬ nI p = 0 := nI_ne0 (by omega) (by omega)
    have erem : (nI bc - nI bc / nI p * nI p).toInt64 = fd_l ((bc % p : Nat) : Int) := by
      have := Nat.mod_lt bc (by omega : p > 0)
      rw [fd_nrem (by omega) hp7, fd_l64n _ (by omega)]
    refine br_f (by rw [ep]; exact nI_ge hlt (by omega)) ?_
    by_cases hb : bc < p
    · have em : fd_mu p bc = fd_q 0 1 ((bc % p : Nat) : Int) := by rw [(fd_mu_lin hb).1, Nat.mod_eq_of_lt hb]
      rw [(fd_mu_lin hb).2] at u1 u2
      refine br_f (nI_ge hb (by omega)) ⟨hnp, br_t rfl ?_⟩
      unfold wY_splitModulo_108
      refine br_t rfl ?_
      unfold wY_splitModulo_119
      rw [erem]
      have h := ys_give (post := fun u => match u with | (f1, f2, f3, f4, f5, f6, f7, f8, f9, f10, f11) => ∃ n125 : Nat, wY_splitModulo_125 post (wY_splitModulo_62 post (nI p) (n + 1)) (nI p) (nI bc) 1 n125 (nI (fd_mz p (f, []) bc).2.length) 0 f1 f2 f3 f4 f5 f6 f7 f8 f9 f10 f11) (cn := cn) (ot := ot) (rg := rg) (md := md) (wh := wh) (td := td) (yr := yr) (yq := yq) (pt := pt) (kp := kp) (dg := dg) (t := 0) (m := 1) (l := ((bc % p : Nat) : Int)) (fun td1 htd => ?_)
      · exact h
      · dsimp only
        rw [← em] at htd
        exact ⟨6, ys_sm125 hp hp7 (Nat.le_refl 1) (by decide) u1 u2 unn htd (S := fd_mz p (f, []) (bc + 1)) (fun wh yr yq dg hI hwh hdg => ih (bc + 1) wh td1 yr yq dg (by omega) hI hwh hdg) 5 0 _ wh yr yq dg (by omega) hI hwh hdg rfl⟩
    · have em : fd_mu p bc = fd_q 1 (((bc - p) / p : Nat) : Int) ((bc % p : Nat) : Int) := by unfold fd_mu; rw [if_neg hb]
      have ed : fd_md p bc = 2 := by unfold fd_md; rw [if_neg hb]
      rw [ed] at u1 u2
      have ediv : ((nI bc - nI p) / nI p).toInt64 = fd_l (((bc - p) / p : Nat) : Int) := by
        have := Nat.div_le_self (bc - p) p
        rw [fd_isub (by omega), fd_ndiv (by omega) hp7, fd_l64n _ (by omega)]
      refine br_t (nI_le (by omega) (by omega)) ⟨hnp, br_f (by decide) ⟨hnp, ?_⟩⟩
      unfold wY_splitModulo_108
      refine br_f (by decide) ?_
      unfold wY_splitModulo_119
      rw [erem, ediv]
      have h := ys_give (post := fun u => match u with | (f1, f2, f3, f4, f5, f6, f7, f8, f9, f10, f11) => ∃ n125 : Nat, wY_splitModulo_125 post (wY_splitModulo_62 post (nI p) (n + 1)) (nI p) (nI bc) 2 n125 (nI (fd_mz p (f, []) bc).2.length) 0 f1 f2 f3 f4 f5 f6 f7 f8 f9 f10 f11) (cn := cn) (ot := ot) (rg := rg) (md := md) (wh := wh) (td := td) (yr := yr) (yq := yq) (pt := pt) (kp := kp) (dg := dg) (t := 1) (m := (((bc - p) / p : Nat) : Int)) (l := ((bc % p : Nat) : Int)) (fun td1 htd => ?_)
      · exact h
      · dsimp only
        rw [← em] at htd
        exact ⟨6, ys_sm125 hp hp7 (by decide) (Nat.le_refl 2) u1 u2 unn htd (S := fd_mz p (f, []) (bc + 1)) (fun wh yr yq dg hI hwh hdg => ih (bc + 1) wh td1 yr yq dg (by omega) hI hwh hdg) 5 0 _ wh yr yq dg (by omega) hI hwh hdg rfl⟩
theorem ys_splitMod {wh td yr yq : Nat → Int64} {dg : Nat → Int32} {r p : Nat} (hr : r < 4) (hok : fd_ok rg) (hp : 2 ≤ p) (hp7 : p ≤ 7)
    (H0 : fd_red p (fd_reg rg r) = fd_z → ∀ wh, post (-1) (cn, ot, rg, md, wh, td, yr, yq, pt, kp, dg))
    (H1 : fd_red p (fd_reg rg r) ≠ fd_z → ∀ L wh td yr yq dg, fd_ML p (fd_red p (fd_reg rg r)) L → fd_MB L → fd_DG dg L → post (nI L.length) (cn, ot, rg, md, wh, td, yr, yq, pt, kp, dg)) : wpY_splitModulo post (cn, ot, rg, md, wh, td, yr, yq, pt, kp, dg) (nI r) (nI p) := by
  have h0 := fd_reg_H0 hok hr
  refine fd_fill (fun n x t => wY_splitModulo_2 post (nI r) (nI p) cn ot n x rg md t td yr yq pt kp dg) 6 0 (fun i => fd_l (fd_red p (fd_reg rg r) i)) wh (fun n t h1 _ => ?_) (fun n i t hi _ hW => ?_)
  · have hwh : fd_R t (fd_red p (fd_reg rg r)) := fun i hi => by have := h1 i hi; rwa [Nat.zero_add] at this
    have hB : fd_B (fd_red p (fd_reg rg r)) 7 := fun i => by have := fd_red_rd (by omega : (0 : Int) < p) (fd_reg rg r) i; omega
    refine br_t (nI_le (Nat.le_refl 6) (by decide)) (ys_top hwh hB (by decide) (fd_red_L h0.2) (fun hz => br_f (by decide) (H0 hz t)) (fun d hd hD => br_t (nI_pos' (by omega)) ⟨p * p + p + 1, ?_⟩))
    have hz := fd_D_nz hD
    exact ys_sm62 hp hp7 (fd_red p (fd_reg rg r)) (fun L wh td yr yq dg k1 k2 k3 => H1 hz L wh td yr yq dg k1 k2 k3) (p * p + p) 0 t td yr yq dg (by omega) (fd_MI_0 hp h0.2 hz) hwh (fun k hk => absurd hk (Nat.not_lt_zero k))
  · refine br_f (nI_ge (b := 6) hi (by decide)) ⟨by rw [fd_ixZ]; exact vp_in_nI (by omega) (by decide), br_t (nI_le (a := 1) (by omega) (by omega)) ⟨nI_ne0 (by omega) (by omega), vp_in_nI hi (by decide), nm_r ?_ (nm_r (nI_1 i) hW)⟩⟩
    have hb := h0.1 i
    have e21 : (21 : Int32) * nI p = fd_i (21 * (p : Int)) := by
      rw [← fd_i_nat]; exact fd_i_mul 21 p
    have hk : fd_k (fd_reg rg r i + 21 * (p : Int)) := fd_k_lit (by omega)
    have hpk : fd_k (p : Int) := fd_k_lit (by omega)
    have hlt := Int.emod_lt_of_pos (fd_reg rg r i) (by omega : (0 : Int) < p)
    have hnn := Int.emod_nonneg (fd_reg rg r i) (by omega : (p : Int) ≠ 0)
    rw [fd_ixZ, nI_clamp (by omega), nI_clamp (by omega), fd_regX rg r hi, e21, fd_i_add, ← fd_i_nat p, fd_i_rem hk hpk, Int.tmod_eq_emod_of_nonneg (by omega), Int.add_mul_emod_self_right, fd_i_l (fd_k_lit (by omega)), Nat.zero_add]
    rfl
end
theorem i_vc_factorsModulo {k : Nat} {u : SX} {v : SY} (I : i_Rel k u v) (hk : k + 5 ≤ 2560) (v1 : Int32) (v2 : Int32) : wpX_factorsModulo (fun r u' => wpY_factorsModulo (fun r' v' => r' = r ∧ i_Rel (k + 5) u' v') v v1 v2) u v1 v2 := by
  obtain ⟨fc, he, re, op, qu, rs, wk, fo⟩ := u
  obtain ⟨cn, ot, rg, md, wh, td, yr, yq, pt, kp, dg⟩ := v
  obtain ⟨e, hok⟩ := I
  dsimp only at e hok
  subst e
  unfold wpX_factorsModulo wpY_factorsModulo
  dsimp only
  rcases fd_r4 v1 with ⟨r, hr, e⟩ | h1
  · subst e
    refine xs_reg hr (br_f (by decide) (fd_mod4 (fun p hp ep => br_f (by decide) ?_) (fun h2 h3 h5 h7 => br_t rfl (ys_isRegister hr (br_f (by decide) (ys_nprime h2 h3 h5 h7 (br_t rfl ⟨rfl, rfl, hok⟩)))))))
    subst ep
    refine xs_findMod hr hok (by omega) (by omega) (fun hz fc rs => ?_) (fun hz L op qu rs wk fo hML hMB hfo => ?_)
    · dsimp only
      refine br_t rfl (ys_isRegister hr (br_f (by decide) (ys_prime hp (br_f (by decide) (ys_splitMod hr hok (by omega) (by omega) (fun _ wh => ?_) (fun hn => absurd hz hn))))))
      dsimp only
      exact br_f (by decide) ⟨rfl, rfl, hok⟩
    · dsimp only
      refine br_f (by decide) (ys_isRegister hr (br_f (by decide) (ys_prime hp (br_f (by decide) (ys_splitMod hr hok (by omega) (by omega) (fun h => absurd h hz) (fun _ L' wh td yr yq dg hML' hMB' hdg => ?_))))))
      dsimp only
      rw [fd_ML_u hML hML']
      exact br_t (nI_pos' (by have := hMB'.1; omega)) ⟨rfl, rfl, hok⟩
  · exact xs_nreg h1 (br_t rfl (ys_nreg h1 (br_t rfl ⟨rfl, rfl, hok⟩)))
theorem i_vc_degreeModulo {k : Nat} {u : SX} {v : SY} (I : i_Rel k u v) (hk : k + 5 ≤ 2560) (v1 : Int32) (v2 : Int32) (v3 : Int32) : wpX_degreeModulo (fun r u' => wpY_degreeModulo (fun r' v' => r' = r ∧ i_Rel (k + 5) u' v') v v1 v2 v3) u v1 v2 v3 := by
  obtain ⟨fc, he, re, op, qu, rs, wk, fo⟩ := u
  obtain ⟨cn, ot, rg, md, wh, td, yr, yq, pt, kp, dg⟩ := v
  obtain ⟨e, hok⟩ := I
  dsimp only at e hok
  subst e
  unfold wpX_degreeModulo wpY_degreeModulo
  dsimp only
  rcases fd_r4 v1 with ⟨r, hr, e⟩ | h1
  · subst e
    refine xs_reg hr (br_f (by decide) (fd_mod4 (fun p hp ep => br_f (by decide) ?_) (fun h2 h3 h5 h7 => br_t rfl (ys_isRegister hr (br_f (by decide) (ys_nprime h2 h3 h5 h7 (br_t rfl ⟨rfl, rfl, hok⟩)))))))
    subst ep
    refine xs_findMod hr hok (by omega) (by omega) (fun hz fc rs => ?_) (fun hz L op qu rs wk fo hML hMB hfo => ?_)
    · dsimp only
      refine br_t rfl (ys_isRegister hr (br_f (by decide) (ys_prime hp (br_f (by decide) (ys_splitMod hr hok (by omega) (by omega) (fun _ wh => ?_) (fun hn => absurd hz hn))))))
      dsimp only
      refine br_c (fun _ => ⟨rfl, rfl, hok⟩) (fun z => br_t ?_ ⟨rfl, rfl, hok⟩)
      obtain ⟨j, hj, e⟩ := nI_of z
      rw [e, Int32.le_iff_toInt_le, nI_toInt hj]
      have : (-1 : Int32).toInt = -1 := by decide
      rw [this]; omega
    · dsimp only
      have hlen := hMB.1
      refine br_f (by decide) (br_c (fun z => ?_) (fun z => br_c (fun w => ?_) (fun w => ?_)))
      · refine ys_isRegister hr (br_f (by decide) (ys_prime hp (br_f (by decide) (ys_splitMod hr hok (by omega) (by omega) (fun h => absurd h hz) (fun _ L' wh td yr yq dg hML' hMB' hdg => ?_)))))
        dsimp only
        exact br_t z ⟨rfl, rfl, hok⟩
      · obtain ⟨j, hj, e⟩ := nI_of z
        subst e
        have hjL : j < L.length := (nI_ltI hj (by omega)).mp w
        obtain ⟨d, hD, hd5, hB⟩ := hMB.2 _ (fd_getD_mem hjL)
        refine xs_loadFound_result (by omega) (fun re1 hre => ?_)
        dsimp only
        refine xs_deg_result (f := L.getD j fd_z) (fun i hi => by rw [hre i hi]; exact hfo j hjL i hi) hB (by decide) (fd_L_mono hD.2 hd5) (fun hz' => absurd hz' (fd_D_nz hD)) (fun d' hd' hD' => ?_)
        refine ys_isRegister hr (br_f (by decide) (ys_prime hp (br_f (by decide) (ys_splitMod hr hok (by omega) (by omega) (fun h => absurd h hz) (fun _ L' wh td yr yq dg hML' hMB' hdg => ?_)))))
        dsimp only
        have eL := fd_ML_u hML hML'
        subst eL
        obtain ⟨d2, hD2, e2⟩ := hdg j hjL
        refine br_f z (br_f (nI_ge hjL (by omega)) ⟨vp_in_nI (by omega) (by decide), ?_, rfl, hok⟩)
        rw [nI_clamp hj, e2, fd_D_u hD2 hD']
      · refine ys_isRegister hr (br_f (by decide) (ys_prime hp (br_f (by decide) (ys_splitMod hr hok (by omega) (by omega) (fun h => absurd h hz) (fun _ L' wh td yr yq dg hML' hMB' hdg => ?_)))))
        dsimp only
        have eL := fd_ML_u hML hML'
        subst eL
        refine br_f z (br_t ?_ ⟨rfl, rfl, hok⟩)
        exact Int32.not_lt.mp w
  · exact xs_nreg h1 (br_t rfl (ys_nreg h1 (br_t rfl ⟨rfl, rfl, hok⟩)))
