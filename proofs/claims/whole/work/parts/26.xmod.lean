/-! the component modulo p -/
theorem xs_reduce_work {post : SX → Prop} {fc : Int32} {he : Nat → Int32} {re op qu rs wk fo : Nat → Int64} {f : Nat → Int} {p : Nat} (hp : 2 ≤ p) (hp7 : p ≤ 7) (hR : fd_R wk f) (hB : fd_B f 4611686018427387904) (H : ∀ t, fd_R t (fd_red p f) → post (fc, he, re, op, qu, rs, t, fo)) : wpX_reduce__work post (fc, he, re, op, qu, rs, wk, fo) (nI p) := by
  have hps : fd_s (p : Int) := fd_s_lit (by omega)
  have hpz : ¬ fd_l (p : Int) = 0 := fun z => by have := (fd_l_z hps).mp z; omega
  refine fd_fill (fun n x t => wX_reduce__work_2 post (nI p) fc n x he re op qu rs t fo) 6 0 (fun i => fd_l (fd_red p f i)) wk (fun n t h1 _ => ?_) (fun n i t hi h2 hW => ?_)
  · exact br_t (nI_le (Nat.le_refl 6) (by decide)) (H t (fun i hi => by have := h1 i hi; rwa [Nat.zero_add] at this))
  · have e : (nI p).toInt64 = fd_l (p : Int) := fd_l64n p (by omega)
    have hs : fd_s (f i) := fd_s_of (hB i) (by decide)
    have hs2 : fd_s ((f i).tmod p + p) := by
      have h3 := Int.tmod_lt_of_pos (f i) (by omega : (0 : Int) < p)
      have h4 := Int.lt_tmod_of_pos (f i) (by omega : (0 : Int) < p)
      exact fd_s_lit (by omega)
    refine br_f (nI_ge (b := 6) hi (by decide)) ⟨vp_in_nI hi (by decide), by rw [e]; exact hpz, by rw [e]; exact hpz, vp_in_nI hi (by decide), nm_r ?_ (nm_r (nI_1 i) hW)⟩
    rw [e, nI_clamp (by omega), h2 i (by omega), hR i hi, fd_l_rem hs hps, fd_l_add, fd_l_rem hs2 hps, fd_tmod_red (by omega), Nat.zero_add]; rfl
theorem xs_reduce_quotient {post : SX → Prop} {fc : Int32} {he : Nat → Int32} {re op qu rs wk fo : Nat → Int64} {f : Nat → Int} {p : Nat} (hp : 2 ≤ p) (hp7 : p ≤ 7) (hR : fd_R qu f) (hB : fd_B f 4611686018427387904) (H : ∀ t, fd_R t (fd_red p f) → post (fc, he, re, op, t, rs, wk, fo)) : wpX_reduce__quotient post (fc, he, re, op, qu, rs, wk, fo) (nI p) := by
  have hps : fd_s (p : Int) := fd_s_lit (by omega)
  have hpz : ¬ fd_l (p : Int) = 0 := fun z => by have := (fd_l_z hps).mp z; omega
  refine fd_fill (fun n x t => wX_reduce__quotient_2 post (nI p) fc n x he re op t rs wk fo) 6 0 (fun i => fd_l (fd_red p f i)) qu (fun n t h1 _ => ?_) (fun n i t hi h2 hW => ?_)
  · exact br_t (nI_le (Nat.le_refl 6) (by decide)) (H t (fun i hi => by have := h1 i hi; rwa [Nat.zero_add] at this))
  · have e : (nI p).toInt64 = fd_l (p : Int) := fd_l64n p (by omega)
    have hs : fd_s (f i) := fd_s_of (hB i) (by decide)
    have hs2 : fd_s ((f i).tmod p + p) := by
      have h3 := Int.tmod_lt_of_pos (f i) (by omega : (0 : Int) < p)
      have h4 := Int.lt_tmod_of_pos (f i) (by omega : (0 : Int) < p)
      exact fd_s_lit (by omega)
    refine br_f (nI_ge (b := 6) hi (by decide)) ⟨vp_in_nI hi (by decide), by rw [e]; exact hpz, by rw [e]; exact hpz, vp_in_nI hi (by decide), nm_r ?_ (nm_r (nI_1 i) hW)⟩
    rw [e, nI_clamp (by omega), h2 i (by omega), hR i hi, fd_l_rem hs hps, fd_l_add, fd_l_rem hs2 hps, fd_tmod_red (by omega), Nat.zero_add]; rfl
theorem xs_reduce_rest {post : SX → Prop} {fc : Int32} {he : Nat → Int32} {re op qu rs wk fo : Nat → Int64} {f : Nat → Int} {p : Nat} (hp : 2 ≤ p) (hp7 : p ≤ 7) (hR : fd_R rs f) (hB : fd_B f 4611686018427387904) (H : ∀ t, fd_R t (fd_red p f) → post (fc, he, re, op, qu, t, wk, fo)) : wpX_reduce__rest post (fc, he, re, op, qu, rs, wk, fo) (nI p) := by
  have hps : fd_s (p : Int) := fd_s_lit (by omega)
  have hpz : ¬ fd_l (p : Int) = 0 := fun z => by have := (fd_l_z hps).mp z; omega
  refine fd_fill (fun n x t => wX_reduce__rest_2 post (nI p) fc n x he re op qu t wk fo) 6 0 (fun i => fd_l (fd_red p f i)) rs (fun n t h1 _ => ?_) (fun n i t hi h2 hW => ?_)
  · exact br_t (nI_le (Nat.le_refl 6) (by decide)) (H t (fun i hi => by have := h1 i hi; rwa [Nat.zero_add] at this))
  · have e : (nI p).toInt64 = fd_l (p : Int) := fd_l64n p (by omega)
    have hs : fd_s (f i) := fd_s_of (hB i) (by decide)
    have hs2 : fd_s ((f i).tmod p + p) := by
      have h3 := Int.tmod_lt_of_pos (f i) (by omega : (0 : Int) < p)
      have h4 := Int.lt_tmod_of_pos (f i) (by omega : (0 : Int) < p)
      exact fd_s_lit (by omega)
    refine br_f (nI_ge (b := 6) hi (by decide)) ⟨vp_in_nI hi (by decide), by rw [e]; exact hpz, by rw [e]; exact hpz, vp_in_nI hi (by decide), nm_r ?_ (nm_r (nI_1 i) hW)⟩
    rw [e, nI_clamp (by omega), h2 i (by omega), hR i hi, fd_l_rem hs hps, fd_l_add, fd_l_rem hs2 hps, fd_tmod_red (by omega), Nat.zero_add]; rfl
theorem fd_red_z {p : Int} {w : Nat → Int} (h : fd_red p w = fd_z) (i : Nat) : p ∣ w i := Int.dvd_of_emod_eq_zero (congrFun h i)
theorem xs_divRM {post : Int32 → SX → Prop} {fc : Int32} {he : Nat → Int32} {re op qu rs wk fo : Nat → Int64} {f u : Nat → Int} {d p : Nat} (hp : 2 ≤ p) (hp7 : p ≤ 7) (hd : d < 6) (hu : fd_L u d) (hu1 : u d = 1) (huB : fd_B u 6) (hop : fd_R op u) (hrs : fd_R rs f) (hf : fd_rd p f) (hL : fd_L f 5)
    (H1 : ∀ q qu rs wk, fd_MQ p u f q → fd_R rs q → post 1 (fc, he, re, op, qu, rs, wk, fo))
    (H0 : ¬ fd_mdv p u f → ∀ qu wk, post 0 (fc, he, re, op, qu, rs, wk, fo)) : wpX_divideRestModulo post (fc, he, re, op, qu, rs, wk, fo) (nI d) (nI p) := by
  have hD : fd_D u d := ⟨by rw [hu1]; decide, hu⟩
  have hfB : fd_B f 6 := fun i => by have := hf i; omega
  have hM : 6 * (1 + 6) ^ (min (6 - d) 6) ≤ 4611686018427387904 := by
    have h3 : (1 + 6) ^ (min (6 - d) 6) ≤ (1 + 6) ^ 6 := Nat.pow_le_pow_right (by decide) (by omega)
    exact Nat.le_trans (Nat.mul_le_mul_left _ h3) (by decide)
  unfold wpX_divideRestModulo
  dsimp only
  refine xs_copy_rest_work (fun wk1 hwk => ?_)
  dsimp only
  refine xs_divide_work hD hd hop huB (by decide) (fun i hi => by rw [hwk i hi, hrs i hi]) hL (tt := 6) (fun j hj => hL j (by omega)) hfB (Nat.le_trans hM (by decide)) (fun T qu1 w q hT hq hDI hw hqB => ?_) (fun _ hn T qu1 => ?_)
  · dsimp only
    refine br_f (by decide) (xs_reduce_work hp hp7 hT hw (fun wk2 hwk2 => ?_))
    dsimp only
    have hrB : fd_B (fd_red p w) 7 := fun i => by have := fd_red_rd (by omega : (0 : Int) < p) w i; omega
    have hw5 : fd_L w 5 := fun j hj => hDI.2.1 j (by omega)
    refine xs_deg_work hwk2 hrB (by decide) (fd_red_L hw5) (fun hz => br_t (by decide) ?_) (fun d' hd' hD' => br_f (nI_pos (by omega)) (H0 (fun hm => ?_) qu1 wk2))
    · refine xs_reduce_quotient hp hp7 hq hqB (fun qu2 hqu2 => ?_)
      dsimp only
      refine xs_copy_quotient_rest (fun rs1 hrs1 => ?_)
      dsimp only
      refine H1 (fd_red p q) qu2 rs1 wk2 ⟨fd_red_rd (by omega) q, fd_red_L hDI.2.2, ?_⟩ (fun i hi => by rw [hrs1 i hi, hqu2 i hi])
      refine fd_cg_tr (fd_cg_mul u (fd_red_cg p q)) (fun i => ?_)
      have h1 := congrFun hDI.1 i
      simp only [fd_add] at h1
      have h2 := Int.dvd_neg.mpr (fd_red_z hz i)
      have e : -w i = fd_mul u q i - f i := by omega
      rw [e] at h2
      exact h2
    · obtain ⟨Q, hQ⟩ := hm
      have h1 : ∀ j, (p : Int) ∣ fd_mul u (fd_sub Q q) j - w j := fun j => by
        have h2 := hQ.2.2 j
        have h3 := congrFun hDI.1 j
        rw [fd_mul_sub]
        simp only [fd_sub, fd_add] at h3 ⊢
        have e : fd_mul u Q j - fd_mul u q j - w j = fd_mul u Q j - f j := by omega
        rw [e]; exact h2
      have h4 : ∀ j, (p : Int) ∣ fd_sub Q q j := fd_monic hu hu1 (fd_F_sub (fd_L_F hQ.2.1) (fd_L_F hDI.2.2)) (fun j hj => by
        have h5 := h1 j
        rw [hDI.2.1 j (by omega), Int.sub_zero] at h5
        exact h5)
      refine fd_D_nz hD' (funext fun j => ?_)
      have h6 := fd_dvd_mul_le (p : Int) (fd_sub Q q) j u (fun i _ => h4 i)
      have h7 := Int.dvd_sub h6 (h1 j)
      have e : fd_mul u (fd_sub Q q) j - (fd_mul u (fd_sub Q q) j - w j) = w j := by omega
      rw [e] at h7
      exact Int.emod_eq_zero_of_dvd h7
  · obtain ⟨z, hz⟩ := hn
    exact absurd (by rw [hu1]; exact ⟨z, by simp⟩) hz
theorem xs_takeMod {post : SX → Prop} {he : Nat → Int32} {re op : Nat → Int64} {u : Nat → Int} {d p : Nat} (hp : 2 ≤ p) (hp7 : p ≤ 7) (hd1 : 1 ≤ d) (hd : d ≤ 2) (hu : fd_L u d) (hu1 : u d = 1) (huB : fd_B u 6) (hop : fd_R op u) {S : fd_MS} (H : ∀ qu rs wk fo, fd_MI p S → fd_R rs S.1 → fd_AL fo S.2 → post (nI S.2.length, he, re, op, qu, rs, wk, fo)) : ∀ (j k : Nat) (s : fd_MS) (qu rs wk fo : Nat → Int64), k + j = 5 → fd_MI p s → fd_R rs s.1 → fd_AL fo s.2 → fd_mi p u j s = S → wX_takeOperandModulo_2 post (nI d) (nI p) (j + 1) (nI k) (nI s.2.length) he re op qu rs wk fo := by
  intro j
  induction j with
  | zero =>
    intro k s qu rs wk fo hk hI hrs hfo e
    have e5 : k = 5 := by omega
    subst e5
    rw [fd_mi] at e
    subst e
    exact br_t (nI_le (a := 5) (b := 5) (Nat.le_refl 5) (by decide)) (H qu rs wk fo hI hrs hfo)
  | succ j ih =>
    intro k s qu rs wk fo hk hI hrs hfo e
    refine br_f (nI_ge (b := 5) (by omega) (by decide)) (xs_divRM hp hp7 (by omega) hu hu1 huB hop hrs hI.1 hI.2.1 (fun q qu1 rs1 wk1 hq hrs1 => ?_) (fun hn qu1 wk1 => ?_))
    · dsimp only
      have hI2 := fd_MI_ms (by omega) hd1 (by omega) hu hu1 huB hI
      rw [fd_mi] at e
      rw [fd_ms_yes hu hu1 hq] at e hI2
      have hlen : s.2.length < 5 := by
        obtain ⟨_, _, ⟨e', _, hle⟩, _⟩ := hI2
        have hle' : (s.2 ++ [u]).length + e' ≤ 5 := hle
        rw [List.length_append, List.length_singleton] at hle'
        omega
      refine br_f (by decide) (xs_addFound_operand hlen (fun fo1 h1 h2 => ?_))
      dsimp only
      have h := ih (k + 1) (q, s.2 ++ [u]) qu1 rs1 wk1 fo1 (by omega) hI2 hrs1 (fd_AL_snoc hfo h1 h2 hop) e
      have el : (s.2 ++ [u]).length = s.2.length + 1 := by rw [List.length_append, List.length_singleton]
      refine nm_r (nI_1 k) ?_
      rw [← el]
      exact h
    · dsimp only
      rw [fd_mi_no hn] at e
      subst e
      exact br_t rfl (H qu1 rs wk1 fo hI hrs hfo)
theorem fd_mu_lin {p l : Nat} (h : l < p) : fd_mu p l = fd_q 0 1 (l : Int) ∧ fd_md p l = 1 := by
  unfold fd_mu fd_md
  rw [if_pos h, if_pos h]; exact ⟨rfl, rfl⟩
theorem fd_mu_quad {p m l : Nat} (h : l < p) : fd_mu p (p + m * p + l) = fd_q 1 (m : Int) (l : Int) ∧ fd_md p (p + m * p + l) = 2 := by
  unfold fd_mu fd_md
  have h0 : ¬ p + m * p + l < p := by omega
  rw [if_neg h0, if_neg h0]
  have h1 : (p + m * p + l - p) / p = m := by
    have e : p + m * p + l - p = l + m * p := by omega
    rw [e, Nat.add_mul_div_right _ _ (by omega), Nat.div_eq_of_lt h]; omega
  have h2 : (p + m * p + l) % p = l := by
    have e : p + m * p + l = l + (m + 1) * p := by rw [Nat.add_mul]; omega
    rw [e, Nat.add_mul_mod_self_right, Nat.mod_eq_of_lt h]
  rw [h1, h2]; exact ⟨rfl, rfl⟩
theorem xs_fm70 {post : Int32 → SX → Prop} {J : Int32 → Int32 → (Nat → Int32) → (Nat → Int64) → (Nat → Int64) → (Nat → Int64) → (Nat → Int64) → (Nat → Int64) → (Nat → Int64) → Prop} {he : Nat → Int32} {re : Nat → Int64} {p m : Nat} (hp : 2 ≤ p) (hp7 : p ≤ 7) (hm : m < p) (s0 : fd_MS)
    (HJ : ∀ op qu rs wk fo, fd_MI p (fd_mz p s0 (p + (m + 1) * p)) → fd_R rs (fd_mz p s0 (p + (m + 1) * p)).1 → fd_AL fo (fd_mz p s0 (p + (m + 1) * p)).2 → J (nI (m + 1)) (nI (fd_mz p s0 (p + (m + 1) * p)).2.length) he re op qu rs wk fo) : ∀ (n l : Nat) (op qu rs wk fo : Nat → Int64), l + n = p → fd_MI p (fd_mz p s0 (p + m * p + l)) → fd_R rs (fd_mz p s0 (p + m * p + l)).1 → fd_AL fo (fd_mz p s0 (p + m * p + l)).2 → wX_findFactorsModulo_70 post J (nI p) (nI m) (n + 1) (nI l) (nI (fd_mz p s0 (p + m * p + l)).2.length) he re op qu rs wk fo := by
  intro n
  induction n with
  | zero =>
    intro l op qu rs wk fo hl hI hrs hfo
    have e : l = p := by omega
    subst e
    have e2 : l + m * l + l = l + (m + 1) * l := by rw [Nat.add_mul]; omega
    rw [e2] at hI hrs hfo ⊢
    exact br_t (nI_le (Nat.le_refl l) (by omega)) (nm_r (nI_1 m) (HJ op qu rs wk fo hI hrs hfo))
  | succ n ih =>
    intro l op qu rs wk fo hl hI hrs hfo
    have hbc : p + m * p + l < p * p + p := by
      have h1 : (m + 1) * p ≤ p * p := Nat.mul_le_mul_right _ (by omega)
      rw [Nat.add_mul] at h1
      omega
    obtain ⟨u1, u2, u3⟩ := fd_mu_ok hp hp7 hbc
    obtain ⟨em, ed⟩ := fd_mu_quad (m := m) (by omega : l < p)
    rw [ed] at u1 u2
    refine br_f (nI_ge (by omega) (by omega)) ?_
    have h := xs_makeOperand (post := fun u => match u with | (f1, f2, f3, f4, f5, f6, f7, f8) => wpX_takeOperandModulo (fun u => match u with | (g1, g2, g3, g4, g5, g6, g7, g8) => ∀ x4_70 : Int32, x4_70 = nI l + 1 → wX_findFactorsModulo_70 post J (nI p) (nI m) (n + 1) x4_70 g1 g2 g3 g4 g5 g6 g7 g8) (f1, f2, f3, f4, f5, f6, f7, f8) 2 (nI p)) (fc := nI (fd_mz p s0 (p + m * p + l)).2.length) (he := he) (re := re) (op := op) (qu := qu) (rs := rs) (wk := wk) (fo := fo) (t := 1) (m := (m : Int)) (l := (l : Int)) (fd_k_lit (by decide)) (fd_k_lit (by omega)) (fd_k_lit (by omega)) (fun op1 hop => ?_)
    · rw [fd_i_nat, fd_i_nat] at h
      exact h
    · dsimp only
      rw [← em] at hop
      refine ⟨6, xs_takeMod hp hp7 (by decide) (Nat.le_refl 2) u1 u2 u3 hop (S := fd_mz p s0 (p + m * p + l + 1)) (fun qu rs wk fo hI hrs hfo => ?_) 5 0 _ qu rs wk fo (by omega) hI hrs hfo rfl⟩
      dsimp only
      exact nm_r (nI_1 l) (ih (l + 1) op1 qu rs wk fo (by omega) hI hrs hfo)
theorem xs_fm62 {post : Int32 → SX → Prop} {he : Nat → Int32} {re : Nat → Int64} {p : Nat} (hp : 2 ≤ p) (hp7 : p ≤ 7) (f : Nat → Int)
    (H : ∀ L op qu rs wk fo, fd_ML p f L → fd_MB L → fd_AL fo L → post 1 (nI L.length, he, re, op, qu, rs, wk, fo)) : ∀ (n m : Nat) (op qu rs wk fo : Nat → Int64), m + n = p → fd_MI p (fd_mz p (f, []) (p + m * p)) → fd_R rs (fd_mz p (f, []) (p + m * p)).1 → fd_AL fo (fd_mz p (f, []) (p + m * p)).2 → wX_findFactorsModulo_62 post (nI p) (n + 1) (nI m) (nI (fd_mz p (f, []) (p + m * p)).2.length) he re op qu rs wk fo := by
  intro n
  induction n with
  | zero =>
    intro m op qu rs wk fo hm hI hrs hfo
    have e : m = p := by omega
    subst e
    have e2 : m + m * m = m * m + m := by omega
    rw [e2] at hI hrs hfo ⊢
    obtain ⟨i1, i2, ⟨e, he', hle⟩, i4⟩ := hI
    have hB : fd_B (fd_mz m (f, []) (m * m + m)).1 6 := fun i => by have := i1 i; omega
    refine br_t (nI_le (Nat.le_refl m) (by omega)) (xs_deg_rest hrs hB (by decide) i2 (fun z => absurd z (fd_D_nz he')) (fun d hd hD => ?_))
    have ee := fd_D_u hD he'
    subst ee
    by_cases h0 : d = 0
    · subst h0
      exact br_t (nI_le (a := 0) (b := 0) (Nat.le_refl 0) (by decide)) (H _ op qu rs wk fo ⟨0, hD, fun _ => rfl, fun h => absurd h (by decide)⟩ ⟨by omega, i4⟩ hfo)
    · refine br_f (nI_nle (by omega) (by omega)) (xs_addFound_rest (by omega) (fun fo1 h1 h2 => ?_))
      dsimp only
      have hl : ((fd_mz m (f, []) (m * m + m)).2 ++ [(fd_mz m (f, []) (m * m + m)).1]).length = (fd_mz m (f, []) (m * m + m)).2.length + 1 := by rw [List.length_append, List.length_singleton]
      have h := H ((fd_mz m (f, []) (m * m + m)).2 ++ [(fd_mz m (f, []) (m * m + m)).1]) op qu rs wk fo1 ⟨d, hD, fun h => absurd h h0, fun _ => rfl⟩ ⟨by omega, fun g hg => ?_⟩ (fd_AL_snoc hfo h1 h2 hrs)
      · rw [hl] at h; exact h
      · rcases List.mem_append.mp hg with h | h
        · exact i4 g h
        · rw [List.mem_singleton.mp h]; exact ⟨d, hD, by omega, hB⟩
  | succ n ih =>
    intro m op qu rs wk fo hm hI hrs hfo
    refine br_f (nI_ge (by omega) (by omega)) ⟨p + 1, ?_⟩
    exact xs_fm70 hp hp7 (by omega) (f, []) (fun op qu rs wk fo hI hrs hfo => ih (m + 1) op qu rs wk fo (by omega) hI hrs hfo) p 0 op qu rs wk fo (by omega) hI hrs hfo
theorem xs_fm36 {post : Int32 → SX → Prop} {he : Nat → Int32} {re : Nat → Int64} {p : Nat} (hp : 2 ≤ p) (hp7 : p ≤ 7) (f : Nat → Int)
    (H : ∀ L op qu rs wk fo, fd_ML p f L → fd_MB L → fd_AL fo L → post 1 (nI L.length, he, re, op, qu, rs, wk, fo)) : ∀ (n l : Nat) (op qu rs wk fo : Nat → Int64), l + n = p → fd_MI p (fd_mz p (f, []) l) → fd_R rs (fd_mz p (f, []) l).1 → fd_AL fo (fd_mz p (f, []) l).2 → wX_findFactorsModulo_36 post (nI p) (n + 1) (nI l) (nI (fd_mz p (f, []) l).2.length) he re op qu rs wk fo := by
  intro n
  induction n with
  | zero =>
    intro l op qu rs wk fo hl hI hrs hfo
    have e : l = p := by omega
    subst e
    have e2 : l = l + 0 * l := by omega
    refine br_t (nI_le (Nat.le_refl l) (by omega)) ⟨l + 1, ?_⟩
    have h := xs_fm62 hp hp7 f H l 0 op qu rs wk fo (by omega) (by rw [← e2]; exact hI) (by rw [← e2]; exact hrs) (by rw [← e2]; exact hfo)
    rw [← e2] at h
    exact h
  | succ n ih =>
    intro l op qu rs wk fo hl hI hrs hfo
    obtain ⟨u1, u2, u3⟩ := fd_mu_ok (p := p) (bc := l) hp hp7 (by omega)
    obtain ⟨em, ed⟩ := fd_mu_lin (by omega : l < p)
    rw [ed] at u1 u2
    refine br_f (nI_ge (by omega) (by omega)) ?_
    have h := xs_makeOperand (post := fun u => match u with | (f1, f2, f3, f4, f5, f6, f7, f8) => wpX_takeOperandModulo (fun u => match u with | (g1, g2, g3, g4, g5, g6, g7, g8) => ∀ x4_70 : Int32, x4_70 = nI l + 1 → wX_findFactorsModulo_36 post (nI p) (n + 1) x4_70 g1 g2 g3 g4 g5 g6 g7 g8) (f1, f2, f3, f4, f5, f6, f7, f8) 1 (nI p)) (fc := nI (fd_mz p (f, []) l).2.length) (he := he) (re := re) (op := op) (qu := qu) (rs := rs) (wk := wk) (fo := fo) (t := 0) (m := 1) (l := (l : Int)) (fd_k_lit (by decide)) (fd_k_lit (by decide)) (fd_k_lit (by omega)) (fun op1 hop => ?_)
    · rw [fd_i_nat] at h
      exact h
    · dsimp only
      rw [← em] at hop
      refine ⟨6, xs_takeMod hp hp7 (Nat.le_refl 1) (by decide) u1 u2 u3 hop (S := fd_mz p (f, []) (l + 1)) (fun qu rs wk fo hI hrs hfo => ?_) 5 0 _ qu rs wk fo (by omega) hI hrs hfo rfl⟩
      dsimp only
      exact nm_r (nI_1 l) (ih (l + 1) op1 qu rs wk fo (by omega) hI hrs hfo)
theorem fd_MI_0 {p : Nat} {f : Nat → Int} (hp : 2 ≤ p) (hL : fd_L f 5) (hz : fd_red p f ≠ fd_z) : fd_MI p (fd_red p f, []) := by
  have h5 := fd_red_L (p := p) hL
  obtain ⟨e, he5, he⟩ := fd_D_exL h5 hz
  exact ⟨fd_red_rd (by omega) f, h5, ⟨e, he, by show ([] : List (Nat → Int)).length + e ≤ 5; simp; exact he5⟩, fun g hg => absurd hg List.not_mem_nil⟩
theorem xs_findMod {post : Int32 → SX → Prop} {fc : Int32} {he : Nat → Int32} {re op qu rs wk fo : Nat → Int64} {r p : Nat} (hr : r < 4) (hok : fd_ok he) (hp : 2 ≤ p) (hp7 : p ≤ 7)
    (H0 : fd_red p (fd_reg he r) = fd_z → ∀ fc rs, post 0 (fc, he, re, op, qu, rs, wk, fo))
    (H1 : fd_red p (fd_reg he r) ≠ fd_z → ∀ L op qu rs wk fo, fd_ML p (fd_red p (fd_reg he r)) L → fd_MB L → fd_AL fo L → post 1 (nI L.length, he, re, op, qu, rs, wk, fo)) : wpX_findFactorsModulo post (fc, he, re, op, qu, rs, wk, fo) (nI r) (nI p) := by
  unfold wpX_findFactorsModulo
  dsimp only
  have h0 := fd_reg_H0 hok hr
  refine xs_load_rest hr (fun rs1 hrs1 => ?_)
  dsimp only
  refine xs_reduce_rest hp hp7 (fd_reg_R hrs1) (fd_B_mono (fd_H0_B h0) (by decide)) (fun rs2 hrs2 => ?_)
  dsimp only
  have hB : fd_B (fd_red p (fd_reg he r)) 7 := fun i => by have := fd_red_rd (by omega : (0 : Int) < p) (fd_reg he r) i; omega
  refine xs_deg_rest hrs2 hB (by decide) (fd_red_L h0.2) (fun hz => br_f (by decide) (H0 hz _ _)) (fun d hd hD => br_t (nI_pos' (by omega)) ⟨p + 1, ?_⟩)
  have hz := fd_D_nz hD
  exact xs_fm36 hp hp7 (fd_red p (fd_reg he r)) (fun L op qu rs wk fo h1 h2 h3 => H1 hz L op qu rs wk fo h1 h2 h3) p 0 op qu rs2 wk fo (by omega) (fd_MI_0 hp h0.2 hz) hrs2 (fd_AL_nil fo)
