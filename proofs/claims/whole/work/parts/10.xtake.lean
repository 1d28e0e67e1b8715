/-! the component's search for factors -/
def fd_AL (fo : Nat → Int64) (L : List (Nat → Int)) : Prop := ∀ k, k < L.length → ∀ i, i < 6 → fo (k * 6 + i) = fd_l (L.getD k fd_z i)
theorem fd_getD_l {L : List (Nat → Int)} {g : Nat → Int} {k : Nat} (h : k < L.length) : (L ++ [g]).getD k fd_z = L.getD k fd_z := by
  rw [List.getD_eq_getElem?_getD, List.getD_eq_getElem?_getD, List.getElem?_append_left h]
theorem fd_getD_r (L : List (Nat → Int)) (g : Nat → Int) : (L ++ [g]).getD L.length fd_z = g := by
  rw [List.getD_eq_getElem?_getD, List.getElem?_append_right (Nat.le_refl _)]; simp
theorem fd_AL_nil (fo : Nat → Int64) : fd_AL fo [] := fun k hk => absurd hk (Nat.not_lt_zero k)
theorem fd_AL_snoc {fo t op : Nat → Int64} {L : List (Nat → Int)} {g : Nat → Int} (h : fd_AL fo L) (h1 : ∀ i, i < 6 → t (L.length * 6 + i) = op i) (h2 : ∀ j, j < L.length * 6 → t j = fo j) (hop : fd_R op g) : fd_AL t (L ++ [g]) := by
  intro k hk i hi
  rw [List.length_append, List.length_singleton] at hk
  by_cases e : k = L.length
  · rw [e, fd_getD_r, h1 i hi, hop i hi]
  · have hk' : k < L.length := by omega
    rw [fd_getD_l hk', h2 _ (by omega), h k hk' i hi]
theorem fd_St_B {F f : Nat → Int} {L : List (Nat → Int)} (hF : fd_H F) (h : fd_St F f L) : fd_B f 170000 := by
  obtain ⟨q, hq, e⟩ := fd_St_dv h
  exact fd_bB hF (fd_St_F h) hq e
theorem fd_q_B {t m l : Int} {G : Nat} (ht : t.natAbs ≤ G) (hm : m.natAbs ≤ G) (hl : l.natAbs ≤ G) : fd_B (fd_q t m l) G := by
  intro i
  match i with
  | 0 => exact hl
  | 1 => exact hm
  | 2 => exact ht
  | (k + 3) => rw [fd_q_L t m l (k + 3) (by omega)]; simp
theorem fd_pow_le (d : Nat) (hd : 1 ≤ d) (tt : Nat) : 170000 * (1 + 100) ^ (min (6 - d) tt) ≤ 4611686018427387904 := by
  have h1 : (1 + 100) ^ (min (6 - d) tt) ≤ (1 + 100) ^ 5 := Nat.pow_le_pow_right (by decide) (by omega)
  exact Nat.le_trans (Nat.mul_le_mul_left _ h1) (by decide)
theorem fd_i_1 (z : Int) : fd_i z + 1 = fd_i (z + 1) := fd_i_add z 1
theorem xs_take80 {post : SX → Prop} {J14 J24 : Int32 → Int32 → (Nat → Int32) → (Nat → Int64) → (Nat → Int64) → (Nat → Int64) → (Nat → Int64) → (Nat → Int64) → (Nat → Int64) → Prop} {x1 x3 x5 : Int32} {he : Nat → Int32} {re : Nat → Int64} {F : Nat → Int} (hF : fd_H F) {t m l : Int} {d : Nat} (hd1 : 1 ≤ d) (hd2 : d ≤ 2) (hD : fd_D (fd_q t m l) d) (hB : fd_B (fd_q t m l) 100)
    (P Q : (Nat → Int) → List (Nat → Int) → Prop) (hSt : ∀ f L, P f L → fd_St F f L)
    (hT : ∀ f f' L, P f L → fd_F f' → fd_mul (fd_q t m l) f' = f → P f' (L ++ [fd_q t m l]))
    (hN : ∀ f L, P f L → ¬ fd_dv (fd_q t m l) f → Q f L)
    (HJ : ∀ f L op qu rs wk fo, Q f L → fd_R rs f → fd_AL fo L → J24 (fd_i (l + 1)) (nI L.length) he re op qu rs wk fo) :
    ∀ (j k : Nat) (f : Nat → Int) (L : List (Nat → Int)) (op qu rs wk fo : Nat → Int64), k + j = 5 → k ≤ L.length → P f L → fd_R op (fd_q t m l) → fd_R rs f → fd_AL fo L → wX_takeFactors_80 post J14 J24 x1 x3 (nI d) x5 (fd_i l) (j + 1) (nI k) (nI L.length) he re op qu rs wk fo := by
  intro j
  induction j with
  | zero =>
    intro k f L op qu rs wk fo hk hkL hP hop hrs hfo
    have hst := hSt f L hP
    have e : k = 5 := by omega
    subst e
    refine br_t (nI_le (a := 5) (b := 5) (Nat.le_refl 5) (by decide)) (nm_r (fd_i_1 l) (HJ f L op qu rs wk fo (hN f L hP fun hdv => ?_) hrs hfo))
    obtain ⟨_, _, e, hDf, _⟩ := id hst
    have h1 := fd_St_len hF.2.1 hst hDf
    obtain ⟨q, hq, eq'⟩ := hdv
    obtain ⟨a, b, ha, hb, hab⟩ := fd_D_split (fd_D_F hD) hq eq' hDf
    have := fd_D_u ha hD
    omega
  | succ j ih =>
    intro k f L op qu rs wk fo hk hkL hP hop hrs hfo
    have hst := hSt f L hP
    refine br_f (nI_ge (b := 5) (by omega) (by decide)) (xs_divideRest hD (by omega) hop hB (by decide) hrs (fd_St_L5 hF.2.1 hst) (tt := 6) (fun j' hj' => fd_St_L5 hF.2.1 hst j' (by omega)) (fd_St_B hF hst) (fd_pow_le d hd1 6) (fun qu1 rs1 wk1 f' hf' hL' e => ?_) (fun hn qu1 wk1 => ?_))
    · dsimp only
      have hlen : L.length < 5 := by
        obtain ⟨_, _, e2, hDf, _⟩ := id hst
        have h1 := fd_St_len hF.2.1 hst hDf
        obtain ⟨a, b, ha, hb, hab⟩ := fd_D_split (fd_D_F hD) (fd_L_F hL') e hDf
        have := fd_D_u ha hD
        omega
      refine br_f (by decide) (xs_addFound_operand hlen (fun fo1 h1 h2 => ?_))
      dsimp only
      refine nm_r (nI_1 k) ?_
      have := ih (k + 1) f' (L ++ [fd_q t m l]) op qu1 rs1 wk1 fo1 (by omega) (by rw [List.length_append, List.length_singleton]; omega) (hT f f' L hP (fd_L_F hL') e) hop hf' (fd_AL_snoc hfo h1 h2 hop)
      rw [List.length_append, List.length_singleton] at this
      exact this
    · dsimp only
      exact br_t rfl (nm_r (fd_i_1 l) (HJ f L op qu1 rs wk1 fo (hN f L hP hn) hrs hfo))
theorem xs_take24 {post : SX → Prop} {J14 : Int32 → Int32 → (Nat → Int32) → (Nat → Int64) → (Nat → Int64) → (Nat → Int64) → (Nat → Int64) → (Nat → Int64) → (Nat → Int64) → Prop} {x3 : Int32} {he : Nat → Int32} {re : Nat → Int64} {F : Nat → Int} (hF : fd_H F) {t m : Int} {d : Nat} (hd1 : 1 ≤ d) (hd2 : d ≤ 2) (hD : ∀ l, fd_D (fd_q t m l) d) (ht : t.natAbs ≤ 100) (hm : m.natAbs ≤ 100)
    (P : Int → (Nat → Int) → List (Nat → Int) → Prop) (hSt : ∀ l f L, P l f L → fd_St F f L)
    (hT : ∀ l f f' L, P l f L → fd_F f' → fd_mul (fd_q t m l) f' = f → P l f' (L ++ [fd_q t m l]))
    (hN : ∀ l f L, P l f L → ¬ fd_dv (fd_q t m l) f → P (l + 1) f L)
    (HJ : ∀ f L op qu rs wk fo, P 21 f L → fd_R rs f → fd_AL fo L → J14 (fd_i (m + 1)) (nI L.length) he re op qu rs wk fo) :
    ∀ (k : Nat) (l : Int) (f : Nat → Int) (L : List (Nat → Int)) (op qu rs wk fo : Nat → Int64), k ≤ 41 → l = 21 - (k : Int) → P l f L → fd_R rs f → fd_AL fo L → wX_takeFactors_24 post J14 (fd_i t) x3 (nI d) (fd_i m) (k + 1) (fd_i l) (nI L.length) he re op qu rs wk fo := by
  intro k
  induction k with
  | zero =>
    intro l f L op qu rs wk fo hk hl hP hrs hfo
    have e : l = 21 := by omega
    subst e
    exact br_t ((fd_i_lt (a := 20) (b := 21) (fd_k_lit (by decide)) (fd_k_lit (by decide))).mpr (by decide)) (nm_r (fd_i_1 m) (HJ f L op qu rs wk fo hP hrs hfo))
  | succ k ih =>
    intro l f L op qu rs wk fo hk hl hP hrs hfo
    have hst := hSt l f L hP
    have hlk : fd_k l := fd_k_lit (by omega)
    have hls : fd_s l := fd_s_lit (by omega)
    have hgo : ∀ (op' : Nat → Int64), wX_takeFactors_68 post J14 (wX_takeFactors_24 post J14 (fd_i t) x3 (nI d) (fd_i m) (k + 1)) (fd_i t) x3 (nI d) (fd_i m) (fd_i l) (nI L.length) he re op qu rs wk fo := by
      intro _
      unfold wX_takeFactors_68
      refine xs_makeOperand (fd_k_lit (by omega)) (fd_k_lit (by omega)) hlk (fun op1 hop => ⟨5 + 1, ?_⟩)
      refine xs_take80 hF hd1 hd2 (hD l) (fd_q_B ht hm (by omega)) (P l) (P (l + 1)) (hSt l) (hT l) (hN l) (fun f L op qu rs wk fo hP hrs hfo => ih (l + 1) f L op qu rs wk fo (by omega) (by omega) hP hrs hfo) 5 0 f L op1 qu rs wk fo (by omega) (by omega) hP hop hrs hfo
    have hskip : ¬ fd_dv (fd_q t m l) f → wX_takeFactors_24 post J14 (fd_i t) x3 (nI d) (fd_i m) (k + 1) (fd_i (l + 1)) (nI L.length) he re op qu rs wk fo := fun hn => ih (l + 1) f L op qu rs wk fo (by omega) (by omega) (hN l f L hP hn) hrs hfo
    have hfs : fd_s (f 0) := fd_s_of (fd_St_B hF hst 0) (by decide)
    have hr0 : rs 0 = fd_l (f 0) := hrs 0 (by decide)
    refine br_f (fun z => ?_) ?_
    · have := (fd_i_lt (a := 20) (b := l) (fd_k_lit (by decide)) hlk).mp z
      omega
    · by_cases hl0 : l = 0
      · refine br_t (by rw [hl0]; rfl) (br_c (fun z => hgo op) (fun z => nm_r (fd_i_1 l) (hskip fun hdv => z ?_)))
        rw [hr0]
        have h1 := fd_q_low hdv
        rw [hl0] at h1
        rw [Int.zero_dvd.mp h1]; exact fd_l_0
      · refine br_f (fun z => hl0 ((fd_i_eq hlk (fd_k_lit (by decide))).mp (z.trans (by rfl)))) ⟨?_, ?_⟩
        · rw [fd_i_l hlk]; exact fun z => hl0 ((fd_l_z hls).mp z)
        · rw [fd_i_l hlk, hr0]
          exact br_c (fun z => hgo op) (fun z => nm_r (fd_i_1 l) (hskip fun hdv => z ((fd_l_rem0 hfs hls).mpr (fd_q_low hdv))))
theorem xs_take14 {post : SX → Prop} {he : Nat → Int32} {re : Nat → Int64} {F : Nat → Int} (hF : fd_H F) {t m0 m1 : Int} {d : Nat} (hd1 : 1 ≤ d) (hd2 : d ≤ 2) (hm0 : -100 ≤ m0) (hm1 : m1 ≤ 99) (hD : ∀ m l, m0 ≤ m → m ≤ m1 → fd_D (fd_q t m l) d) (ht : t.natAbs ≤ 100)
    (P : Int → Int → (Nat → Int) → List (Nat → Int) → Prop) (hSt : ∀ m l f L, P m l f L → fd_St F f L)
    (hT : ∀ m l f f' L, m0 ≤ m → m ≤ m1 → P m l f L → fd_F f' → fd_mul (fd_q t m l) f' = f → P m l f' (L ++ [fd_q t m l]))
    (hN : ∀ m l f L, P m l f L → ¬ fd_dv (fd_q t m l) f → P m (l + 1) f L)
    (hRow : ∀ m f L, P m 21 f L → P (m + 1) (-20) f L)
    (HJ : ∀ f L op qu rs wk fo, P (m1 + 1) (-20) f L → fd_R rs f → fd_AL fo L → post (nI L.length, he, re, op, qu, rs, wk, fo)) :
    ∀ (k : Nat) (m : Int) (f : Nat → Int) (L : List (Nat → Int)) (op qu rs wk fo : Nat → Int64), m0 ≤ m → m = m1 + 1 - (k : Int) → P m (-20) f L → fd_R rs f → fd_AL fo L → wX_takeFactors_14 post (fd_i t) (fd_i m1) (nI d) (k + 1) (fd_i m) (nI L.length) he re op qu rs wk fo := by
  intro k
  induction k with
  | zero =>
    intro m f L op qu rs wk fo hm hk hP hrs hfo
    have e : m = m1 + 1 := by omega
    subst e
    exact br_t ((fd_i_lt (fd_k_lit (by omega)) (fd_k_lit (by omega))).mpr (by omega)) (HJ f L op qu rs wk fo hP hrs hfo)
  | succ k ih =>
    intro m f L op qu rs wk fo hm hk hP hrs hfo
    refine br_f (fun z => ?_) ⟨41 + 1, ?_⟩
    · have := (fd_i_lt (fd_k_lit (by omega)) (fd_k_lit (by omega))).mp z
      omega
    · exact xs_take24 hF hd1 hd2 (fun l => hD m l hm (by omega)) ht (by omega) (P m) (hSt m) (fun l f f' L => hT m l f f' L hm (by omega)) (hN m) (fun f L op qu rs wk fo hP hrs hfo => ih (m + 1) f L op qu rs wk fo (by omega) (by omega) (hRow m f L hP) hrs hfo) 41 (-20) f L op qu rs wk fo (Nat.le_refl 41) (by decide) hP hrs hfo
/-- degree 1 -/
theorem xs_takeLin {post : SX → Prop} {he : Nat → Int32} {re op qu rs wk fo : Nat → Int64} {F : Nat → Int} {d : Nat} (hF : fd_H F) (hp : fd_pr F) (hDF : fd_D F d) (hpos : 0 < F d) (hrs : fd_R rs F)
    (H : ∀ f L op qu rs wk fo, fd_St F f L → fd_LF f → List.Pairwise fd_le L → (∀ p ∈ L, fd_D p 1) → fd_R rs f → fd_AL fo L → post (nI L.length, he, re, op, qu, rs, wk, fo)) : wpX_takeFactors post (nI 0, he, re, op, qu, rs, wk, fo) 0 1 20 := by
  refine br_t rfl ⟨20 + 1, ?_⟩
  exact xs_take14 (t := 0) (m0 := 1) (m1 := 20) (d := 1) hF (Nat.le_refl 1) (by decide) (by decide) (by decide) (fun m l h1 h2 => fd_q_D1 l (by omega)) (by decide) (fun m l f L => fd_P1 F f L m l) (fun m l f L h => h.1) (fun m l f f' L h1 h2 h hf' e => fd_P1_take hp h h1 hf' e) (fun m l f L h hn => fd_P1_next h hn) (fun m f L h => fd_P1_row h) (fun f L op qu rs wk fo hP hrs hfo => H f L op qu rs wk fo hP.1 (fd_P1_end hF hP) hP.2.1 (fun p hp => (hP.2.2.1 p hp).1) hrs hfo) 20 1 F [] op qu rs wk fo (by decide) (by decide) (fd_P1_0 hDF hpos) hrs (fd_AL_nil fo)
/-- degree 2, leading coefficient t -/
theorem xs_takeQuad {post : SX → Prop} {he : Nat → Int32} {re op qu rs wk fo : Nat → Int64} {F f : Nat → Int} {L1 L : List (Nat → Int)} {t : Int} (hF : fd_H F) (hp : fd_pr F) (ht : 1 ≤ t) (ht2 : t ≤ 20) (hP : ∃ L2, L = L1 ++ L2 ∧ fd_P2 F f L1 L2 t (-98) (-20)) (hrs : fd_R rs f) (hfo : fd_AL fo L)
    (H : ∀ f L op qu rs wk fo, (∃ L2, L = L1 ++ L2 ∧ fd_P2 F f L1 L2 (t + 1) (-98) (-20)) → fd_R rs f → fd_AL fo L → post (nI L.length, he, re, op, qu, rs, wk, fo)) : wpX_takeFactors post (nI L.length, he, re, op, qu, rs, wk, fo) (fd_i t) (-98) 98 := by
  refine br_f (fun z => ?_) ⟨197 + 1, ?_⟩
  · have := (fd_i_eq (b := 0) (fd_k_lit (by omega)) (fd_k_lit (by decide))).mp z
    omega
  · exact xs_take14 (t := t) (m0 := -98) (m1 := 98) (d := 2) hF (by decide) (Nat.le_refl 2) (by decide) (by decide) (fun m l h1 h2 => fd_q_D2 m l (by omega)) (by omega) (fun m l f L => ∃ L2, L = L1 ++ L2 ∧ fd_P2 F f L1 L2 t m l) (fun m l f L h => by obtain ⟨L2, e, h⟩ := h; rw [e]; exact h.1)
      (fun m l f f' L h1 h2 h hf' e => by obtain ⟨L2, e2, h⟩ := h; exact ⟨L2 ++ [fd_q t m l], by rw [e2, List.append_assoc], fd_P2_take hF hp h ht hf' e⟩)
      (fun m l f L h hn => by obtain ⟨L2, e2, h⟩ := h; exact ⟨L2, e2, fd_P2_next h hn⟩)
      (fun m f L h => by obtain ⟨L2, e2, h⟩ := h; exact ⟨L2, e2, fd_P2_row h⟩)
      (fun f L op qu rs wk fo hP hrs hfo => H f L op qu rs wk fo (by obtain ⟨L2, e2, h⟩ := hP; exact ⟨L2, e2, fd_P2_top h⟩) hrs hfo) 197 (-98) f L op qu rs wk fo (by decide) (by decide) hP hrs hfo
/-- what the search gives -/
def fd_Fac (f : Nat → Int) (L : List (Nat → Int)) : Prop := (∀ p ∈ L, fd_Irr p) ∧ List.Pairwise fd_le L ∧ L.length ≤ 5 ∧ (f = fd_z → L = []) ∧ (f ≠ fd_z → ∃ c, c ≠ 0 ∧ f = fd_sm c (fd_prod L))
theorem fd_Fac_u {f : Nat → Int} {L L' : List (Nat → Int)} (h : fd_Fac f L) (h' : fd_Fac f L') : L = L' := by
  by_cases hz : f = fd_z
  · rw [h.2.2.2.1 hz, h'.2.2.2.1 hz]
  · obtain ⟨c, hc, e⟩ := h.2.2.2.2 hz
    obtain ⟨c', hc', e'⟩ := h'.2.2.2.2 hz
    exact fd_uniq L L' c c' hc hc' h.1 h'.1 h.2.1 h'.2.1 (by rw [← e, ← e'])
theorem fd_Fac_mk {f F : Nat → Int} {L : List (Nat → Int)} {k : Int} (hk : k ≠ 0) (e : f = fd_sm k F) (hF : fd_H F) (hI : ∀ p ∈ L, fd_Irr p) (hs : List.Pairwise fd_le L) (hp : fd_prod L = F) : fd_Fac f L := by
  have hfz : f ≠ fd_z := by
    intro z
    obtain ⟨d, hd⟩ := fd_D_ex (fd_L_F hF.2.1) hF.2.2
    rw [e] at z
    exact fd_D_nz (fd_D_sm hk hd) z
  refine ⟨hI, hs, ?_, fun z => absurd z hfz, fun _ => ⟨k, hk, by rw [hp]; exact e⟩⟩
  obtain ⟨s, h1, _, h3⟩ := fd_prod_D L hI
  rw [hp] at h1
  have := fd_D_le h1 hF.2.1
  omega
theorem xs_find43 {post : SX → Prop} {he : Nat → Int32} {re : Nat → Int64} {F : Nat → Int} {L1 : List (Nat → Int)} (hF : fd_H F) (hp : fd_pr F) (hL1 : ∀ p ∈ L1, fd_D p 1) (hs1 : List.Pairwise fd_le L1)
    (H : ∀ L op qu rs wk fo, (∀ p ∈ L, fd_Irr p) → List.Pairwise fd_le L → fd_prod L = F → fd_AL fo L → post (nI L.length, he, re, op, qu, rs, wk, fo)) :
    ∀ (k : Nat) (t : Int) (f : Nat → Int) (L : List (Nat → Int)) (op qu rs wk fo : Nat → Int64), k ≤ 20 → t = 21 - (k : Int) → (∃ L2, L = L1 ++ L2 ∧ fd_P2 F f L1 L2 t (-98) (-20)) → fd_R rs f → fd_AL fo L → wX_findFactors_43 post (k + 1) (fd_i t) (nI L.length) he re op qu rs wk fo := by
  intro k
  induction k with
  | zero =>
    intro t f L op qu rs wk fo hk ht hP hrs hfo
    have e : t = 21 := by omega
    subst e
    obtain ⟨L2, eL, hP⟩ := hP
    have hst : fd_St F f L := by rw [eL]; exact hP.1
    refine br_t ((fd_i_lt (a := 20) (b := 21) (fd_k_lit (by decide)) (fd_k_lit (by decide))).mpr (by decide)) (xs_deg_rest hrs (fd_St_B hF hst) (by decide) (fd_St_L5 hF.2.1 hst) (fun z => absurd z (fd_St_nz hst)) (fun d hd hD => ?_))
    have hI2 : ∀ p ∈ L2, fd_Irr p := fun p hpm => hP.1.2.1 p (List.mem_append.mpr (Or.inr hpm))
    have hsort : List.Pairwise fd_le L := by rw [eL]; exact fd_sort12 hs1 hP.2.2.2.1 hL1 hP.2.2.1 hI2
    by_cases hd0 : d = 0
    · subst hd0
      exact br_t (nI_le (a := 0) (b := 0) (Nat.le_refl 0) (by decide)) (H L op qu rs wk fo hst.2.1 hsort (fd_fin0 hp hst hD) hfo)
    · obtain ⟨g1, g2, g3⟩ := fd_fin1 hF hp hst hP.2.1 hD (by omega) (fun h4 => fd_P2_end hF hP hD h4)
      have hlen := fd_St_len hF.2.1 hst hD
      refine br_f (nI_nle (by omega) (by omega)) (xs_addFound_rest (by omega) (fun fo1 h1 h2 => ?_))
      dsimp only
      have hh := H (L ++ [f]) op qu rs wk fo1 (fun p hpm => ?_) (fd_sort3 hsort (by rw [eL]; exact fd_P2_le hP hL1 hD g2)) g3 (fd_AL_snoc hfo h1 h2 hrs)
      · rw [List.length_append, List.length_singleton] at hh
        exact hh
      · rcases List.mem_append.mp hpm with h | h
        · exact hst.2.1 p h
        · rw [List.mem_singleton.mp h]; exact g1
  | succ k ih =>
    intro t f L op qu rs wk fo hk ht hP hrs hfo
    obtain ⟨L2, eL, hP2⟩ := id hP
    have hst : fd_St F f L := by rw [eL]; exact hP2.1
    have htk : fd_k t := fd_k_lit (by omega)
    have hts : fd_s t := fd_s_lit (by omega)
    refine br_f (fun z => ?_) (xs_deg_rest hrs (fd_St_B hF hst) (by decide) (fd_St_L5 hF.2.1 hst) (fun z => absurd z (fd_St_nz hst)) (fun d hd hD => ?_))
    · have := (fd_i_lt (a := 20) (b := t) (fd_k_lit (by decide)) htk).mp z
      omega
    · by_cases hd3 : d ≤ 3
      · exact br_t (nI_le (b := 3) hd3 (by decide)) (nm_r (fd_i_1 t) (ih (t + 1) f L op qu rs wk fo (by omega) (by omega) ⟨L2, eL, fd_P2_low hD hd3 _ _ _ hP2⟩ hrs hfo))
      · refine br_f (nI_ge (a := 3) (by omega) (by omega)) (xs_leadOf_rest hrs (fd_St_B hF hst) (by decide) (fd_St_L5 hF.2.1 hst) (fun z => absurd z (fd_St_nz hst)) (fun d' hd' hD' => ?_))
        have e := fd_D_u hD' hD
        subst e
        have hfs : fd_s (f d') := fd_s_of (fd_St_B hF hst d') (by decide)
        rw [fd_i_l htk]
        refine ⟨fun z => ?_, br_c (fun z => ?_) (fun z => ?_)⟩
        · have := (fd_l_z hts).mp z
          omega
        · refine xs_takeQuad hF hp (by omega) (by omega) hP hrs hfo (fun f L op qu rs wk fo hP hrs hfo => ?_)
          dsimp only
          exact nm_r (fd_i_1 t) (ih (t + 1) f L op qu rs wk fo (by omega) (by omega) hP hrs hfo)
        · refine nm_r (fd_i_1 t) (ih (t + 1) f L op qu rs wk fo (by omega) (by omega) ⟨L2, eL, fd_P2_skip hD (by omega) (fun hdv => z ((fd_l_rem0 hfs hts).mpr hdv)) hP2⟩ hrs hfo)
/-- the polynomial of a register -/
def fd_reg (he : Nat → Int32) (r : Nat) : Nat → Int := fun i => if i < 6 then (he (r * 6 + i)).toInt else 0
def fd_ok (he : Nat → Int32) : Prop := ∀ j, j < 24 → -20 ≤ (he j).toInt ∧ (he j).toInt ≤ 20
theorem fd_reg_H0 {he : Nat → Int32} {r : Nat} (h : fd_ok he) (hr : r < 4) : fd_H0 (fd_reg he r) := by
  refine ⟨fun i => ?_, fun j hj => ?_⟩
  · simp only [fd_reg]
    by_cases hi : i < 6
    · rw [if_pos hi]; exact h _ (by omega)
    · rw [if_neg hi]; omega
  · simp only [fd_reg]; rw [if_neg (by omega)]
theorem fd_reg_R {he : Nat → Int32} {r : Nat} {t : Nat → Int64} (h : ∀ i, i < 6 → t i = (he (r * 6 + i)).toInt64) : fd_R t (fd_reg he r) := fun i hi => by
  rw [h i hi, fd_of32]; simp only [fd_reg]; rw [if_pos hi]
theorem xs_findFactors {post : SX → Prop} {fc : Int32} {he : Nat → Int32} {re op qu rs wk fo : Nat → Int64} {r : Nat} (hr : r < 4) (hok : fd_ok he)
    (H : ∀ L op qu rs wk fo, fd_Fac (fd_reg he r) L → fd_AL fo L → post (nI L.length, he, re, op, qu, rs, wk, fo)) : wpX_findFactors post (fc, he, re, op, qu, rs, wk, fo) (nI r) := by
  unfold wpX_findFactors
  dsimp only
  refine xs_load_rest hr (fun rs1 hrs1 => ?_)
  dsimp only
  have h0 := fd_reg_H0 hok hr
  refine xs_makePrimitive_rest (fd_reg_R hrs1) h0 (fun hz => ?_) (fun rs2 F k d hrs2 hk e hF hp hD hpos => ?_)
  · dsimp only
    refine xs_deg_rest (fd_reg_R hrs1) (fd_H0_B h0) (by decide) h0.2 (fun _ => ?_) (fun d hd hD => absurd hz (fd_D_nz hD))
    exact br_f (by decide) (H [] op qu rs1 wk fo ⟨fun p hpm => absurd hpm List.not_mem_nil, List.Pairwise.nil, Nat.zero_le _, fun _ => rfl, fun hn => absurd hz hn⟩ (fd_AL_nil fo))
  · dsimp only
    have hB : fd_B F 20 := fun i => by have := hF.1 i; omega
    refine xs_deg_rest hrs2 hB (by decide) hF.2.1 (fun z => absurd z hF.2.2) (fun d' hd' hD' => ?_)
    have e2 := fd_D_u hD' hD
    subst e2
    by_cases hd1 : 1 ≤ d'
    · refine br_t (nI_le (a := 1) hd1 (by omega)) (xs_takeLin hF hp hD hpos hrs2 (fun f L op qu rs wk fo hst hlf hsL hL1 hrs hfo => ⟨20 + 1, ?_⟩))
      exact xs_find43 hF hp hL1 hsL (fun L op qu rs wk fo hI hs hprod hfo => H L op qu rs wk fo (fd_Fac_mk hk e hF hI hs hprod) hfo) 20 1 f L op qu rs wk fo (Nat.le_refl 20) (by decide) ⟨[], by rw [List.append_nil], fd_P2_0 hst hlf⟩ hrs hfo
    · have hd0 : d' = 0 := by omega
      subst hd0
      have hst : fd_St F F [] := ⟨by rw [fd_prod, fd_1_mul], fun p hp => absurd hp (List.not_mem_nil), 0, hD, hpos⟩
      exact br_f (nI_ge (a := 0) (b := 1) (by decide) (by decide)) (H [] op qu rs2 wk fo (fd_Fac_mk hk e hF (fun p hpm => absurd hpm List.not_mem_nil) List.Pairwise.nil (fd_fin0 hp hst hD)) (fd_AL_nil fo))
