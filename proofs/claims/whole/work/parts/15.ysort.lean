/-! the reference's order and its split -/
theorem fd_getD_mem {L : List (Nat → Int)} {k : Nat} (h : k < L.length) : L.getD k fd_z ∈ L := by
  rw [List.getD_eq_getElem?_getD, List.getElem?_eq_getElem h]; exact List.getElem_mem h
theorem fd_getD_eq {L : List (Nat → Int)} {k : Nat} (h : k < L.length) : L.getD k fd_z = L[k] := by
  rw [List.getD_eq_getElem?_getD, List.getElem?_eq_getElem h]; rfl
theorem fd_pw_get {L : List (Nat → Int)} (h : List.Pairwise fd_le L) {i j : Nat} (hij : i < j) (hj : j < L.length) : fd_le (L.getD i fd_z) (L.getD j fd_z) := by
  rw [fd_getD_eq hj, fd_getD_eq (Nat.lt_trans hij hj)]
  exact List.pairwise_iff_getElem.mp h i j _ _ hij
theorem fd_le_nlt {p q : Nat → Int} (h : fd_le p q) : ¬ fd_lt q p := by
  intro h'
  rcases h with e | h
  · rw [e] at h'; exact fd_lt_as h' h'
  · exact fd_lt_as h h'
theorem fd_total {p q : Nat → Int} (hp : fd_L p 5) (hq : fd_L q 5) : fd_le p q ∨ fd_lt q p := by
  have key : ∀ n, (∀ j, n ≤ j → p j = q j) → fd_le p q ∨ fd_lt q p := by
    intro n
    induction n with
    | zero => intro h; exact Or.inl (Or.inl (funext fun j => h j (Nat.zero_le j)))
    | succ n ih =>
      intro h
      rcases Int.lt_trichotomy (p n) (q n) with h1 | h1 | h1
      · exact Or.inl (Or.inr ⟨n, h1, fun j hj => h j hj⟩)
      · refine ih fun j hj => ?_
        by_cases e : j = n
        · rw [e]; exact h1
        · exact h j (by omega)
      · exact Or.inr ⟨n, h1, fun j hj => (h j hj).symm⟩
  exact key 6 fun j hj => by rw [hp j (by omega), hq j (by omega)]
theorem fd_dv_prod {L : List (Nat → Int)} (hI : ∀ p ∈ L, fd_Irr p) {p : Nat → Int} (hp : p ∈ L) : fd_dv p (fd_prod L) := by
  induction L with
  | nil => exact absurd hp List.not_mem_nil
  | cons q L ih =>
    have hF : fd_F (fd_prod L) := fd_F_prod L fun r hr => fd_irr_F (hI r (List.mem_cons_of_mem _ hr))
    rcases List.mem_cons.mp hp with e | e
    · rw [e]; exact ⟨_, hF, rfl⟩
    · exact fd_dv_mul_l q (fd_irr_F (hI q (List.mem_cons_self ..))) (ih (fun r hr => hI r (List.mem_cons_of_mem _ hr)) e)
/-- what all lists of factors have -/
def fd_LB (L : List (Nat → Int)) : Prop := ∀ p ∈ L, fd_Irr p ∧ fd_B p 170000 ∧ fd_L p 5
theorem fd_LB_mk {F : Nat → Int} {L : List (Nat → Int)} (hF : fd_H F) (hI : ∀ p ∈ L, fd_Irr p) (hd : fd_dv (fd_prod L) F) : fd_LB L := by
  intro p hp
  obtain ⟨q, hq, e⟩ := fd_dv_trans (fd_dv_prod hI hp) hd
  obtain ⟨_, ⟨d, _, hD, _⟩, _⟩ := id (hI p hp)
  refine ⟨hI p hp, fun i => fd_bB hF (fd_irr_F (hI p hp)) hq e i, ?_⟩
  obtain ⟨d5, hd5⟩ := fd_D_ex (fd_L_F hF.2.1) hF.2.2
  obtain ⟨a, b, ha, hb, hab⟩ := fd_D_split (fd_D_F hD) hq e hd5
  have := fd_D_le hd5 hF.2.1
  exact fd_L_mono ha.2 (by omega)
theorem fd_sub6 {a b : Nat} (ha : a < 6) (hb : b < 6) : (nI a - nI b = 0 ↔ a = b) ∧ (0 ≤ nI a - nI b ↔ b ≤ a) := by
  have hk : ∀ (a b : Fin 6), (nI a.val - nI b.val = 0 ↔ a.val = b.val) ∧ (0 ≤ nI a.val - nI b.val ↔ b.val ≤ a.val) := by decide
  exact hk ⟨a, ha⟩ ⟨b, hb⟩
section
variable {cn ot : Int32} {rg : Nat → Int32} {md wh td yr yq pt kp : Nat → Int64} {dg : Nat → Int32}
theorem ys_before29 {post : Int32 → Prop} {p q : Nat → Int} {k m : Nat} (hk : k < 6) (hm : m < 6) (hp : ∀ i, i < 6 → pt (k * 6 + i) = fd_l (p i)) (hq : ∀ i, i < 6 → pt (m * 6 + i) = fd_l (q i)) (hpB : fd_B p 170000) (hqB : fd_B q 170000) (hp5 : fd_L p 5) (hq5 : fd_L q 5) (H1 : fd_lt p q → post 1) (H0 : ¬ fd_lt p q → post 0) : ∃ n, wY_before_29 post (nI k) (nI m) cn ot rg md wh td yr yq pt kp dg n 5 := by
  refine fd_downS (fun n x => wY_before_29 post (nI k) (nI m) cn ot rg md wh td yr yq pt kp dg n x) (fun j => p j = q j) 6 5 (by decide) (fun h n => ?_) (fun n i hi h hW => ?_)
  · refine br_t (by decide) (H0 fun hlt => ?_)
    obtain ⟨i, h1, _⟩ := hlt
    by_cases hi : i < 6
    · have := h i hi; omega
    · rw [hp5 i (by omega), hq5 i (by omega)] at h1; omega
  · have hz : ∀ j, i < j → p j = q j := fun j hj => by
      by_cases hj6 : j < 6
      · exact h j hj hj6
      · rw [hp5 j (by omega), hq5 j (by omega)]
    have hps : fd_s (p i) := fd_s_of (hpB i) (by decide)
    have hqs : fd_s (q i) := fd_s_of (hqB i) (by decide)
    have hik : vp_in (6 * nI k + nI i) 36 := by rw [fd_ixZ]; exact vp_in_nI (by omega) (by decide)
    have him : vp_in (6 * nI m + nI i) 36 := by rw [fd_ixZ]; exact vp_in_nI (by omega) (by decide)
    refine br_f (nI_pos (by omega)) ⟨hik, him, ?_⟩
    rw [fd_ixZ, fd_ixZ, nI_clamp (by omega), nI_clamp (by omega), hp i hi, hq i hi]
    refine br_c (fun z => nm_e (hW ((fd_l_eq hps hqs).mp z))) (fun z => ⟨by rw [← fd_ixZ]; exact hik, by rw [← fd_ixZ]; exact him, br_c (fun w => H0 ?_) (fun w => H1 ?_)⟩)
    · have h1 := (fd_l_le hqs hps).mp w
      have h2 : p i ≠ q i := fun e => z (by rw [e])
      exact fun h3 => fd_lt_as h3 ⟨i, by omega, fun j hj => (hz j hj).symm⟩
    · have h1 : ¬ q i ≤ p i := fun e => w ((fd_l_le hqs hps).mpr e)
      exact ⟨i, by omega, hz⟩
theorem ys_degPart {post : Int32 → Prop} {p : Nat → Int} {k d : Nat} (hk : k < 6) (hp : ∀ i, i < 6 → pt (k * 6 + i) = fd_l (p i)) (hpB : fd_B p 170000) (hp5 : fd_L p 5) (hD : fd_D p d) (H : post (nI d)) : wpY_degreeOfPart post (cn, ot, rg, md, wh, td, yr, yq, pt, kp, dg) (nI k) := by
  have hd5 := fd_D_le hD hp5
  have hz : ∀ i, i < 6 → (pt (k * 6 + i) = 0 ↔ p i = 0) := fun i hi => by rw [hp i hi]; exact fd_l_z (fd_s_of (hpB i) (by decide))
  refine ys_degreeOfPart hk (fun h => absurd ((hz d (by omega)).mp (h d (by omega))) hD.1) (fun d' hd' h1 h2 => ?_)
  have hD' : fd_D p d' := ⟨fun e => h1 ((hz d' hd').mpr e), fun j hj => by
    by_cases hj6 : j < 6
    · exact (hz j hj6).mp (h2 j hj hj6)
    · exact hp5 j (by omega)⟩
  rw [fd_D_u hD' hD]; exact H
theorem ys_before {post : Int32 → Prop} {L : List (Nat → Int)} (hpt : fd_AL pt L) (hLB : fd_LB L) (hlen : L.length ≤ 5) {k m : Nat} (hk : k < L.length) (hm : m < L.length) (H1 : fd_lt (L.getD k fd_z) (L.getD m fd_z) → post 1) (H0 : ¬ fd_lt (L.getD k fd_z) (L.getD m fd_z) → post 0) : wpY_before post (cn, ot, rg, md, wh, td, yr, yq, pt, kp, dg) (nI k) (nI m) := by
  unfold wpY_before
  dsimp only
  obtain ⟨hIp, hBp, h5p⟩ := hLB _ (fd_getD_mem hk)
  obtain ⟨hIq, hBq, h5q⟩ := hLB _ (fd_getD_mem hm)
  obtain ⟨_, ⟨a, _, hDa, hpa⟩, _⟩ := id hIp
  obtain ⟨_, ⟨b, _, hDb, hpb⟩, _⟩ := id hIq
  have ha5 := fd_D_le hDa h5p
  have hb5 := fd_D_le hDb h5q
  obtain ⟨s1, s2⟩ := fd_sub6 (a := a) (b := b) (by omega) (by omega)
  refine ys_degPart (by omega) (hpt k hk) hBp h5p hDa (ys_degPart (by omega) (hpt m hm) hBq h5q hDb (nm_e (br_c (fun _ => ?_) (fun z => br_c (fun w => H0 ?_) (fun w => H1 ?_)))))
  · exact ys_before29 (by omega) (by omega) (hpt k hk) (hpt m hm) hBp hBq h5p h5q H1 H0
  · have h1 : a ≠ b := fun e => z (s1.mpr e)
    have h2 := s2.mp w
    exact fun h3 => fd_lt_as h3 (fd_lt_deg hDb.2 hDa hpa (by omega))
  · have h2 : ¬ b ≤ a := fun e => w (s2.mpr e)
    exact fd_lt_deg hDa.2 hDb hpb (by omega)
end
theorem fd_km5 {n : Nat} (h : n < 25) : nI n - nI n / 5 * 5 = nI (n % 5) := by
  have hk : ∀ a : Fin 25, nI a.val - nI a.val / 5 * 5 = nI (a.val % 5) := by decide
  exact hk ⟨n, h⟩
theorem fd_ixS (k i : Nat) : 6 * nI k + 6 + nI i = nI (k * 6 + 6 + i) := by
  have e : (6 : Int32) * nI k + 6 = nI (k * 6 + 6) := fd_ixZ k 6
  rw [e]; exact nI_add _ _
section
variable {post : SY → Prop} {ot : Int32} {rg : Nat → Int32} {md wh td yr yq kp : Nat → Int64} {dg : Nat → Int32}
theorem ys_sortS {L : List (Nat → Int)} {pt : Nat → Int64} (hpt : fd_AL pt L) (hLB : fd_LB L) (hlen : L.length ≤ 5) (hs : List.Pairwise fd_le L) (H : post (nI L.length, ot, rg, md, wh, td, yr, yq, pt, kp, dg)) :
    ∀ k km, km + k = 25 → wY_sort_2 post (nI L.length) ot (k + 1) (nI km) rg md wh td yr yq pt kp dg := by
  intro k
  induction k with
  | zero =>
    intro km hk
    have e : km = 25 := by omega
    subst e
    exact br_t (nI_le (a := 25) (b := 25) (Nat.le_refl _) (by decide)) H
  | succ k ih =>
    intro km hk
    refine br_f (nI_ge (b := 25) (by omega) (by decide)) ⟨by decide, nm_r (fd_km5 (by omega)) ?_⟩
    have e1 : nI (km % 5) + 1 = nI (km % 5 + 1) := nI_1 _
    rw [e1]
    by_cases hc : L.length ≤ km % 5 + 1
    · exact br_t (nI_le hc (by omega)) (nm_r (nI_1 km) (ih (km + 1) (by omega)))
    · refine br_f (nI_ge (by omega) (by omega)) (ys_before hpt hLB hlen (by omega) (by omega) (fun h => absurd h (fd_le_nlt (fd_pw_get hs (by omega) (by omega)))) (fun _ => br_t rfl (nm_r (nI_1 km) (ih (km + 1) (by omega)))))
theorem ys_sort35 {J : Int32 → (Nat → Int32) → (Nat → Int64) → (Nat → Int64) → (Nat → Int64) → (Nat → Int64) → (Nat → Int64) → (Nat → Int64) → (Nat → Int64) → (Nat → Int32) → Prop} {x1 cn : Int32} {p : Nat} {pt : Nat → Int64} (hp : p < 5)
    (H : ∀ t, (∀ j, j < 6 → t (p * 6 + j) = pt (p * 6 + 6 + j)) → (∀ j, j < 6 → t (p * 6 + 6 + j) = pt (p * 6 + j)) → (∀ j, j < p * 6 → t j = pt j) → J (x1 + 1) rg md wh td yr yq t kp dg) : ∃ n, wY_sort_35 post J x1 (nI p) cn ot n 0 rg md wh td yr yq pt kp dg := by
  have key : ∀ (k i : Nat) (t : Nat → Int64), i + k = 6 → (∀ j, j < i → t (p * 6 + j) = pt (p * 6 + 6 + j)) → (∀ j, j < i → t (p * 6 + 6 + j) = pt (p * 6 + j)) → (∀ j, i ≤ j → j < 6 → t (p * 6 + j) = pt (p * 6 + j)) → (∀ j, i ≤ j → t (p * 6 + 6 + j) = pt (p * 6 + 6 + j)) → (∀ j, j < p * 6 → t j = pt j) → wY_sort_35 post J x1 (nI p) cn ot (k + 1) (nI i) rg md wh td yr yq t kp dg := by
    intro k
    induction k with
    | zero =>
      intro i t hi h1 h2 h3 h4 h5
      have e : i = 6 := by omega
      subst e
      exact br_t (nI_le (Nat.le_refl 6) (by decide)) (nm_e (H t h1 h2 h5))
    | succ k ih =>
      intro i t hi h1 h2 h3 h4 h5
      have hi1 : vp_in (6 * nI p + nI i) 36 := by rw [fd_ixZ]; exact vp_in_nI (by omega) (by decide)
      have hi2 : vp_in (6 * nI p + 6 + nI i) 36 := by rw [fd_ixS]; exact vp_in_nI (by omega) (by decide)
      refine br_f (nI_ge (b := 6) (by omega) (by decide)) ⟨hi1, nm_r (e' := pt (p * 6 + i)) (by rw [fd_ixZ, nI_clamp (by omega), h3 i (Nat.le_refl i) (by omega)]) ⟨hi2, hi1, nm_r (e' := vp_updL t (p * 6 + i) (pt (p * 6 + 6 + i))) (by rw [fd_ixZ, fd_ixS, nI_clamp (by omega), nI_clamp (by omega), h4 i (Nat.le_refl i)]) ⟨hi2, nm_r (e' := vp_updL (vp_updL t (p * 6 + i) (pt (p * 6 + 6 + i))) (p * 6 + 6 + i) (pt (p * 6 + i))) (by rw [fd_ixS, nI_clamp (by omega)]) (nm_r (nI_1 i) (ih (i + 1) _ (by omega) (fun j hj => ?_) (fun j hj => ?_) (fun j hj hj6 => ?_) (fun j hj => ?_) (fun j hj => ?_)))⟩⟩⟩
      · rw [fd_uLn (by omega)]
        by_cases e : j = i
        · rw [e, fd_uLs]
        · rw [fd_uLn (by omega)]; exact h1 j (by omega)
      · by_cases e : j = i
        · rw [e, fd_uLs]
        · rw [fd_uLn (by omega), fd_uLn (by omega)]; exact h2 j (by omega)
      · rw [fd_uLn (by omega), fd_uLn (by omega)]; exact h3 j (by omega) hj6
      · rw [fd_uLn (by omega), fd_uLn (by omega)]; exact h4 j (by omega)
      · rw [fd_uLn (by omega), fd_uLn (by omega)]; exact h5 j hj
  exact ⟨7, key 6 0 pt (by omega) (fun j hj => absurd hj (Nat.not_lt_zero j)) (fun j hj => absurd hj (Nat.not_lt_zero j)) (fun _ _ _ => rfl) (fun _ _ => rfl) (fun _ _ => rfl)⟩
theorem fd_getD_x (S : List (Nat → Int)) (x y : Nat → Int) : (S ++ [x, y]).getD S.length fd_z = x := by
  have e : S ++ [x, y] = (S ++ [x]) ++ [y] := by simp
  rw [e, fd_getD_l (by simp), fd_getD_r]
theorem fd_getD_y (S : List (Nat → Int)) (x y : Nat → Int) : (S ++ [x, y]).getD (S.length + 1) fd_z = y := by
  have e : S ++ [x, y] = (S ++ [x]) ++ [y] := by simp
  have h := fd_getD_r (S ++ [x]) y
  rw [List.length_append, List.length_singleton] at h
  rw [e]; exact h
theorem fd_getD_s (S : List (Nat → Int)) (x y : Nat → Int) {k : Nat} (h : k < S.length) : (S ++ [x, y]).getD k fd_z = S.getD k fd_z := by
  have e : S ++ [x, y] = (S ++ [x]) ++ [y] := by simp
  rw [e, fd_getD_l (by rw [List.length_append, List.length_singleton]; omega), fd_getD_l h]
theorem ys_sortU {S : List (Nat → Int)} {x y : Nat → Int} {pt : Nat → Int64} (hpt : fd_AL pt (S ++ [x, y])) (hLB : fd_LB (S ++ [x, y])) (hlen : S.length ≤ 3) (hs : List.Pairwise fd_le S) (hx : ∀ s ∈ S, fd_le s x) (hy : ∀ s ∈ S, fd_le s y) (hlt : fd_lt y x)
    (H : ∀ t, fd_AL t (S ++ [y, x]) → post (nI (S.length + 2), ot, rg, md, wh, td, yr, yq, t, kp, dg)) :
    ∀ k km, km + k = 25 → km ≤ S.length → wY_sort_2 post (nI (S.length + 2)) ot (k + 1) (nI km) rg md wh td yr yq pt kp dg := by
  have hl2 : (S ++ [x, y]).length = S.length + 2 := by simp
  have hl2' : (S ++ [y, x]).length = S.length + 2 := by simp
  intro k
  induction k with
  | zero => intro km hk h; omega
  | succ k ih =>
    intro km hk hkm
    refine br_f (nI_ge (b := 25) (by omega) (by decide)) ⟨by decide, nm_r (fd_km5 (by omega)) ?_⟩
    have e1 : nI (km % 5) + 1 = nI (km % 5 + 1) := nI_1 _
    have e5 : km % 5 = km := by omega
    rw [e1, e5]
    refine br_f (nI_ge (by omega) (by omega)) (ys_before hpt hLB (by omega) (by omega) (by omega) (fun h => ?_) (fun h => ?_))
    · refine br_f (by decide) ?_
      by_cases ek : km = S.length
      · subst ek
        refine ys_sort35 (by omega) (fun t h1 h2 h3 => ?_)
        rw [nI_1]
        have hAL : fd_AL t (S ++ [y, x]) := by
          intro j hj i hi
          rw [hl2'] at hj
          by_cases ej : j = S.length
          · rw [ej, fd_getD_x, h1 i hi]
            have h4 := hpt (S.length + 1) (by omega) i hi
            rw [fd_getD_y] at h4
            rw [← h4]; congr 1; omega
          · by_cases ej1 : j = S.length + 1
            · have h4 := hpt S.length (by omega) i hi
              rw [fd_getD_x] at h4
              have e6 : j * 6 + i = S.length * 6 + 6 + i := by omega
              rw [e6, h2 i hi, h4, ej1, fd_getD_y]
            · have h4 := hpt j (by omega) i hi
              rw [fd_getD_s _ _ _ (by omega)] at h4
              rw [h3 _ (by omega), h4, fd_getD_s _ _ _ (by omega)]
        have hLB' : fd_LB (S ++ [y, x]) := by
          intro p hp
          refine hLB p ?_
          simp only [List.mem_append, List.mem_cons] at hp ⊢
          rcases hp with h | h | h | h
          · exact Or.inl h
          · exact Or.inr (Or.inr (Or.inl h))
          · exact Or.inr (Or.inl h)
          · exact absurd h List.not_mem_nil
        have hsort : List.Pairwise fd_le (S ++ [y, x]) := by
          refine List.pairwise_append.mpr ⟨hs, List.pairwise_cons.mpr ⟨fun z hz => ?_, List.pairwise_singleton _ _⟩, fun s hs' z hz => ?_⟩
          · rw [List.mem_singleton.mp hz]; exact Or.inr hlt
          · rcases List.mem_cons.mp hz with e | e
            · rw [e]; exact hy s hs'
            · rw [List.mem_singleton.mp e]; exact hx s hs'
        have h6 := ys_sortS (post := post) (ot := ot) (rg := rg) (md := md) (wh := wh) (td := td) (yr := yr) (yq := yq) (kp := kp) (dg := dg) hAL hLB' (by omega) hsort (by rw [hl2']; exact H t hAL) k (S.length + 1) (by omega)
        rw [hl2'] at h6
        exact h6
      · exfalso
        have hkS : km < S.length := by omega
        rw [fd_getD_s _ _ _ hkS] at h
        by_cases ek1 : km + 1 = S.length
        · rw [ek1, fd_getD_x] at h
          exact fd_le_nlt (hx _ (fd_getD_mem hkS)) h
        · rw [fd_getD_s _ _ _ (by omega)] at h
          exact fd_le_nlt (fd_pw_get hs (Nat.lt_succ_self km) (by omega)) h
    · by_cases ek : km = S.length
      · subst ek
        rw [fd_getD_x, fd_getD_y] at h
        exact absurd hlt h
      · exact br_t rfl (nm_r (nI_1 km) (ih (km + 1) (by omega) (by omega)))
theorem ys_sort {L : List (Nat → Int)} {pt : Nat → Int64} (hpt : fd_AL pt L) (hLB : fd_LB L) (hlen : L.length ≤ 5) (hs : List.Pairwise fd_le L ∨ ∃ S x y, L = S ++ [x, y] ∧ List.Pairwise fd_le S ∧ (∀ s ∈ S, fd_le s x) ∧ (∀ s ∈ S, fd_le s y) ∧ fd_lt y x)
    (H : ∀ L' t, L'.length = L.length → fd_prod L' = fd_prod L → (∀ p ∈ L', p ∈ L) → List.Pairwise fd_le L' → fd_AL t L' → post (nI L'.length, ot, rg, md, wh, td, yr, yq, t, kp, dg)) : wpY_sort post (nI L.length, ot, rg, md, wh, td, yr, yq, pt, kp, dg) := by
  rcases hs with hs | ⟨S, x, y, eL, hS, hx, hy, hlt⟩
  · exact ⟨25 + 1, ys_sortS hpt hLB hlen hs (H L pt rfl rfl (fun _ h => h) hs hpt) 25 0 (by omega)⟩
  · subst eL
    have hl2 : (S ++ [x, y]).length = S.length + 2 := by simp
    have hl2' : (S ++ [y, x]).length = S.length + 2 := by simp
    refine ⟨25 + 1, ?_⟩
    rw [hl2]
    refine ys_sortU hpt hLB (by omega) hS hx hy hlt (fun t hAL => ?_) 25 0 (by omega) (Nat.zero_le _)
    have h := H (S ++ [y, x]) t (by rw [hl2, hl2']) ?_ (fun p hp => ?_) ?_ hAL
    · rw [hl2'] at h; exact h
    · rw [fd_prod_app, fd_prod_app]; congr 1
      simp only [fd_prod]
      rw [fd_mul_1, fd_mul_1, fd_mul_comm]
    · simp only [List.mem_append, List.mem_cons] at hp ⊢
      rcases hp with h | h | h | h
      · exact Or.inl h
      · exact Or.inr (Or.inr (Or.inl h))
      · exact Or.inr (Or.inl h)
      · exact absurd h List.not_mem_nil
    · refine List.pairwise_append.mpr ⟨hS, List.pairwise_cons.mpr ⟨fun z hz => ?_, List.pairwise_singleton _ _⟩, fun s hs' z hz => ?_⟩
      · rw [List.mem_singleton.mp hz]; exact Or.inr hlt
      · rcases List.mem_cons.mp hz with e | e
        · rw [e]; exact hy s hs'
        · rw [List.mem_singleton.mp e]; exact hx s hs'
end
/-- at most two factors of degree 2 or more stand behind those of degree 1 -/
theorem fd_len2 (T : List (Nat → Int)) (h : ∀ p ∈ T, fd_Irr p) (h2 : ∀ p ∈ T, ∃ d, 2 ≤ d ∧ fd_D p d) : ∃ s, fd_D (fd_prod T) s ∧ 2 * T.length ≤ s := by
  induction T with
  | nil => exact ⟨0, fd_D_c (by decide), Nat.le_refl 0⟩
  | cons p T ih =>
    obtain ⟨s, h3, h4⟩ := ih (fun q hq => h q (List.mem_cons_of_mem _ hq)) (fun q hq => h2 q (List.mem_cons_of_mem _ hq))
    obtain ⟨d, hd, hD⟩ := h2 p (List.mem_cons_self ..)
    exact ⟨d + s, fd_D_mul hD h3, by rw [List.length_cons]; omega⟩
theorem fd_almost {F : Nat → Int} {L1 T : List (Nat → Int)} (hF : fd_H F) (hI : ∀ p ∈ L1 ++ T, fd_Irr p) (hp : fd_prod (L1 ++ T) = F) (s1 : List.Pairwise fd_le L1) (h1 : ∀ p ∈ L1, fd_D p 1) (h2 : ∀ p ∈ T, ∃ d, 2 ≤ d ∧ fd_D p d) : List.Pairwise fd_le (L1 ++ T) ∨ ∃ S x y, L1 ++ T = S ++ [x, y] ∧ List.Pairwise fd_le S ∧ (∀ s ∈ S, fd_le s x) ∧ (∀ s ∈ S, fd_le s y) ∧ fd_lt y x := by
  have hIT : ∀ p ∈ T, fd_Irr p := fun p hpm => hI p (List.mem_append.mpr (Or.inr hpm))
  have hLB := fd_LB_mk hF hI (by rw [hp]; exact fd_dv_refl F)
  obtain ⟨s, hs, hs2⟩ := fd_len2 T hIT h2
  obtain ⟨s', hs', _, _⟩ := fd_prod_D L1 (fun p hpm => hI p (List.mem_append.mpr (Or.inl hpm)))
  have hlen : T.length ≤ 2 := by
    have h3 := fd_D_mul hs' hs
    rw [← fd_prod_app, hp] at h3
    have := fd_D_le h3 hF.2.1
    omega
  have hle : ∀ p ∈ L1, ∀ q ∈ T, fd_le p q := fun p hp1 q hq => by
    obtain ⟨d, hd, hD⟩ := h2 q hq
    exact Or.inr (fd_lt_deg (h1 p hp1).2 hD (fd_irr_pos (hIT q hq) hD) (by omega))
  match T, hlen, hle, hLB with
  | [], _, _, _ => left; rw [List.append_nil]; exact s1
  | [x], _, hle, _ => left; exact List.pairwise_append.mpr ⟨s1, List.pairwise_singleton _ _, hle⟩
  | [x, y], _, hle, hLB =>
    have hx := hLB x (by simp)
    have hy := hLB y (by simp)
    rcases fd_total hx.2.2 hy.2.2 with h | h
    · left
      refine List.pairwise_append.mpr ⟨s1, List.pairwise_cons.mpr ⟨fun z hz => ?_, List.pairwise_singleton _ _⟩, hle⟩
      rw [List.mem_singleton.mp hz]; exact h
    · right
      exact ⟨L1, x, y, rfl, s1, fun s hs => hle s hs x (by simp), fun s hs => hle s hs y (by simp), h⟩
  | (x :: y :: z :: T), hlen, _, _ => simp only [List.length_cons] at hlen; omega
section
variable {post : SY → Prop} {ot : Int32} {rg : Nat → Int32} {md kp : Nat → Int64} {dg : Nat → Int32}
theorem ys_split {cn : Int32} {wh td yr yq pt : Nat → Int64} {r : Nat} (hr : r < 4) (hok : fd_ok rg)
    (H : ∀ L wh td yr yq pt, fd_Fac (fd_reg rg r) L → fd_AL pt L → post (nI L.length, ot, rg, md, wh, td, yr, yq, pt, kp, dg)) : wpY_split post (cn, ot, rg, md, wh, td, yr, yq, pt, kp, dg) (nI r) := by
  unfold wpY_split
  dsimp only
  have h0 := fd_reg_H0 hok hr
  refine ys_take hr (fun wh1 hwh1 => ?_)
  dsimp only
  have hR := fd_reg_R hwh1
  refine ys_makePrimitive hR h0 (fun hz => ?_) (fun wh2 F k d hwh2 hk e hF hp hD hpos => ?_)
  · dsimp only
    have hRz : fd_R wh1 fd_z := by rw [← hz]; exact hR
    refine ys_linZ hRz (ys_sqZ hRz (ys_deg (f := fd_z) (M := 0) hRz (fun i => Nat.le_refl 0) (by decide) (fun _ _ => rfl) (fun _ => br_t (by decide) ?_) (fun d hd hD => absurd rfl hD.1)))
    unfold wY_split_60
    refine ys_sort (L := []) (fd_AL_nil pt) (fun p hp => absurd hp List.not_mem_nil) (Nat.zero_le _) (Or.inl List.Pairwise.nil) (fun L' t hl _ _ _ hAL => ?_)
    have eL : L' = [] := List.length_eq_zero_iff.mp hl
    subst eL
    exact H [] wh1 td yr yq t ⟨fun p hpm => absurd hpm List.not_mem_nil, List.Pairwise.nil, Nat.zero_le _, fun _ => rfl, fun hn => absurd hz hn⟩ hAL
  · dsimp only
    have hfin : ∀ (L T L1 : List (Nat → Int)) (wh td yr yq pt : Nat → Int64), L = L1 ++ T → (∀ p ∈ L, fd_Irr p) → fd_prod L = F → List.Pairwise fd_le L1 → (∀ p ∈ L1, fd_D p 1) → (∀ p ∈ T, ∃ d, 2 ≤ d ∧ fd_D p d) → fd_AL pt L → wY_split_60 post (nI L.length) ot rg md wh td yr yq pt kp dg := by
      intro L T L1 wh td yr yq pt eL hI hprod hs1 hL1 hT hAL
      unfold wY_split_60
      have hlen : L.length ≤ 5 := by
        obtain ⟨s, g1, _, g3⟩ := fd_prod_D L hI
        rw [hprod] at g1
        have := fd_D_le g1 hF.2.1
        omega
      have hal := fd_almost (L1 := L1) (T := T) hF (by rw [← eL]; exact hI) (by rw [← eL]; exact hprod) hs1 hL1 hT
      rw [← eL] at hal
      refine ys_sort hAL (fd_LB_mk hF hI (by rw [hprod]; exact fd_dv_refl F)) hlen hal (fun L' t hl hpr hmem hs' hAL' => ?_)
      exact H L' wh td yr yq t (fd_Fac_mk hk e hF (fun p hpm => hI p (hmem p hpm)) hs' (by rw [hpr, hprod])) hAL'
    refine ys_tryLinear hF hp hD hpos hwh2 (fun f L1 wh td yr yq pt hst hlf hs1 hL1 hwh hpt => ?_)
    dsimp only
    refine ys_trySquare hF hp hst hlf hwh hpt (fun f L L2 wh td yr yq pt eL hP hwh hpt => ?_)
    dsimp only
    have hst2 : fd_St F f L := by rw [eL]; exact hP.1
    refine ys_deg hwh (fd_St_B hF hst2) (by decide) (fd_St_L5 hF.2.1 hst2) (fun z => absurd z (fd_St_nz hst2)) (fun d' hd' hD' => ?_)
    have hT2 : ∀ p ∈ L2, ∃ d, 2 ≤ d ∧ fd_D p d := fun p hpm => ⟨2, Nat.le_refl 2, hP.2.2.1 p hpm⟩
    by_cases hd0 : d' = 0
    · subst hd0
      exact br_t (nI_lt (a := 0) (b := 1) (by decide) (by decide)) (hfin L L2 L1 wh td yr yq pt eL hst2.2.1 (fd_fin0 hp hst2 hD') hs1 hL1 hT2 hpt)
    · obtain ⟨g1, g2, g3⟩ := fd_fin1 hF hp hst2 hP.2.1 hD' (by omega) (fun h4 => fd_P3_end hF hP hD' h4)
      have hlen := fd_St_len hF.2.1 hst2 hD'
      refine br_f (nI_nlt (b := 1) (by omega) (by omega)) ?_
      refine fd_fill (fun n x t => wY_split_32 post (nI L.length) ot n x rg md wh t yr yq pt kp dg) 6 0 wh td (fun n td1 h1 _ => ?_) (fun n i t hi _ hW => ?_)
      · have htd : fd_R td1 f := fun i hi => by have := h1 i hi; rw [Nat.zero_add] at this; rw [this, hwh i hi]
        refine br_t (nI_le (Nat.le_refl 6) (by decide)) (ys_addPart (by omega) (fun pt1 k1 k2 => ?_))
        dsimp only
        have h := hfin (L ++ [f]) (L2 ++ [f]) L1 wh td1 yr yq pt1 (by rw [eL, List.append_assoc]) (fun p hpm => ?_) g3 hs1 hL1 (fun p hpm => ?_) (fd_AL_snoc hpt k1 k2 htd)
        · rw [List.length_append, List.length_singleton] at h
          exact h
        · rcases List.mem_append.mp hpm with h | h
          · exact hst2.2.1 p h
          · rw [List.mem_singleton.mp h]; exact g1
        · rcases List.mem_append.mp hpm with h | h
          · exact hT2 p h
          · rw [List.mem_singleton.mp h]; exact ⟨d', g2, hD'⟩
      · exact br_f (nI_ge (b := 6) hi (by decide)) ⟨vp_in_nI hi (by decide), vp_in_nI hi (by decide), nm_r (by rw [nI_clamp (by omega), Nat.zero_add]) (nm_r (nI_1 i) hW)⟩
end
