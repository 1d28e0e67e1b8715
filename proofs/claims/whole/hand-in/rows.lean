section
/-! polynomials as coefficient functions -/
abbrev fd_P : Type := Nat → Int
def fd_mul : (Nat → Int) → (Nat → Int) → Nat → Int
  | f, g, 0 => f 0 * g 0
  | f, g, n + 1 => f 0 * g (n + 1) + fd_mul (fun i => f (i + 1)) g n
def fd_add (f g : Nat → Int) : Nat → Int := fun i => f i + g i
def fd_sub (f g : Nat → Int) : Nat → Int := fun i => f i - g i
def fd_sm (c : Int) (f : Nat → Int) : Nat → Int := fun i => c * f i
def fd_c (c : Int) : Nat → Int := fun i => if i = 0 then c else 0
def fd_z : Nat → Int := fun _ => 0
/-- c x^k -/
def fd_mo (c : Int) (k : Nat) : Nat → Int := fun i => if i = k then c else 0
theorem fd_mul_add_l (f f' g : Nat → Int) (n : Nat) : fd_mul (fun i => f i + f' i) g n = fd_mul f g n + fd_mul f' g n := by
  induction n generalizing f f' with
  | zero => simp only [fd_mul]; grind
  | succ n ih => simp only [fd_mul]; rw [ih (fun i => f (i + 1)) (fun i => f' (i + 1))]; grind
theorem fd_mul_sm_l (c : Int) (f g : Nat → Int) (n : Nat) : fd_mul (fun i => c * f i) g n = c * fd_mul f g n := by
  induction n generalizing f with
  | zero => simp only [fd_mul]; grind
  | succ n ih => simp only [fd_mul]; rw [ih (fun i => f (i + 1))]; grind
theorem fd_mul_succ_r (f g : Nat → Int) (n : Nat) : fd_mul f g (n + 1) = f (n + 1) * g 0 + fd_mul f (fun i => g (i + 1)) n := by
  induction n generalizing f with
  | zero => simp only [fd_mul]; grind
  | succ n ih =>
    rw [fd_mul, ih (fun i => f (i + 1))]
    conv => rhs; rw [fd_mul]
    grind
theorem fd_mul_comm' (f g : Nat → Int) (n : Nat) : fd_mul f g n = fd_mul g f n := by
  induction n generalizing f with
  | zero => simp only [fd_mul]; grind
  | succ n ih => rw [fd_mul_succ_r g f, fd_mul, ih]; grind
theorem fd_mul_comm (f g : Nat → Int) : fd_mul f g = fd_mul g f := funext (fd_mul_comm' f g)
theorem fd_mul_assoc' (f g h : Nat → Int) (n : Nat) : fd_mul (fd_mul f g) h n = fd_mul f (fd_mul g h) n := by
  induction n generalizing f with
  | zero => simp only [fd_mul]; grind
  | succ n ih =>
    have e : (fun i => fd_mul f g (i + 1)) = fun i => (fun j => f 0 * (fun k => g (k + 1)) j) i + (fd_mul (fun k => f (k + 1)) g) i := by
      funext i; simp only [fd_mul]
    rw [fd_mul, e, fd_mul_add_l, fd_mul_sm_l, ih]
    conv => rhs; rw [fd_mul, fd_mul]
    simp only [fd_mul]
    grind
theorem fd_mul_assoc (f g h : Nat → Int) : fd_mul (fd_mul f g) h = fd_mul f (fd_mul g h) := funext (fd_mul_assoc' f g h)
theorem fd_mul_left (f g h : Nat → Int) : fd_mul f (fd_mul g h) = fd_mul g (fd_mul f h) := by
  rw [← fd_mul_assoc, fd_mul_comm f g, fd_mul_assoc]
theorem fd_add_mul (f f' g : Nat → Int) : fd_mul (fd_add f f') g = fd_add (fd_mul f g) (fd_mul f' g) := funext (fd_mul_add_l f f' g)
theorem fd_sm_mul (c : Int) (f g : Nat → Int) : fd_mul (fd_sm c f) g = fd_sm c (fd_mul f g) := funext (fd_mul_sm_l c f g)
theorem fd_mul_add (f g g' : Nat → Int) : fd_mul f (fd_add g g') = fd_add (fd_mul f g) (fd_mul f g') := by
  rw [fd_mul_comm, fd_add_mul, fd_mul_comm g, fd_mul_comm g']
theorem fd_mul_sm (c : Int) (f g : Nat → Int) : fd_mul f (fd_sm c g) = fd_sm c (fd_mul f g) := by
  rw [fd_mul_comm, fd_sm_mul, fd_mul_comm g]
theorem fd_sub_eq (f g : Nat → Int) : fd_sub f g = fd_add f (fd_sm (-1) g) := by
  funext i; simp only [fd_sub, fd_add, fd_sm]; omega
theorem fd_mul_sub (f g g' : Nat → Int) : fd_mul f (fd_sub g g') = fd_sub (fd_mul f g) (fd_mul f g') := by
  rw [fd_sub_eq, fd_mul_add, fd_mul_sm, fd_sub_eq]
theorem fd_sub_mul (f f' g : Nat → Int) : fd_mul (fd_sub f f') g = fd_sub (fd_mul f g) (fd_mul f' g) := by
  rw [fd_mul_comm, fd_mul_sub, fd_mul_comm g, fd_mul_comm g]
theorem fd_mul_z' (f : Nat → Int) (n : Nat) : fd_mul f fd_z n = 0 := by
  induction n generalizing f with
  | zero => simp [fd_mul, fd_z]
  | succ n ih => simp [fd_mul, fd_z]; exact ih _
theorem fd_mul_z (f : Nat → Int) : fd_mul f fd_z = fd_z := funext (fd_mul_z' f)
theorem fd_z_mul (f : Nat → Int) : fd_mul fd_z f = fd_z := by rw [fd_mul_comm, fd_mul_z]
theorem fd_c_mul (c : Int) (f : Nat → Int) : fd_mul (fd_c c) f = fd_sm c f := by
  funext n
  cases n with
  | zero => simp [fd_mul, fd_c, fd_sm]
  | succ n =>
    have e : (fun i => fd_c c (i + 1)) = fd_z := by funext i; simp [fd_c, fd_z]
    rw [fd_mul, e, fd_z_mul]; simp [fd_c, fd_sm, fd_z]
theorem fd_mul_c (c : Int) (f : Nat → Int) : fd_mul f (fd_c c) = fd_sm c f := by rw [fd_mul_comm, fd_c_mul]
theorem fd_sm_1 (f : Nat → Int) : fd_sm 1 f = f := by funext i; simp [fd_sm]
theorem fd_sm_sm (a b : Int) (f : Nat → Int) : fd_sm a (fd_sm b f) = fd_sm (a * b) f := by funext i; simp only [fd_sm]; grind
theorem fd_mul_1 (f : Nat → Int) : fd_mul f (fd_c 1) = f := by rw [fd_mul_c, fd_sm_1]
theorem fd_1_mul (f : Nat → Int) : fd_mul (fd_c 1) f = f := by rw [fd_c_mul, fd_sm_1]
/-- a monomial times f -/
theorem fd_mo_mul (c : Int) (k : Nat) (f : Nat → Int) : fd_mul (fd_mo c k) f = fun i => if k ≤ i then c * f (i - k) else 0 := by
  induction k with
  | zero =>
    have e : fd_mo c 0 = fd_c c := rfl
    rw [e, fd_c_mul]; funext i; simp [fd_sm]
  | succ k ih =>
    have e : (fun i => fd_mo c (k + 1) (i + 1)) = fd_mo c k := by funext i; simp [fd_mo]
    funext i
    cases i with
    | zero => simp [fd_mul, fd_mo]
    | succ i => rw [fd_mul, e, ih]; simp [fd_mo]
/-! degrees -/
def fd_F (f : Nat → Int) : Prop := ∃ n, ∀ j, n ≤ j → f j = 0
def fd_L (f : Nat → Int) (d : Nat) : Prop := ∀ j, d < j → f j = 0
def fd_D (f : Nat → Int) (d : Nat) : Prop := f d ≠ 0 ∧ fd_L f d
theorem fd_L_F {f : Nat → Int} {d : Nat} (h : fd_L f d) : fd_F f := ⟨d + 1, fun j hj => h j (by omega)⟩
theorem fd_D_F {f : Nat → Int} {d : Nat} (h : fd_D f d) : fd_F f := fd_L_F h.2
theorem fd_F_L {f : Nat → Int} (h : fd_F f) : ∃ d, fd_L f d := h.elim fun n hn => ⟨n, fun j hj => hn j (by omega)⟩
theorem fd_D_u {f : Nat → Int} {a b : Nat} (h : fd_D f a) (h' : fd_D f b) : a = b := by
  rcases Nat.lt_trichotomy a b with h1 | h1 | h1
  · exact absurd (h.2 b h1) h'.1
  · exact h1
  · exact absurd (h'.2 a h1) h.1
theorem fd_D_nz {f : Nat → Int} {a : Nat} (h : fd_D f a) : f ≠ fd_z := fun e => h.1 (by rw [e]; rfl)
theorem fd_D_le {f : Nat → Int} {a b : Nat} (h : fd_D f a) (h' : fd_L f b) : a ≤ b :=
  Nat.le_of_not_lt fun h1 => h.1 (h' a h1)
theorem fd_L_mono {f : Nat → Int} {a b : Nat} (h : fd_L f a) (hab : a ≤ b) : fd_L f b := fun j hj => h j (by omega)
theorem fd_D_ex' (n : Nat) : ∀ f : Nat → Int, (∀ j, n ≤ j → f j = 0) → f ≠ fd_z → ∃ d, d < n ∧ fd_D f d := by
  induction n with
  | zero => intro f h hz; exact absurd (funext fun j => h j (Nat.zero_le j)) hz
  | succ n ih =>
    intro f h hz
    by_cases e : f n = 0
    · have h' : ∀ j, n ≤ j → f j = 0 := by
        intro j hj
        by_cases hjn : j = n
        · rw [hjn]; exact e
        · exact h j (by omega)
      obtain ⟨d, hd, hD⟩ := ih f h' hz
      exact ⟨d, by omega, hD⟩
    · exact ⟨n, by omega, e, fun j hj => h j (by omega)⟩
theorem fd_D_ex {f : Nat → Int} (h : fd_F f) (hz : f ≠ fd_z) : ∃ d, fd_D f d := by
  obtain ⟨n, hn⟩ := h
  obtain ⟨d, _, hd⟩ := fd_D_ex' n f hn hz
  exact ⟨d, hd⟩
theorem fd_D_exL {f : Nat → Int} {n : Nat} (h : fd_L f n) (hz : f ≠ fd_z) : ∃ d, d ≤ n ∧ fd_D f d := by
  obtain ⟨d, h1, h2⟩ := fd_D_ex' (n + 1) f (fun j hj => h j (by omega)) hz
  exact ⟨d, by omega, h2⟩
theorem fd_top (a : Nat) : ∀ (b : Nat) (f g : Nat → Int), fd_L f a → fd_L g b → fd_mul f g (a + b) = f a * g b ∧ fd_L (fd_mul f g) (a + b) := by
  induction a with
  | zero =>
    intro b f g hf hg
    have e : f = fd_c (f 0) := by
      funext i
      by_cases h : i = 0
      · simp [fd_c, h]
      · simp [fd_c, h]; exact hf i (by omega)
    rw [e, fd_c_mul]
    refine ⟨by simp [fd_sm, fd_c], fun j hj => ?_⟩
    simp only [fd_sm]; rw [hg j (by omega)]; simp
  | succ a ih =>
    intro b f g hf hg
    obtain ⟨h1, h2⟩ := ih b (fun i => f (i + 1)) g (fun j hj => hf (j + 1) (by omega)) hg
    refine ⟨?_, fun j hj => ?_⟩
    · have e : a + 1 + b = (a + b) + 1 := by omega
      rw [e, fd_mul, h1, hg (a + b + 1) (by omega)]; simp
    · cases j with
      | zero => omega
      | succ j => rw [fd_mul, h2 j (by omega), hg (j + 1) (by omega)]; simp
theorem fd_D_mul {f g : Nat → Int} {a b : Nat} (hf : fd_D f a) (hg : fd_D g b) : fd_D (fd_mul f g) (a + b) := by
  obtain ⟨h1, h2⟩ := fd_top a b f g hf.2 hg.2
  exact ⟨by rw [h1]; exact Int.mul_ne_zero hf.1 hg.1, h2⟩
theorem fd_F_mul {f g : Nat → Int} (hf : fd_F f) (hg : fd_F g) : fd_F (fd_mul f g) := by
  obtain ⟨a, ha⟩ := fd_F_L hf
  obtain ⟨b, hb⟩ := fd_F_L hg
  exact fd_L_F (fd_top a b f g ha hb).2
theorem fd_F_add {f g : Nat → Int} (hf : fd_F f) (hg : fd_F g) : fd_F (fd_add f g) := by
  obtain ⟨a, ha⟩ := hf
  obtain ⟨b, hb⟩ := hg
  exact ⟨a + b, fun j hj => by simp only [fd_add]; rw [ha j (by omega), hb j (by omega)]; rfl⟩
theorem fd_F_sm {f : Nat → Int} (c : Int) (hf : fd_F f) : fd_F (fd_sm c f) := by
  obtain ⟨a, ha⟩ := hf
  exact ⟨a, fun j hj => by simp only [fd_sm]; rw [ha j hj]; simp⟩
theorem fd_F_sub {f g : Nat → Int} (hf : fd_F f) (hg : fd_F g) : fd_F (fd_sub f g) := by
  rw [fd_sub_eq]; exact fd_F_add hf (fd_F_sm _ hg)
theorem fd_F_z : fd_F fd_z := ⟨0, fun _ _ => rfl⟩
theorem fd_F_c (c : Int) : fd_F (fd_c c) := ⟨1, fun j hj => by simp only [fd_c]; rw [if_neg (by omega)]⟩
theorem fd_F_mo (c : Int) (k : Nat) : fd_F (fd_mo c k) := ⟨k + 1, fun j hj => by simp only [fd_mo]; rw [if_neg (by omega)]⟩
theorem fd_dom {f g : Nat → Int} (hf : fd_F f) (hg : fd_F g) (h : fd_mul f g = fd_z) : f = fd_z ∨ g = fd_z := by
  by_cases ef : f = fd_z
  · exact Or.inl ef
  · by_cases eg : g = fd_z
    · exact Or.inr eg
    · obtain ⟨a, ha⟩ := fd_D_ex hf ef
      obtain ⟨b, hb⟩ := fd_D_ex hg eg
      exact absurd h (fd_D_nz (fd_D_mul ha hb))
theorem fd_sub_z {f g : Nat → Int} (h : fd_sub f g = fd_z) : f = g := by
  funext i; have := congrFun h i; simp only [fd_sub, fd_z] at this; omega
theorem fd_sub_self (f : Nat → Int) : fd_sub f f = fd_z := by funext i; simp [fd_sub, fd_z]
theorem fd_cancel {g q q' : Nat → Int} (hg : fd_F g) (hz : g ≠ fd_z) (hq : fd_F q) (hq' : fd_F q') (h : fd_mul g q = fd_mul g q') : q = q' := by
  have e : fd_mul g (fd_sub q q') = fd_z := by rw [fd_mul_sub, h, fd_sub_self]
  rcases fd_dom hg (fd_F_sub hq hq') e with h1 | h1
  · exact absurd h1 hz
  · exact fd_sub_z h1
theorem fd_D_sm {f : Nat → Int} {d : Nat} {c : Int} (hc : c ≠ 0) (h : fd_D f d) : fd_D (fd_sm c f) d :=
  ⟨Int.mul_ne_zero hc h.1, fun j hj => by simp only [fd_sm]; rw [h.2 j hj]; simp⟩
theorem fd_sm_inj {c : Int} (hc : c ≠ 0) {f g : Nat → Int} (h : fd_sm c f = fd_sm c g) : f = g := by
  funext i; exact Int.eq_of_mul_eq_mul_left hc (congrFun h i)
theorem fd_L_sm {f : Nat → Int} {d : Nat} (c : Int) (h : fd_L f d) : fd_L (fd_sm c f) d := fun j hj => by
  simp only [fd_sm]; rw [h j hj]; simp
theorem fd_sm_z (c : Int) : fd_sm c fd_z = fd_z := by funext i; simp [fd_sm, fd_z]
theorem fd_D_c {c : Int} (h : c ≠ 0) : fd_D (fd_c c) 0 := ⟨by simpa [fd_c] using h, fun j hj => by simp only [fd_c]; rw [if_neg (by omega)]⟩
theorem fd_L0_c {f : Nat → Int} (h : fd_L f 0) : f = fd_c (f 0) := by
  funext i
  by_cases e : i = 0
  · simp [fd_c, e]
  · simp [fd_c, e]; exact h i (by omega)
/-- a product of degree d: the two degrees -/
theorem fd_D_split {u v p : Nat → Int} {d : Nat} (hu : fd_F u) (hv : fd_F v) (h : fd_mul u v = p) (hp : fd_D p d) : ∃ a b, fd_D u a ∧ fd_D v b ∧ a + b = d := by
  have zu : u ≠ fd_z := fun e => fd_D_nz hp (by rw [← h, e, fd_z_mul])
  have zv : v ≠ fd_z := fun e => fd_D_nz hp (by rw [← h, e, fd_mul_z])
  obtain ⟨a, ha⟩ := fd_D_ex hu zu
  obtain ⟨b, hb⟩ := fd_D_ex hv zv
  exact ⟨a, b, ha, hb, fd_D_u (by rw [← h]; exact fd_D_mul ha hb) hp⟩
end
section
/-! Gauss and Euclid -/
def fd_prime (q : Nat) : Prop := 1 < q ∧ ∀ a b : Int, (q : Int) ∣ a * b → (q : Int) ∣ a ∨ (q : Int) ∣ b
theorem fd_least (P : Nat → Prop) : ∀ n, P n → ∃ m, P m ∧ ∀ k, k < m → ¬ P k := by
  intro n
  induction n using Nat.strongRecOn with
  | _ n ih =>
    intro h
    by_cases e : ∃ k, k < n ∧ P k
    · obtain ⟨k, hk, pk⟩ := e
      exact ih k hk pk
    · exact ⟨n, h, fun k hk pk => e ⟨k, hk, pk⟩⟩
theorem fd_prime_ex (n : Nat) (hn : 1 < n) : ∃ q, fd_prime q ∧ q ∣ n := by
  obtain ⟨q, ⟨h1, h2⟩, hm⟩ := fd_least (fun d => 1 < d ∧ d ∣ n) n ⟨hn, Nat.dvd_refl n⟩
  refine ⟨q, ⟨h1, fun a b hab => ?_⟩, h2⟩
  rw [Int.ofNat_dvd_left, Int.natAbs_mul] at hab
  have hg : Nat.gcd q a.natAbs ∣ q := Nat.gcd_dvd_left _ _
  by_cases e : Nat.gcd q a.natAbs = 1
  · right
    rw [Int.ofNat_dvd_left]
    exact Nat.Coprime.dvd_of_dvd_mul_left e hab
  · left
    have hpos : 0 < Nat.gcd q a.natAbs := Nat.gcd_pos_of_pos_left _ (by omega)
    have hle : Nat.gcd q a.natAbs ≤ q := Nat.le_of_dvd (by omega) hg
    have heq : Nat.gcd q a.natAbs = q := by
      rcases Nat.lt_or_ge (Nat.gcd q a.natAbs) q with h | h
      · exact absurd ⟨by omega, Nat.dvd_trans hg h2⟩ (hm _ h)
      · omega
    rw [Int.ofNat_dvd_left, ← heq]
    exact Nat.gcd_dvd_right _ _
theorem fd_dvd_mul_le (q : Int) (g : Nat → Int) (n : Nat) : ∀ f : Nat → Int, (∀ i, i ≤ n → q ∣ g i) → q ∣ fd_mul f g n := by
  induction n with
  | zero => intro f h; rw [fd_mul]; exact Int.dvd_mul_of_dvd_right (h 0 (Nat.le_refl 0))
  | succ n ih =>
    intro f h
    rw [fd_mul]
    exact Int.dvd_add (Int.dvd_mul_of_dvd_right (h (n + 1) (Nat.le_refl _))) (ih _ fun i hi => h i (by omega))
theorem fd_mod_ab (q : Int) (g : Nat → Int) (b : Nat) (hg : ∀ i, i < b → q ∣ g i) (a : Nat) : ∀ f : Nat → Int, (∀ i, i < a → q ∣ f i) → q ∣ fd_mul f g (a + b) - f a * g b := by
  induction a with
  | zero =>
    intro f _
    cases b with
    | zero => simp only [fd_mul]; exact ⟨0, by omega⟩
    | succ b =>
      have e : (0 : Nat) + (b + 1) = b + 1 := by omega
      rw [e, fd_mul]
      have h := fd_dvd_mul_le q g b (fun i => f (i + 1)) fun i hi => hg i (by omega)
      have e2 : f 0 * g (b + 1) + fd_mul (fun i => f (i + 1)) g b - f 0 * g (b + 1) = fd_mul (fun i => f (i + 1)) g b := by omega
      rw [e2]; exact h
  | succ a ih =>
    intro f hf
    have e : a + 1 + b = (a + b) + 1 := by omega
    rw [e, fd_mul]
    have h := ih (fun i => f (i + 1)) fun i hi => hf (i + 1) (by omega)
    have e2 : f 0 * g (a + b + 1) + fd_mul (fun i => f (i + 1)) g (a + b) - f (a + 1) * g b = f 0 * g (a + b + 1) + (fd_mul (fun i => f (i + 1)) g (a + b) - f (a + 1) * g b) := by omega
    rw [e2]
    exact Int.dvd_add (Int.dvd_mul_of_dvd_left (hf 0 (by omega))) h
theorem fd_gauss {q : Nat} (hq : fd_prime q) (f g : Nat → Int) (h : ∀ i, (q : Int) ∣ fd_mul f g i) : (∀ i, (q : Int) ∣ f i) ∨ (∀ i, (q : Int) ∣ g i) := by
  by_cases hf : ∀ i, (q : Int) ∣ f i
  · exact Or.inl hf
  · by_cases hg : ∀ i, (q : Int) ∣ g i
    · exact Or.inr hg
    · obtain ⟨i, hi⟩ := Classical.not_forall.mp hf
      obtain ⟨j, hj⟩ := Classical.not_forall.mp hg
      obtain ⟨a, ha, ma⟩ := fd_least (fun k => ¬ (q : Int) ∣ f k) i hi
      obtain ⟨b, hb, mb⟩ := fd_least (fun k => ¬ (q : Int) ∣ g k) j hj
      have h1 := fd_mod_ab q g b (fun k hk => Classical.not_not.mp (mb k hk)) a f (fun k hk => Classical.not_not.mp (ma k hk))
      have h2 : (q : Int) ∣ f a * g b := by
        have h3 := Int.dvd_sub (h (a + b)) h1
        have e : fd_mul f g (a + b) - (fd_mul f g (a + b) - f a * g b) = f a * g b := by omega
        rw [e] at h3; exact h3
      rcases hq.2 _ _ h2 with h3 | h3
      · exact absurd h3 ha
      · exact absurd h3 hb
/-- primitive -/
def fd_pr (f : Nat → Int) : Prop := ∀ m : Nat, (∀ i, (m : Int) ∣ f i) → m = 1
theorem fd_div_all {f : Nat → Int} {m : Int} (h : ∀ i, m ∣ f i) : ∃ f' : Nat → Int, f = fd_sm m f' := by
  refine ⟨fun i => f i / m, funext fun i => ?_⟩
  simp only [fd_sm]
  exact (Int.mul_ediv_cancel' (h i)).symm
theorem fd_F_of_sm {f : Nat → Int} {c : Int} (hc : c ≠ 0) (h : fd_F (fd_sm c f)) : fd_F f := by
  obtain ⟨n, hn⟩ := h
  refine ⟨n, fun j hj => ?_⟩
  have := hn j hj
  simp only [fd_sm] at this
  rcases Int.mul_eq_zero.mp this with h1 | h1
  · exact absurd h1 hc
  · exact h1
/-- n v = g w with g primitive: n divides w -/
theorem fd_cancel_int (k : Nat) : ∀ (n : Int) (g v w : Nat → Int), n.natAbs = k → n ≠ 0 → fd_pr g → fd_sm n v = fd_mul g w → ∃ w', w = fd_sm n w' ∧ v = fd_mul g w' := by
  induction k using Nat.strongRecOn with
  | _ k ih =>
    intro n g v w hk hn hg h
    by_cases h1 : k = 1
    · have hn1 : n = 1 ∨ n = -1 := by omega
      rcases hn1 with e | e
      · subst e
        exact ⟨w, (fd_sm_1 w).symm, by rw [fd_sm_1] at h; exact h⟩
      · subst e
        refine ⟨fd_sm (-1) w, ?_, ?_⟩
        · rw [fd_sm_sm]; exact (fd_sm_1 w).symm
        · rw [fd_mul_sm, ← h, fd_sm_sm]; exact (fd_sm_1 v).symm
    · obtain ⟨q, hq, hqk⟩ := fd_prime_ex k (by omega)
      have hqn : (q : Int) ∣ n := by rw [Int.ofNat_dvd_left, hk]; exact hqk
      obtain ⟨n', hn'⟩ := hqn
      have hall : ∀ i, (q : Int) ∣ fd_mul g w i := by
        intro i
        rw [← h]
        simp only [fd_sm, hn']
        exact ⟨n' * v i, by grind⟩
      rcases fd_gauss hq g w hall with h2 | h2
      · have := hg q h2
        have := hq.1
        omega
      · obtain ⟨w1, hw1⟩ := fd_div_all h2
        have hq0 : (q : Int) ≠ 0 := by have := hq.1; omega
        have hn0 : n' ≠ 0 := fun e => hn (by rw [hn', e]; simp)
        have e1 : fd_sm n' v = fd_mul g w1 := by
          apply fd_sm_inj hq0
          rw [fd_sm_sm, ← hn', h, hw1, fd_mul_sm]
        have hlt : n'.natAbs < k := by
          rw [← hk, hn', Int.natAbs_mul, Int.natAbs_natCast]
          have := hq.1
          have h3 : 0 < n'.natAbs := Int.natAbs_pos.mpr hn0
          have h4 : 1 * n'.natAbs < q * n'.natAbs := Nat.mul_lt_mul_of_pos_right this h3
          omega
        obtain ⟨w', h5, h6⟩ := ih _ hlt n' g v w1 rfl hn0 hg e1
        exact ⟨w', by rw [hw1, h5, fd_sm_sm, ← hn'], h6⟩
/-- every polynomial but 0 is a number times a primitive one -/
theorem fd_prim_ex (k : Nat) : ∀ (f : Nat → Int) (d : Nat), fd_D f d → (f d).natAbs = k → ∃ (c : Int) (f' : Nat → Int), c ≠ 0 ∧ fd_pr f' ∧ f = fd_sm c f' := by
  induction k using Nat.strongRecOn with
  | _ k ih =>
    intro f d hd hk
    by_cases hp : fd_pr f
    · exact ⟨1, f, by decide, hp, (fd_sm_1 f).symm⟩
    · obtain ⟨m, hm⟩ := Classical.not_forall.mp hp
      have hm1 : ∀ i, (m : Int) ∣ f i := Classical.byContradiction fun h => hm fun h' => absurd h' h
      have hm2 : m ≠ 1 := fun e => hm fun _ => e
      have hm0 : m ≠ 0 := by
        intro e
        have := hm1 d
        rw [e] at this
        exact hd.1 (Int.zero_dvd.mp this)
      obtain ⟨f1, hf1⟩ := fd_div_all hm1
      have hmI : (m : Int) ≠ 0 := by omega
      have hd1 : fd_D f1 d := by
        refine ⟨fun e => hd.1 ?_, fun j hj => ?_⟩
        · rw [hf1]; simp only [fd_sm]; rw [e]; simp
        · have := hd.2 j hj
          rw [hf1] at this
          simp only [fd_sm] at this
          rcases Int.mul_eq_zero.mp this with h1 | h1
          · exact absurd h1 hmI
          · exact h1
      have hlt : (f1 d).natAbs < k := by
        rw [← hk, hf1]
        simp only [fd_sm]
        rw [Int.natAbs_mul, Int.natAbs_natCast]
        have h3 : 0 < (f1 d).natAbs := Int.natAbs_pos.mpr hd1.1
        have h4 : 1 * (f1 d).natAbs < m * (f1 d).natAbs := Nat.mul_lt_mul_of_pos_right (by omega) h3
        omega
      obtain ⟨c, f', hc, hp', e⟩ := ih _ hlt f1 d hd1 rfl
      exact ⟨m * c, f', Int.mul_ne_zero hmI hc, hp', by rw [hf1, e, fd_sm_sm]⟩
/-- pseudo-division -/
theorem fd_pdiv {w : Nat → Int} {e : Nat} (hw : fd_D w e) (k : Nat) : ∀ f : Nat → Int, (∀ j, k ≤ j → f j = 0) → ∃ (n : Int) (q r : Nat → Int), n ≠ 0 ∧ fd_F q ∧ (∀ j, e ≤ j → r j = 0) ∧ fd_sm n f = fd_add (fd_mul q w) r := by
  induction k with
  | zero =>
    intro f hf
    refine ⟨1, fd_z, f, by decide, fd_F_z, fun j _ => hf j (Nat.zero_le j), ?_⟩
    rw [fd_z_mul]; funext i; simp [fd_sm, fd_add, fd_z]
  | succ k ih =>
    intro f hf
    by_cases hke : k < e
    · refine ⟨1, fd_z, f, by decide, fd_F_z, fun j hj => hf j (by omega), ?_⟩
      rw [fd_z_mul]; funext i; simp [fd_sm, fd_add, fd_z]
    · -- f1 = w_e f - f_k x^(k-e) w
      have h1 : ∀ j, k ≤ j → fd_sub (fd_sm (w e) f) (fd_mul (fd_mo (f k) (k - e)) w) j = 0 := by
        intro j hj
        rw [fd_mo_mul]
        simp only [fd_sub, fd_sm]
        rw [if_pos (by omega)]
        by_cases hjk : j = k
        · subst hjk
          have e2 : j - (j - e) = e := by omega
          rw [e2]; grind
        · rw [hf j (by omega), hw.2 (j - (k - e)) (by omega)]; simp
      obtain ⟨n, q, r, hn, hq, hr, heq⟩ := ih _ h1
      refine ⟨n * w e, fd_add (fd_sm n (fd_mo (f k) (k - e))) q, r, Int.mul_ne_zero hn hw.1, fd_F_add (fd_F_sm _ (fd_F_mo _ _)) hq, hr, ?_⟩
      rw [fd_add_mul, fd_sm_mul]
      funext i
      have := congrFun heq i
      simp only [fd_sm, fd_sub, fd_add] at this ⊢
      grind
def fd_dv (p f : Nat → Int) : Prop := ∃ q, fd_F q ∧ fd_mul p q = f
theorem fd_dv_refl (p : Nat → Int) : fd_dv p p := ⟨fd_c 1, fd_F_c 1, fd_mul_1 p⟩
theorem fd_dv_trans {a b c : Nat → Int} (h : fd_dv a b) (h' : fd_dv b c) : fd_dv a c := by
  obtain ⟨q, hq, e⟩ := h
  obtain ⟨r, hr, e'⟩ := h'
  exact ⟨fd_mul q r, fd_F_mul hq hr, by rw [← fd_mul_assoc, e, e']⟩
theorem fd_dv_mul_r {a b : Nat → Int} (c : Nat → Int) (hc : fd_F c) (h : fd_dv a b) : fd_dv a (fd_mul b c) :=
  fd_dv_trans h ⟨c, hc, rfl⟩
theorem fd_dv_mul_l {a b : Nat → Int} (c : Nat → Int) (hc : fd_F c) (h : fd_dv a b) : fd_dv a (fd_mul c b) := by
  rw [fd_mul_comm]; exact fd_dv_mul_r c hc h
theorem fd_dv_add {a b c : Nat → Int} (h : fd_dv a b) (h' : fd_dv a c) : fd_dv a (fd_add b c) := by
  obtain ⟨q, hq, e⟩ := h
  obtain ⟨r, hr, e'⟩ := h'
  exact ⟨fd_add q r, fd_F_add hq hr, by rw [fd_mul_add, e, e']⟩
theorem fd_dv_sm {a b : Nat → Int} (c : Int) (h : fd_dv a b) : fd_dv a (fd_sm c b) := by
  rw [← fd_mul_c]; exact fd_dv_mul_r _ (fd_F_c c) h
theorem fd_dv_z (a : Nat → Int) : fd_dv a fd_z := ⟨fd_z, fd_F_z, fd_mul_z a⟩
/-- a primitive divisor of n v divides v -/
theorem fd_dv_int {p v : Nat → Int} {n : Int} (hp : fd_pr p) (hn : n ≠ 0) (h : fd_dv p (fd_sm n v)) : fd_dv p v := by
  obtain ⟨q, hq, e⟩ := h
  obtain ⟨w', h1, h2⟩ := fd_cancel_int _ n p v q rfl hn hp e.symm
  exact ⟨w', fd_F_of_sm hn (by rw [← h1]; exact hq), h2.symm⟩
/-- irreducible: primitive, leading coefficient positive, degree at least 1, no proper product -/
def fd_Irr (p : Nat → Int) : Prop := fd_pr p ∧ (∃ d, 1 ≤ d ∧ fd_D p d ∧ 0 < p d) ∧ ∀ u v, fd_F u → fd_F v → fd_mul u v = p → fd_L u 0 ∨ fd_L v 0
theorem fd_euclid {p a b : Nat → Int} (hp : fd_Irr p) (ha : fd_F a) (_hb : fd_F b) (h : fd_dv p (fd_mul a b)) : fd_dv p a ∨ fd_dv p b := by
  obtain ⟨hpp, ⟨dp, hdp1, hdp, _⟩, hir⟩ := hp
  -- the least degree of what is not 0 in the ideal of p and a
  obtain ⟨e, ⟨w, hwe, s, t, hs, ht, hw⟩, hmin⟩ := fd_least (fun e => ∃ w, fd_D w e ∧ ∃ s t, fd_F s ∧ fd_F t ∧ w = fd_add (fd_mul s p) (fd_mul t a)) dp
    ⟨p, hdp, fd_c 1, fd_z, fd_F_c 1, fd_F_z, by rw [fd_1_mul, fd_z_mul]; funext i; simp [fd_add, fd_z]⟩
  have key : ∀ f : Nat → Int, fd_F f → (∃ s t, fd_F s ∧ fd_F t ∧ f = fd_add (fd_mul s p) (fd_mul t a)) → ∃ (n : Int) (q : Nat → Int), n ≠ 0 ∧ fd_F q ∧ fd_sm n f = fd_mul q w := by
    intro f hf hI
    obtain ⟨s1, t1, hs1, ht1, hf1⟩ := hI
    obtain ⟨k, hk⟩ := hf
    obtain ⟨n, q, r, hn, hq, hr, heq⟩ := fd_pdiv hwe k f hk
    refine ⟨n, q, hn, hq, ?_⟩
    have hrz : r = fd_z := by
      apply Classical.byContradiction
      intro hrz
      obtain ⟨e', he', hD⟩ := fd_D_ex' e r hr hrz
      refine hmin e' he' ⟨r, hD, fd_sub (fd_sm n s1) (fd_mul q s), fd_sub (fd_sm n t1) (fd_mul q t), fd_F_sub (fd_F_sm _ hs1) (fd_F_mul hq hs), fd_F_sub (fd_F_sm _ ht1) (fd_F_mul hq ht), ?_⟩
      have e1 : r = fd_sub (fd_sm n f) (fd_mul q w) := by
        rw [heq]; funext i; simp only [fd_sub, fd_add]; omega
      rw [e1, fd_sub_mul, fd_sub_mul, fd_sm_mul, fd_sm_mul, fd_mul_assoc, fd_mul_assoc]
      rw [show fd_mul q w = fd_add (fd_mul q (fd_mul s p)) (fd_mul q (fd_mul t a)) by rw [hw, fd_mul_add]]
      rw [show fd_sm n f = fd_add (fd_sm n (fd_mul s1 p)) (fd_sm n (fd_mul t1 a)) by rw [hf1]; funext i; simp only [fd_sm, fd_add]; grind]
      funext i; simp only [fd_sub, fd_add]; omega
    rw [heq, hrz]; funext i; simp [fd_add, fd_z]
  obtain ⟨n, q, hn, hq, h1⟩ := key p (fd_D_F hdp) ⟨fd_c 1, fd_z, fd_F_c 1, fd_F_z, by rw [fd_1_mul, fd_z_mul]; funext i; simp [fd_add, fd_z]⟩
  obtain ⟨n', q', hn', hq', h2⟩ := key a ha ⟨fd_z, fd_c 1, fd_F_z, fd_F_c 1, by rw [fd_1_mul, fd_z_mul]; funext i; simp [fd_add, fd_z]⟩
  obtain ⟨c, w0, hc, hw0, hcw⟩ := fd_prim_ex _ w e hwe rfl
  -- p = w0 q1
  have h3 : fd_sm n p = fd_mul w0 (fd_sm c q) := by
    rw [h1, hcw, fd_mul_sm, fd_mul_sm, fd_mul_comm]
  obtain ⟨q1, h4, h5⟩ := fd_cancel_int _ n w0 p _ rfl hn hw0 h3
  have hFw0 : fd_F w0 := fd_F_of_sm hc (by rw [← hcw]; exact fd_D_F hwe)
  have hFq1 : fd_F q1 := fd_F_of_sm hn (by rw [← h4]; exact fd_F_sm _ hq)
  rcases hir w0 q1 hFw0 hFq1 h5.symm with h6 | h6
  · -- w is a number
    right
    have h7 : w = fd_c (c * w0 0) := by
      rw [hcw, fd_L0_c h6]; funext i; simp only [fd_sm, fd_c]; by_cases hi : i = 0 <;> simp [hi]
    have h8 : c * w0 0 ≠ 0 := by
      intro e0
      exact fd_D_nz hwe (by rw [h7, e0]; funext i; simp [fd_c, fd_z])
    apply fd_dv_int hpp h8
    rw [← fd_c_mul, ← h7, hw, fd_add_mul]
    refine fd_dv_add ?_ ?_
    · rw [fd_mul_comm s p, fd_mul_assoc]; exact ⟨_, fd_F_mul hs _hb, rfl⟩
    · rw [fd_mul_assoc]; exact fd_dv_mul_l t ht h
  · -- w is a number times p
    left
    have h7 : p = fd_sm (q1 0) w0 := by rw [h5, fd_L0_c h6, fd_mul_c]; rfl
    have h8 : (q1 0).natAbs = 1 := by
      apply hpp
      intro i
      rw [h7]
      simp only [fd_sm]
      rw [Int.natAbs_dvd]
      exact ⟨w0 i, rfl⟩
    have h9 : w0 = fd_sm (q1 0) p := by
      rw [h7, fd_sm_sm]
      have : q1 0 * (q1 0) = 1 := by
        have : q1 0 = 1 ∨ q1 0 = -1 := by omega
        rcases this with e | e <;> rw [e] <;> decide
      rw [show q1 0 * q1 0 = 1 from this, fd_sm_1]
    apply fd_dv_int hpp hn'
    rw [h2, hcw, h9, fd_sm_sm, fd_mul_sm, fd_mul_comm]
    exact fd_dv_sm _ ⟨q', hq', rfl⟩
/-- an irreducible that divides an irreducible is it -/
theorem fd_irr_eq {p p' : Nat → Int} (h : fd_Irr p) (h' : fd_Irr p') (hd : fd_dv p p') : p = p' := by
  obtain ⟨q, hq, e⟩ := hd
  obtain ⟨hpp, ⟨d, hd1, hD, hpos⟩, _⟩ := h
  obtain ⟨hpp', ⟨d', _, hD', hpos'⟩, hir⟩ := h'
  rcases hir p q (fd_D_F hD) hq e with h1 | h1
  · exact absurd (h1 d (by omega)) hD.1
  · have h2 : p' = fd_sm (q 0) p := by rw [← e, fd_L0_c h1, fd_mul_c]; rfl
    have h3 : (q 0).natAbs = 1 := by
      apply hpp'
      intro i
      rw [h2]; simp only [fd_sm]; rw [Int.natAbs_dvd]; exact ⟨p i, rfl⟩
    have h4 : q 0 = 1 ∨ q 0 = -1 := by omega
    rcases h4 with h5 | h5
    · rw [h2, h5, fd_sm_1]
    · have h6 : d' = d := fd_D_u hD' (by rw [h2]; exact fd_D_sm (by omega) hD)
      rw [h6, h2, h5] at hpos'
      simp only [fd_sm] at hpos'
      omega
def fd_prod : List (Nat → Int) → (Nat → Int)
  | [] => fd_c 1
  | p :: L => fd_mul p (fd_prod L)
theorem fd_F_prod (L : List (Nat → Int)) (h : ∀ p ∈ L, fd_F p) : fd_F (fd_prod L) := by
  induction L with
  | nil => exact fd_F_c 1
  | cons p L ih => exact fd_F_mul (h p (List.mem_cons_self ..)) (ih fun q hq => h q (List.mem_cons_of_mem _ hq))
theorem fd_irr_F {p : Nat → Int} (h : fd_Irr p) : fd_F p := by
  obtain ⟨_, ⟨d, _, hD, _⟩, _⟩ := h
  exact fd_D_F hD
theorem fd_irr_nz {p : Nat → Int} (h : fd_Irr p) : p ≠ fd_z := by
  obtain ⟨_, ⟨d, _, hD, _⟩, _⟩ := h
  exact fd_D_nz hD
theorem fd_irr_nc {p : Nat → Int} (h : fd_Irr p) (c : Int) (hc : c ≠ 0) : ¬ fd_dv p (fd_c c) := by
  intro hd
  obtain ⟨q, hq, e⟩ := hd
  obtain ⟨_, ⟨d, hd1, hD, _⟩, _⟩ := h
  obtain ⟨a, b, ha, _, hab⟩ := fd_D_split (fd_D_F hD) hq e (fd_D_c hc)
  have := fd_D_u ha hD
  omega
theorem fd_mem {p : Nat → Int} (hp : fd_Irr p) (c : Int) (hc : c ≠ 0) (L : List (Nat → Int)) (hL : ∀ q ∈ L, fd_Irr q) (h : fd_dv p (fd_sm c (fd_prod L))) : p ∈ L := by
  have h1 := fd_dv_int hp.1 hc h
  induction L with
  | nil => exact absurd h1 (fd_irr_nc hp 1 (by decide))
  | cons q L ih =>
    have hq := hL q (List.mem_cons_self ..)
    have hF : fd_F (fd_prod L) := fd_F_prod L fun r hr => fd_irr_F (hL r (List.mem_cons_of_mem _ hr))
    rcases fd_euclid hp (fd_irr_F hq) hF h1 with h2 | h2
    · rw [fd_irr_eq hp hq h2]; exact List.mem_cons_self ..
    · exact List.mem_cons_of_mem _ (ih (fun r hr => hL r (List.mem_cons_of_mem _ hr)) (fd_dv_sm c h2) h2)
end
section
/-! the order of factors; a sorted list of irreducibles is unique -/
def fd_lt (p q : Nat → Int) : Prop := ∃ i, p i < q i ∧ ∀ j, i < j → p j = q j
def fd_le (p q : Nat → Int) : Prop := p = q ∨ fd_lt p q
theorem fd_lt_as {p q : Nat → Int} (h : fd_lt p q) (h' : fd_lt q p) : False := by
  obtain ⟨i, h1, h2⟩ := h
  obtain ⟨j, h3, h4⟩ := h'
  rcases Nat.lt_trichotomy i j with h5 | h5 | h5
  · have := h2 j h5; omega
  · subst h5; omega
  · have := h4 i h5; omega
theorem fd_le_as {p q : Nat → Int} (h : fd_le p q) (h' : fd_le q p) : p = q := by
  rcases h with h | h
  · exact h
  · rcases h' with h' | h'
    · exact h'.symm
    · exact (fd_lt_as h h').elim
theorem fd_lt_deg {p q : Nat → Int} {a b : Nat} (hp : fd_L p a) (hq : fd_D q b) (hpos : 0 < q b) (h : a < b) : fd_lt p q :=
  ⟨b, by rw [hp b h]; exact hpos, fun j hj => by rw [hp j (by omega), hq.2 j hj]⟩
theorem fd_sm_c1 (c : Int) : fd_sm c (fd_c 1) = fd_c c := by
  funext i; simp only [fd_sm, fd_c]; by_cases h : i = 0 <;> simp [h]
theorem fd_uniq : ∀ (L L' : List (Nat → Int)) (c c' : Int), c ≠ 0 → c' ≠ 0 → (∀ p ∈ L, fd_Irr p) → (∀ p ∈ L', fd_Irr p) → List.Pairwise fd_le L → List.Pairwise fd_le L' → fd_sm c (fd_prod L) = fd_sm c' (fd_prod L') → L = L' := by
  intro L
  induction L with
  | nil =>
    intro L' c c' hc hc' _ hI' _ _ h
    cases L' with
    | nil => rfl
    | cons q L'' =>
      refine absurd ?_ (fd_irr_nc (hI' q (List.mem_cons_self ..)) c hc)
      have e : fd_c c = fd_sm c' (fd_mul q (fd_prod L'')) := by
        have := h; rw [fd_prod, fd_sm_c1] at this; exact this
      rw [e, ← fd_mul_sm]
      exact ⟨_, fd_F_sm _ (fd_F_prod L'' fun r hr => fd_irr_F (hI' r (List.mem_cons_of_mem _ hr))), rfl⟩
  | cons p L ih =>
    intro L' c c' hc hc' hI hI' hs hs' h
    have hFL : fd_F (fd_prod L) := fd_F_prod L fun r hr => fd_irr_F (hI r (List.mem_cons_of_mem _ hr))
    have hp := hI p (List.mem_cons_self ..)
    have hpd : fd_dv p (fd_sm c (fd_prod (p :: L))) := by
      rw [fd_prod, ← fd_mul_sm]; exact ⟨_, fd_F_sm _ hFL, rfl⟩
    cases L' with
    | nil =>
      refine absurd ?_ (fd_irr_nc hp c' hc')
      have e : fd_c c' = fd_sm c (fd_prod (p :: L)) := by
        rw [h, fd_prod, fd_sm_c1]
      rw [e]; exact hpd
    | cons q L'' =>
      have hFL' : fd_F (fd_prod L'') := fd_F_prod L'' fun r hr => fd_irr_F (hI' r (List.mem_cons_of_mem _ hr))
      have hq := hI' q (List.mem_cons_self ..)
      have hqd : fd_dv q (fd_sm c' (fd_prod (q :: L''))) := by
        rw [fd_prod, ← fd_mul_sm]; exact ⟨_, fd_F_sm _ hFL', rfl⟩
      have m1 : p ∈ q :: L'' := fd_mem hp c' hc' _ hI' (by rw [← h]; exact hpd)
      have m2 : q ∈ p :: L := fd_mem hq c hc _ hI (by rw [h]; exact hqd)
      have e : p = q := by
        rcases List.mem_cons.mp m1 with e | e
        · exact e
        · rcases List.mem_cons.mp m2 with e' | e'
          · exact e'.symm
          · exact fd_le_as ((List.pairwise_cons.mp hs).1 q e') ((List.pairwise_cons.mp hs').1 p e)
      subst e
      have e2 : fd_sm c (fd_prod L) = fd_sm c' (fd_prod L'') := by
        apply fd_cancel (fd_irr_F hp) (fd_irr_nz hp) (fd_F_sm _ hFL) (fd_F_sm _ hFL')
        rw [fd_mul_sm, fd_mul_sm]; exact h
      rw [ih L'' c c' hc hc' (fun r hr => hI r (List.mem_cons_of_mem _ hr)) (fun r hr => hI' r (List.mem_cons_of_mem _ hr)) (List.pairwise_cons.mp hs).2 (List.pairwise_cons.mp hs').2 e2]
theorem fd_prod_app (L L' : List (Nat → Int)) : fd_prod (L ++ L') = fd_mul (fd_prod L) (fd_prod L') := by
  induction L with
  | nil => rw [List.nil_append, fd_prod, fd_1_mul]
  | cons p L ih => rw [List.cons_append, fd_prod, ih, fd_prod, fd_mul_assoc]
theorem fd_prod_snoc (L : List (Nat → Int)) (p : Nat → Int) : fd_prod (L ++ [p]) = fd_mul (fd_prod L) p := by
  rw [fd_prod_app, fd_prod, fd_prod, fd_mul_1]
theorem fd_prod_D (L : List (Nat → Int)) (h : ∀ p ∈ L, fd_Irr p) : ∃ s, fd_D (fd_prod L) s ∧ 0 < fd_prod L s ∧ L.length ≤ s := by
  induction L with
  | nil => exact ⟨0, fd_D_c (by decide), by decide, Nat.le_refl 0⟩
  | cons p L ih =>
    obtain ⟨s, h1, h2, h3⟩ := ih fun q hq => h q (List.mem_cons_of_mem _ hq)
    obtain ⟨_, ⟨d, hd1, hD, hpos⟩, _⟩ := h p (List.mem_cons_self ..)
    refine ⟨d + s, fd_D_mul hD h1, ?_, by rw [List.length_cons]; omega⟩
    rw [fd_prod, (fd_top d s p (fd_prod L) hD.2 h1.2).1]
    exact Int.mul_pos hpos h2
/-! small polynomials -/
def fd_q (t m l : Int) : Nat → Int := fun i => if i = 0 then l else if i = 1 then m else if i = 2 then t else 0
theorem fd_q_0 (t m l : Int) : fd_q t m l 0 = l := rfl
theorem fd_q_1 (t m l : Int) : fd_q t m l 1 = m := rfl
theorem fd_q_2 (t m l : Int) : fd_q t m l 2 = t := rfl
theorem fd_q_L (t m l : Int) : fd_L (fd_q t m l) 2 := fun j hj => by
  simp only [fd_q]; rw [if_neg (by omega), if_neg (by omega), if_neg (by omega)]
theorem fd_q_L1 (m l : Int) : fd_L (fd_q 0 m l) 1 := fun j hj => by
  simp only [fd_q]; rw [if_neg (by omega), if_neg (by omega)]; split <;> rfl
theorem fd_q_D2 {t : Int} (m l : Int) (h : t ≠ 0) : fd_D (fd_q t m l) 2 := ⟨h, fd_q_L t m l⟩
theorem fd_q_D1 {m : Int} (l : Int) (h : m ≠ 0) : fd_D (fd_q 0 m l) 1 := ⟨h, fd_q_L1 m l⟩
theorem fd_q_F (t m l : Int) : fd_F (fd_q t m l) := fd_L_F (fd_q_L t m l)
theorem fd_is_q {u : Nat → Int} (h : fd_L u 2) : u = fd_q (u 2) (u 1) (u 0) := by
  funext i
  by_cases h0 : i = 0
  · subst h0; rfl
  · by_cases h1 : i = 1
    · subst h1; rfl
    · by_cases h2 : i = 2
      · subst h2; rfl
      · rw [h i (by omega)]; simp only [fd_q]; rw [if_neg h0, if_neg h1, if_neg h2]
theorem fd_is_l {u : Nat → Int} (h : fd_L u 1) : u = fd_q 0 (u 1) (u 0) := by
  have := fd_is_q (fd_L_mono h (by omega : 1 ≤ 2)); rw [h 2 (by omega)] at this; exact this
theorem fd_q_mul0 (t m l : Int) (h : Nat → Int) : fd_mul (fd_q t m l) h 0 = l * h 0 := rfl
theorem fd_q_mul1 (t m l : Int) (h : Nat → Int) : fd_mul (fd_q t m l) h 1 = l * h 1 + m * h 0 := rfl
theorem fd_q_mul2 (t m l : Int) (h : Nat → Int) (k : Nat) : fd_mul (fd_q t m l) h (k + 2) = l * h (k + 2) + m * h (k + 1) + t * h k := by
  have e : (fun i => (fun j => fd_q t m l (j + 1)) (i + 1)) = fd_c t := by
    funext i
    cases i with
    | zero => rfl
    | succ i => simp [fd_q, fd_c]
  rw [fd_mul, fd_mul, e, fd_c_mul]
  simp only [fd_sm, fd_q_0]
  show l * h (k + 2) + (m * h (k + 1) + t * h k) = _
  omega
/-- lowest coefficients -/
theorem fd_low {f : Nat → Int} (h : f ≠ fd_z) : ∃ k, f k ≠ 0 ∧ ∀ j, j < k → f j = 0 := by
  have : ∃ i, f i ≠ 0 := Classical.byContradiction fun hn => h (funext fun i => Classical.byContradiction fun hi => hn ⟨i, hi⟩)
  obtain ⟨i, hi⟩ := this
  obtain ⟨k, hk, hm⟩ := fd_least (fun k => f k ≠ 0) i hi
  exact ⟨k, hk, fun j hj => Classical.not_not.mp (hm j hj)⟩
theorem fd_low_mul {f g : Nat → Int} {a b : Nat} (hf : ∀ j, j < a → f j = 0) (hg : ∀ j, j < b → g j = 0) : fd_mul f g (a + b) = f a * g b := by
  have h := fd_mod_ab 0 g b (fun i hi => by rw [hg i hi]; exact ⟨0, by simp⟩) a f (fun i hi => by rw [hf i hi]; exact ⟨0, by simp⟩)
  have := Int.zero_dvd.mp h
  omega
/-- what a register may hold, but 0 -/
def fd_H (F : Nat → Int) : Prop := (∀ i, -20 ≤ F i ∧ F i ≤ 20) ∧ fd_L F 5 ∧ F ≠ fd_z
theorem fd_n1 {x y z : Int} (h : x * y = z) (hy : y ≠ 0) (hz : -20 ≤ z ∧ z ≤ 20) : -20 ≤ x ∧ x ≤ 20 := by
  have h1 : x.natAbs * y.natAbs = z.natAbs := by rw [← Int.natAbs_mul, h]
  have h2 : 1 ≤ y.natAbs := by omega
  have h3 : x.natAbs * 1 ≤ x.natAbs * y.natAbs := Nat.mul_le_mul_left _ h2
  omega
theorem fd_b_lead {F g h : Nat → Int} {a : Nat} (hF : fd_H F) (hg : fd_D g a) (hh : fd_F h) (e : fd_mul g h = F) : -20 ≤ g a ∧ g a ≤ 20 := by
  have hz : h ≠ fd_z := fun z => hF.2.2 (by rw [← e, z, fd_mul_z])
  obtain ⟨b, hb⟩ := fd_D_ex hh hz
  have h1 := (fd_top a b g h hg.2 hb.2).1
  rw [e] at h1
  exact fd_n1 h1.symm hb.1 (hF.1 _)
theorem fd_b_low {F g h : Nat → Int} {a : Nat} (hF : fd_H F) (hg : ∀ j, j < a → g j = 0) (e : fd_mul g h = F) : -20 ≤ g a ∧ g a ≤ 20 := by
  have hz : h ≠ fd_z := fun z => hF.2.2 (by rw [← e, z, fd_mul_z])
  obtain ⟨b, hb, hb'⟩ := fd_low hz
  have h1 := fd_low_mul hg hb'
  rw [e] at h1
  exact fd_n1 h1.symm hb (hF.1 _)
theorem fd_max (n : Nat) : ∀ h : Nat → Int, (∀ j, n ≤ j → h j = 0) → ∃ k, ∀ j, (h j).natAbs ≤ (h k).natAbs := by
  induction n with
  | zero => intro h hh; exact ⟨0, fun j => by rw [hh j (Nat.zero_le _), hh 0 (Nat.zero_le _)]; exact Nat.le_refl _⟩
  | succ n ih =>
    intro h hh
    obtain ⟨k, hk⟩ := ih (fun i => if i < n then h i else 0) (fun j hj => if_neg (by omega))
    by_cases hc : (h n).natAbs ≤ ((fun i => if i < n then h i else 0) k).natAbs
    · by_cases hkn : k < n
      · refine ⟨k, fun j => ?_⟩
        have h1 : ((if j < n then h j else 0) : Int).natAbs ≤ ((if k < n then h k else 0) : Int).natAbs := hk j
        simp only at hc
        rw [if_pos hkn] at h1 hc
        by_cases hj : j < n
        · rw [if_pos hj] at h1; exact h1
        · by_cases hj2 : j = n
          · rw [hj2]; exact hc
          · rw [hh j (by omega)]; simp
      · refine ⟨n, fun j => ?_⟩
        have h1 : ((if j < n then h j else 0) : Int).natAbs ≤ ((if k < n then h k else 0) : Int).natAbs := hk j
        rw [if_neg hkn] at h1
        by_cases hj : j < n
        · rw [if_pos hj] at h1; simp at h1; rw [h1]; simp
        · by_cases hj2 : j = n
          · rw [hj2]; exact Nat.le_refl _
          · rw [hh j (by omega)]; simp
    · refine ⟨n, fun j => ?_⟩
      have h1 : ((if j < n then h j else 0) : Int).natAbs ≤ ((if k < n then h k else 0) : Int).natAbs := hk j
      simp only at hc
      by_cases hj : j < n
      · rw [if_pos hj] at h1; omega
      · by_cases hj2 : j = n
        · rw [hj2]; exact Nat.le_refl _
        · rw [hh j (by omega)]; simp
theorem fd_n2 {m t l x y z v : Int} (hv : -20 ≤ v ∧ v ≤ 20) (ht : -20 ≤ t ∧ t ≤ 20) (hl : -20 ≤ l ∧ l ≤ 20) (hx : x.natAbs ≤ y.natAbs) (hz : z.natAbs ≤ y.natAbs) (hy : y ≠ 0) (e : l * x + m * y + t * z = v) : -60 ≤ m ∧ m ≤ 60 := by
  have h1 : (m * y).natAbs ≤ 20 + 20 * y.natAbs + 20 * y.natAbs := by
    have e1 : m * y = v - l * x - t * z := by omega
    have h2 : (l * x).natAbs ≤ 20 * y.natAbs := by rw [Int.natAbs_mul]; exact Nat.mul_le_mul (by omega) hx
    have h3 : (t * z).natAbs ≤ 20 * y.natAbs := by rw [Int.natAbs_mul]; exact Nat.mul_le_mul (by omega) hz
    omega
  rw [Int.natAbs_mul] at h1
  have h4 : 1 ≤ y.natAbs := by omega
  have h5 : m.natAbs * y.natAbs ≤ 60 * y.natAbs := by omega
  have h6 := Nat.le_of_mul_le_mul_right h5 h4
  omega
theorem fd_bq {F h : Nat → Int} {t m l : Int} (hF : fd_H F) (hh : fd_F h) (e : fd_mul (fd_q t m l) h = F) (ht : -20 ≤ t ∧ t ≤ 20) (hl : -20 ≤ l ∧ l ≤ 20) : -60 ≤ m ∧ m ≤ 60 := by
  obtain ⟨n, hn⟩ := hh
  obtain ⟨k, hk⟩ := fd_max n h hn
  have hz : h ≠ fd_z := fun z => hF.2.2 (by rw [← e, z, fd_mul_z])
  have hk0 : h k ≠ 0 := by
    intro e0
    refine hz (funext fun j => ?_)
    have := hk j
    rw [e0] at this
    simp only [fd_z]
    omega
  cases k with
  | zero =>
    have h1 := fd_q_mul1 t m l h
    rw [e] at h1
    exact fd_n2 (x := h 1) (z := 0) (hF.1 1) ht hl (hk 1) (by simp) hk0 (by rw [h1]; simp)
  | succ k =>
    have h1 := fd_q_mul2 t m l h k
    rw [e] at h1
    exact fd_n2 (hF.1 (k + 2)) ht hl (hk (k + 2)) (hk k) hk0 h1.symm
/-- divisors of degree 1 and 2 -/
theorem fd_b1 {F g h : Nat → Int} (hF : fd_H F) (hg : fd_D g 1) (hh : fd_F h) (e : fd_mul g h = F) : (-20 ≤ g 1 ∧ g 1 ≤ 20) ∧ (-20 ≤ g 0 ∧ g 0 ≤ 20) :=
  ⟨fd_b_lead hF hg hh e, fd_b_low hF (fun j hj => by omega) e⟩
theorem fd_b2 {F g h : Nat → Int} (hF : fd_H F) (hg : fd_D g 2) (hh : fd_F h) (e : fd_mul g h = F) : (-20 ≤ g 2 ∧ g 2 ≤ 20) ∧ (-60 ≤ g 1 ∧ g 1 ≤ 60) ∧ (-20 ≤ g 0 ∧ g 0 ≤ 20) := by
  have h2 := fd_b_lead hF hg hh e
  have h0 : -20 ≤ g 0 ∧ g 0 ≤ 20 := fd_b_low hF (fun j hj => by omega) e
  refine ⟨h2, ?_, h0⟩
  rw [fd_is_q hg.2] at e
  exact fd_bq hF hh e h2 h0
end
section
/-! a bound for all divisors -/
theorem fd_n3 {h x y v l : Int} {Y : Nat} (hh : h ≠ 0) (hv : -20 ≤ v ∧ v ≤ 20) (hl : -20 ≤ l ∧ l ≤ 20) (hy : y.natAbs ≤ Y) (e : l * y + h * x = v) : x.natAbs ≤ 20 + 20 * Y := by
  have h1 : (l * y).natAbs ≤ 20 * Y := by rw [Int.natAbs_mul]; exact Nat.mul_le_mul (by omega) hy
  have h2 : (h * x).natAbs ≤ 20 + 20 * Y := by omega
  rw [Int.natAbs_mul] at h2
  have h3 : 1 ≤ h.natAbs := by omega
  have h4 : 1 * x.natAbs ≤ h.natAbs * x.natAbs := Nat.mul_le_mul_right _ h3
  omega
theorem fd_n4 {h x y z v l m : Int} {Y Z : Nat} (hh : h ≠ 0) (hv : -20 ≤ v ∧ v ≤ 20) (hl : -20 ≤ l ∧ l ≤ 20) (hm : -60 ≤ m ∧ m ≤ 60) (hy : y.natAbs ≤ Y) (hz : z.natAbs ≤ Z) (e : l * z + m * y + h * x = v) : x.natAbs ≤ 20 + 60 * Y + 20 * Z := by
  have h1 : (l * z).natAbs ≤ 20 * Z := by rw [Int.natAbs_mul]; exact Nat.mul_le_mul (by omega) hz
  have h1' : (m * y).natAbs ≤ 60 * Y := by rw [Int.natAbs_mul]; exact Nat.mul_le_mul (by omega) hy
  have h2 : (h * x).natAbs ≤ 20 + 60 * Y + 20 * Z := by omega
  rw [Int.natAbs_mul] at h2
  have h3 : 1 ≤ h.natAbs := by omega
  have h4 : 1 * x.natAbs ≤ h.natAbs * x.natAbs := Nat.mul_le_mul_right _ h3
  omega
theorem fd_bB_lin {F g : Nat → Int} {a c : Int} (hF : fd_H F) (ha : a ≠ 0) (hg : fd_L g 4) (e : fd_mul (fd_q 0 a c) g = F) (hc : -20 ≤ c ∧ c ≤ 20) (i : Nat) : (g i).natAbs ≤ 170000 := by
  have r : ∀ k, c * g (k + 1) + a * g k = F (k + 1) := by
    intro k
    cases k with
    | zero => rw [← e, fd_q_mul1]
    | succ k => rw [← e, fd_q_mul2]; simp
  have g5 : g 5 = 0 := hg 5 (by omega)
  have h4 := fd_n3 (Y := 0) ha (hF.1 5) hc (by rw [g5]; simp) (r 4)
  have h3 := fd_n3 (Y := 20) ha (hF.1 4) hc (by omega) (r 3)
  have h2 := fd_n3 (Y := 420) ha (hF.1 3) hc (by omega) (r 2)
  have h1 := fd_n3 (Y := 8420) ha (hF.1 2) hc (by omega) (r 1)
  have h0 : (g 0).natAbs ≤ 20 := by
    by_cases hc0 : c = 0
    · have := fd_n3 (y := 0) (Y := 0) ha (hF.1 1) hc (by simp) (by have := r 0; rw [hc0] at this ⊢; simpa using this)
      omega
    · have h5 : fd_mul (fd_q 0 a c) g 0 = F 0 := by rw [e]
      rw [fd_q_mul0] at h5
      have := fd_n1 (x := g 0) (y := c) (by rw [Int.mul_comm]; exact h5) hc0 (hF.1 0)
      omega
  match i with
  | 0 => omega
  | 1 => omega
  | 2 => omega
  | 3 => omega
  | 4 => omega
  | (n + 5) => rw [hg (n + 5) (by omega)]; simp
theorem fd_bB_quad {F g : Nat → Int} {t m l : Int} (hF : fd_H F) (ht0 : t ≠ 0) (hg : fd_L g 3) (hgF : fd_F g) (e : fd_mul (fd_q t m l) g = F) (hl : -20 ≤ l ∧ l ≤ 20) (hm : -60 ≤ m ∧ m ≤ 60) (i : Nat) : (g i).natAbs ≤ 170000 := by
  have r : ∀ k, l * g (k + 2) + m * g (k + 1) + t * g k = F (k + 2) := by
    intro k; rw [← e, fd_q_mul2]
  have g5 : g 5 = 0 := hg 5 (by omega)
  have g4 : g 4 = 0 := hg 4 (by omega)
  have hi : (g 0).natAbs ≤ 170000 ∧ (g 1).natAbs ≤ 170000 ∧ (g 2).natAbs ≤ 170000 ∧ (g 3).natAbs ≤ 170000 := by
    by_cases hl0 : l = 0
    · have hm' : -20 ≤ m ∧ m ≤ 20 := by
        have hz0 : ∀ j, j < 1 → fd_q t m l j = 0 := by
          intro j hj
          have hj0 : j = 0 := by omega
          rw [hj0, fd_q_0]; exact hl0
        exact fd_b_low (a := 1) hF hz0 e
      have r' : ∀ k, m * g (k + 1) + t * g k = F (k + 2) := by
        intro k; have := r k; rw [hl0] at this; simpa using this
      have h3 := fd_n3 (Y := 0) ht0 (hF.1 5) hm' (by rw [g4]; simp) (r' 3)
      have h2 := fd_n3 (Y := 20) ht0 (hF.1 4) hm' (by omega) (r' 2)
      have h1 := fd_n3 (Y := 420) ht0 (hF.1 3) hm' (by omega) (r' 1)
      have h0 := fd_n3 (Y := 8420) ht0 (hF.1 2) hm' (by omega) (r' 0)
      omega
    · have h3 := fd_n4 (Y := 0) (Z := 0) ht0 (hF.1 5) hl hm (by rw [g4]; simp) (by rw [g5]; simp) (r 3)
      have h2 := fd_n4 (Y := 20) (Z := 0) ht0 (hF.1 4) hl hm (by omega) (by rw [g4]; simp) (r 2)
      have h1 := fd_n4 (Y := 1220) (Z := 20) ht0 (hF.1 3) hl hm (by omega) (by omega) (r 1)
      have h5 : fd_mul (fd_q t m l) g 0 = F 0 := by rw [e]
      rw [fd_q_mul0] at h5
      have := fd_n1 (x := g 0) (y := l) (by rw [Int.mul_comm]; exact h5) hl0 (hF.1 0)
      omega
  match i with
  | 0 => omega
  | 1 => omega
  | 2 => omega
  | 3 => omega
  | (n + 4) => rw [hg (n + 4) (by omega)]; simp
theorem fd_bB {F g h : Nat → Int} (hF : fd_H F) (hg : fd_F g) (hh : fd_F h) (e : fd_mul g h = F) (i : Nat) : (g i).natAbs ≤ 170000 := by
  have hz : g ≠ fd_z := fun z => hF.2.2 (by rw [← e, z, fd_z_mul])
  have hz' : h ≠ fd_z := fun z => hF.2.2 (by rw [← e, z, fd_mul_z])
  obtain ⟨a, ha⟩ := fd_D_ex hg hz
  obtain ⟨b, hb⟩ := fd_D_ex hh hz'
  have hab : a + b ≤ 5 := by
    have := fd_D_mul ha hb
    rw [e] at this
    exact fd_D_le this hF.2.1
  have e' : fd_mul h g = F := by rw [fd_mul_comm]; exact e
  match b, hb, hab with
  | 0, hb, hab =>
    rw [fd_L0_c hb.2, fd_mul_c] at e
    have h1 : h 0 * g i = F i := congrFun e i
    have := fd_n1 (x := g i) (y := h 0) (by rw [Int.mul_comm]; exact h1) hb.1 (hF.1 i)
    omega
  | 1, hb, hab =>
    obtain ⟨_, h0⟩ := fd_b1 hF hb hg e'
    rw [fd_is_l hb.2] at e'
    exact fd_bB_lin hF hb.1 (fd_L_mono ha.2 (by omega)) e' h0 i
  | 2, hb, hab =>
    obtain ⟨_, h1, h0⟩ := fd_b2 hF hb hg e'
    rw [fd_is_q hb.2] at e'
    exact fd_bB_quad hF hb.1 (fd_L_mono ha.2 (by omega)) hg e' h0 h1 i
  | (k + 3), hb, hab =>
    match a, ha, hab with
    | 0, ha, _ =>
      have h0 := fd_b_lead hF ha hh e
      by_cases hi : i = 0
      · subst hi; omega
      · rw [ha.2 i (by omega)]; simp
    | 1, ha, _ =>
      obtain ⟨h1, h0⟩ := fd_b1 hF ha hh e
      match i with
      | 0 => omega
      | 1 => omega
      | (n + 2) => rw [ha.2 (n + 2) (by omega)]; simp
    | 2, ha, _ =>
      obtain ⟨h2, h1, h0⟩ := fd_b2 hF ha hh e
      match i with
      | 0 => omega
      | 1 => omega
      | 2 => omega
      | (n + 3) => rw [ha.2 (n + 3) (by omega)]; simp
    | (a + 3), _, hab => omega
/-! taking factors out -/
def fd_LF (f : Nat → Int) : Prop := ∀ u, fd_D u 1 → ¬ fd_dv u f
def fd_QF (f : Nat → Int) : Prop := ∀ u, fd_D u 2 → ¬ fd_dv u f
theorem fd_pr_dv {u f : Nat → Int} (h : fd_dv u f) (hp : fd_pr f) : fd_pr u := by
  intro m hm
  obtain ⟨q, _, e⟩ := h
  refine hp m fun i => ?_
  rw [← e, fd_mul_comm]
  exact fd_dvd_mul_le m u i q fun j _ => hm j
theorem fd_irr1 {u : Nat → Int} (hD : fd_D u 1) (hpos : 0 < u 1) (hp : fd_pr u) : fd_Irr u := by
  refine ⟨hp, ⟨1, Nat.le_refl 1, hD, hpos⟩, fun v w hv hw e => ?_⟩
  obtain ⟨a, b, ha, hb, hab⟩ := fd_D_split hv hw e hD
  by_cases h : a = 0
  · left; rw [← h]; exact ha.2
  · right; have : b = 0 := by omega
    rw [← this]; exact hb.2
theorem fd_irr_left {f : Nat → Int} {d : Nat} (hD : fd_D f d) (hd : 2 ≤ d) (hd5 : d ≤ 5) (hpos : 0 < f d) (hp : fd_pr f) (hl : fd_LF f) (hq : 4 ≤ d → fd_QF f) : fd_Irr f := by
  refine ⟨hp, ⟨d, by omega, hD, hpos⟩, fun v w hv hw e => ?_⟩
  obtain ⟨a, b, ha, hb, hab⟩ := fd_D_split hv hw e hD
  have hv' : fd_dv v f := ⟨w, hw, e⟩
  have hw' : fd_dv w f := ⟨v, hv, by rw [fd_mul_comm]; exact e⟩
  by_cases h0 : a = 0
  · left; rw [← h0]; exact ha.2
  by_cases h0' : b = 0
  · right; rw [← h0']; exact hb.2
  by_cases h1 : a = 1
  · exact absurd hv' (hl v (by rw [← h1]; exact ha))
  by_cases h1' : b = 1
  · exact absurd hw' (hl w (by rw [← h1']; exact hb))
  by_cases h2 : a = 2
  · exact absurd hv' (hq (by omega) v (by rw [← h2]; exact ha))
  · have h2' : b = 2 := by omega
    exact absurd hw' (hq (by omega) w (by rw [← h2']; exact hb))
theorem fd_irr2 {u : Nat → Int} (hD : fd_D u 2) (hpos : 0 < u 2) (hp : fd_pr u) (hl : fd_LF u) : fd_Irr u :=
  fd_irr_left hD (by omega) (by omega) hpos hp hl (fun h => absurd h (by decide))
def fd_St (F f : Nat → Int) (L : List (Nat → Int)) : Prop := fd_mul (fd_prod L) f = F ∧ (∀ p ∈ L, fd_Irr p) ∧ ∃ d, fd_D f d ∧ 0 < f d
theorem fd_St_F {F f : Nat → Int} {L : List (Nat → Int)} (h : fd_St F f L) : fd_F f := by
  obtain ⟨_, _, d, hD, _⟩ := h
  exact fd_D_F hD
theorem fd_St_nz {F f : Nat → Int} {L : List (Nat → Int)} (h : fd_St F f L) : f ≠ fd_z := by
  obtain ⟨_, _, d, hD, _⟩ := h
  exact fd_D_nz hD
theorem fd_St_pF {F f : Nat → Int} {L : List (Nat → Int)} (h : fd_St F f L) : fd_F (fd_prod L) :=
  fd_F_prod L fun p hp => fd_irr_F (h.2.1 p hp)
theorem fd_St_dv {F f : Nat → Int} {L : List (Nat → Int)} (h : fd_St F f L) : fd_dv f F :=
  ⟨fd_prod L, fd_St_pF h, by rw [fd_mul_comm]; exact h.1⟩
theorem fd_St_len {F f : Nat → Int} {L : List (Nat → Int)} {d : Nat} (hF : fd_L F 5) (h : fd_St F f L) (hd : fd_D f d) : L.length + d ≤ 5 := by
  obtain ⟨s, h1, _, h3⟩ := fd_prod_D L h.2.1
  have h4 := fd_D_mul h1 hd
  rw [h.1] at h4
  have := fd_D_le h4 hF
  omega
theorem fd_St_L5 {F f : Nat → Int} {L : List (Nat → Int)} (hF : fd_L F 5) (h : fd_St F f L) : fd_L f 5 := by
  obtain ⟨_, _, d, hD, _⟩ := id h
  have := fd_St_len hF h hD
  exact fd_L_mono hD.2 (by omega)
theorem fd_St_pr {F f : Nat → Int} {L : List (Nat → Int)} (hp : fd_pr F) (h : fd_St F f L) : fd_pr f := fd_pr_dv (fd_St_dv h) hp
theorem fd_St_take {F f f' u : Nat → Int} {L : List (Nat → Int)} (h : fd_St F f L) (hu : fd_Irr u) (hf' : fd_F f') (e : fd_mul u f' = f) : fd_St F f' (L ++ [u]) := by
  obtain ⟨h1, h2, d, hD, hpos⟩ := h
  refine ⟨by rw [fd_prod_snoc, fd_mul_assoc, e, h1], fun p hp => ?_, ?_⟩
  · rcases List.mem_append.mp hp with h | h
    · exact h2 p h
    · rw [List.mem_singleton.mp h]; exact hu
  · obtain ⟨a, b, ha, hb, hab⟩ := fd_D_split (fd_irr_F hu) hf' e hD
    refine ⟨b, hb, ?_⟩
    obtain ⟨_, ⟨a', _, ha', hapos⟩, _⟩ := hu
    have haa := fd_D_u ha ha'
    subst haa
    have h3 := (fd_top a b u f' ha.2 hb.2).1
    rw [e, hab] at h3
    rw [h3] at hpos
    exact Int.pos_of_mul_pos_right hpos hapos
/-- degree 1, scanned up to a x + c -/
def fd_P1 (F f : Nat → Int) (L : List (Nat → Int)) (a c : Int) : Prop := fd_St F f L ∧ List.Pairwise fd_le L ∧ (∀ p ∈ L, fd_D p 1 ∧ (p 1 < a ∨ p 1 = a ∧ p 0 ≤ c)) ∧ ∀ a' c' : Int, 1 ≤ a' → -20 ≤ c' → c' ≤ 20 → (a' < a ∨ a' = a ∧ c' < c) → ¬ fd_dv (fd_q 0 a' c') f
theorem fd_P1_take {F f f' : Nat → Int} {L : List (Nat → Int)} {a c : Int} (hp : fd_pr F) (h : fd_P1 F f L a c) (ha : 1 ≤ a) (hf' : fd_F f') (e : fd_mul (fd_q 0 a c) f' = f) : fd_P1 F f' (L ++ [fd_q 0 a c]) a c := by
  obtain ⟨h1, h2, h3, h4⟩ := h
  have hdv : fd_dv (fd_q 0 a c) f := ⟨f', hf', e⟩
  have hD : fd_D (fd_q 0 a c) 1 := fd_q_D1 c (by omega)
  have hu : fd_Irr (fd_q 0 a c) := fd_irr1 hD (by rw [fd_q_1]; omega) (fd_pr_dv hdv (fd_St_pr hp h1))
  refine ⟨fd_St_take h1 hu hf' e, ?_, fun p hpm => ?_, fun a' c' h5 h7 h8 h9 h10 => h4 a' c' h5 h7 h8 h9 ?_⟩
  · refine List.pairwise_append.mpr ⟨h2, List.pairwise_singleton _ _, fun p hpm q hq => ?_⟩
    rw [List.mem_singleton.mp hq]
    obtain ⟨hpD, hpl⟩ := h3 p hpm
    rcases hpl with h5 | ⟨h5, h6⟩
    · exact Or.inr ⟨1, by rw [fd_q_1]; exact h5, fun j hj => by rw [hpD.2 j hj, hD.2 j hj]⟩
    · by_cases h7 : p 0 = c
      · left; rw [fd_is_l hpD.2, h5, h7]
      · right
        refine ⟨0, by rw [fd_q_0]; omega, fun j hj => ?_⟩
        by_cases hj1 : j = 1
        · rw [hj1, fd_q_1]; exact h5
        · rw [hpD.2 j (by omega), hD.2 j (by omega)]
  · rcases List.mem_append.mp hpm with h | h
    · exact h3 p h
    · rw [List.mem_singleton.mp h]
      exact ⟨hD, Or.inr ⟨rfl, Int.le_refl c⟩⟩
  · exact fd_dv_trans h10 ⟨fd_q 0 a c, fd_q_F _ _ _, by rw [fd_mul_comm]; exact e⟩
theorem fd_P1_next {F f : Nat → Int} {L : List (Nat → Int)} {a c : Int} (h : fd_P1 F f L a c) (hn : ¬ fd_dv (fd_q 0 a c) f) : fd_P1 F f L a (c + 1) := by
  obtain ⟨h1, h2, h3, h4⟩ := h
  refine ⟨h1, h2, fun p hp => ⟨(h3 p hp).1, by have := (h3 p hp).2; omega⟩, fun a' c' h5 h7 h8 h9 => ?_⟩
  by_cases h10 : a' = a ∧ c' = c
  · rw [h10.1, h10.2]; exact hn
  · exact h4 a' c' h5 h7 h8 (by omega)
theorem fd_P1_row {F f : Nat → Int} {L : List (Nat → Int)} {a : Int} (h : fd_P1 F f L a 21) : fd_P1 F f L (a + 1) (-20) := by
  obtain ⟨h1, h2, h3, h4⟩ := h
  refine ⟨h1, h2, fun p hp => ⟨(h3 p hp).1, by have := (h3 p hp).2; omega⟩, fun a' c' h5 h7 h8 h9 => h4 a' c' h5 h7 h8 (by omega)⟩
theorem fd_P1_0 {F : Nat → Int} {d : Nat} (hD : fd_D F d) (hpos : 0 < F d) : fd_P1 F F [] 1 (-20) :=
  ⟨⟨by rw [fd_prod, fd_1_mul], fun p hp => absurd hp (List.not_mem_nil), d, hD, hpos⟩, List.Pairwise.nil, fun p hp => absurd hp (List.not_mem_nil), fun a' c' h1 h2 h3 h4 => by omega⟩
theorem fd_dv_neg {u f : Nat → Int} (h : fd_dv u f) : fd_dv (fd_sm (-1) u) f := by
  obtain ⟨q, hq, e⟩ := h
  exact ⟨fd_sm (-1) q, fd_F_sm _ hq, by rw [fd_sm_mul, fd_mul_sm, fd_sm_sm, e]; exact fd_sm_1 f⟩
theorem fd_P1_end {F f : Nat → Int} {L : List (Nat → Int)} (hF : fd_H F) (h : fd_P1 F f L 21 (-20)) : fd_LF f := by
  obtain ⟨h1, h2, h3, h4⟩ := h
  have key : ∀ u, fd_D u 1 → 0 < u 1 → ¬ fd_dv u f := by
    intro u hu hpos hd
    obtain ⟨r, hr, er⟩ := fd_dv_trans hd (fd_St_dv h1)
    obtain ⟨b1, b0⟩ := fd_b1 hF hu hr er
    rw [fd_is_l hu.2] at hd
    exact h4 (u 1) (u 0) (by omega) b0.1 b0.2 (by omega) hd
  intro u hu hd
  by_cases hpos : 0 < u 1
  · exact key u hu hpos hd
  · refine key (fd_sm (-1) u) (fd_D_sm (by decide) hu) ?_ (fd_dv_neg hd)
    have := hu.1
    simp only [fd_sm]
    omega
theorem fd_LF_dv {u f : Nat → Int} (hl : fd_LF f) (h : fd_dv u f) : fd_LF u := fun v hv hd => hl v hv (fd_dv_trans hd h)
end
section
/-! degree 2 -/
theorem fd_q_lead {t m l : Int} {f : Nat → Int} {d : Nat} (ht : t ≠ 0) (hd : fd_D f d) (h : fd_dv (fd_q t m l) f) : t ∣ f d := by
  obtain ⟨q, hq, e⟩ := h
  obtain ⟨a, b, ha, hb, hab⟩ := fd_D_split (fd_q_F t m l) hq e hd
  have h2 := fd_D_u ha (fd_q_D2 m l ht)
  subst h2
  have h3 := (fd_top 2 b (fd_q t m l) q ha.2 hb.2).1
  rw [e, hab] at h3
  rw [h3, fd_q_2]; exact ⟨_, rfl⟩
theorem fd_l_lead {a c : Int} {f : Nat → Int} {d : Nat} (ht : a ≠ 0) (hd : fd_D f d) (h : fd_dv (fd_q 0 a c) f) : a ∣ f d ∧ 1 ≤ d := by
  obtain ⟨q, hq, e⟩ := h
  obtain ⟨a', b, ha, hb, hab⟩ := fd_D_split (fd_q_F 0 a c) hq e hd
  have h2 := fd_D_u ha (fd_q_D1 c ht)
  subst h2
  have h3 := (fd_top 1 b (fd_q 0 a c) q ha.2 hb.2).1
  rw [e, hab] at h3
  rw [h3, fd_q_1]; exact ⟨⟨_, rfl⟩, by omega⟩
theorem fd_q_low {t m l : Int} {f : Nat → Int} (h : fd_dv (fd_q t m l) f) : l ∣ f 0 := by
  obtain ⟨q, hq, e⟩ := h
  rw [← e, fd_q_mul0]; exact ⟨_, rfl⟩
theorem fd_q_deg {t m l : Int} {f : Nat → Int} {d : Nat} (ht : t ≠ 0) (hd : fd_D f d) (h : fd_dv (fd_q t m l) f) : 2 ≤ d := by
  obtain ⟨q, hq, e⟩ := h
  obtain ⟨a, b, ha, hb, hab⟩ := fd_D_split (fd_q_F t m l) hq e hd
  have h2 := fd_D_u ha (fd_q_D2 m l ht)
  omega
/-- scanned up to t x^2 + m x + l, in the order t, m, l -/
def fd_P2 (F f : Nat → Int) (L1 L2 : List (Nat → Int)) (t m l : Int) : Prop := fd_St F f (L1 ++ L2) ∧ fd_LF f ∧ (∀ p ∈ L2, fd_D p 2) ∧ List.Pairwise fd_le L2 ∧ (∀ u, fd_D u 2 → 0 < u 2 → fd_dv u f → ∀ p ∈ L2, fd_le p u) ∧ ∀ d, fd_D f d → 4 ≤ d → ∀ t' m' l' : Int, 1 ≤ t' → -98 ≤ m' → m' ≤ 98 → -20 ≤ l' → l' ≤ 20 → (t' < t ∨ t' = t ∧ (m' < m ∨ m' = m ∧ l' < l)) → ¬ fd_dv (fd_q t' m' l') f
theorem fd_quad_irr {F f f' : Nat → Int} {L : List (Nat → Int)} {t m l : Int} (hp : fd_pr F) (h1 : fd_St F f L) (hl : fd_LF f) (ht : 1 ≤ t) (hf' : fd_F f') (e : fd_mul (fd_q t m l) f' = f) : fd_Irr (fd_q t m l) := by
  have hdv : fd_dv (fd_q t m l) f := ⟨f', hf', e⟩
  exact fd_irr2 (fd_q_D2 m l (by omega)) (by rw [fd_q_2]; omega) (fd_pr_dv hdv (fd_St_pr hp h1)) (fd_LF_dv hl hdv)
theorem fd_P2_take {F f f' : Nat → Int} {L1 L2 : List (Nat → Int)} {t m l : Int} (hF : fd_H F) (hp : fd_pr F) (h : fd_P2 F f L1 L2 t m l) (ht : 1 ≤ t) (hf' : fd_F f') (e : fd_mul (fd_q t m l) f' = f) : fd_P2 F f' L1 (L2 ++ [fd_q t m l]) t m l := by
  obtain ⟨h1, h2, h3, h4, h5, h6⟩ := h
  have hdv : fd_dv (fd_q t m l) f := ⟨f', hf', e⟩
  have hD : fd_D (fd_q t m l) 2 := fd_q_D2 m l (by omega)
  have hu := fd_quad_irr hp h1 h2 ht hf' e
  have hff : fd_dv f' f := ⟨fd_q t m l, fd_q_F _ _ _, by rw [fd_mul_comm]; exact e⟩
  have hst := fd_St_take h1 hu hf' e
  rw [List.append_assoc] at hst
  obtain ⟨_, _, d, hDf, _⟩ := id h1
  obtain ⟨_, _, d', hDf', _⟩ := id hst
  have hdd : d = 2 + d' := by
    have := fd_D_mul hD hDf'
    rw [e] at this
    exact fd_D_u hDf this
  have hd5 : d ≤ 5 := fd_D_le hDf (fd_St_L5 hF.2.1 h1)
  refine ⟨hst, fd_LF_dv h2 hff, fun p hpm => ?_, ?_, fun u hu2 hpos hud p hpm => ?_, fun e' he' hge => ?_⟩
  · rcases List.mem_append.mp hpm with h | h
    · exact h3 p h
    · rw [List.mem_singleton.mp h]; exact hD
  · refine List.pairwise_append.mpr ⟨h4, List.pairwise_singleton _ _, fun p hpm q hq => ?_⟩
    rw [List.mem_singleton.mp hq]
    exact h5 _ hD (by rw [fd_q_2]; omega) hdv p hpm
  · have hudf := fd_dv_trans hud hff
    rcases List.mem_append.mp hpm with h | h
    · exact h5 u hu2 hpos hudf p h
    · rw [List.mem_singleton.mp h]
      obtain ⟨r, hr, er⟩ := fd_dv_trans hudf (fd_St_dv h1)
      obtain ⟨b2, b1, b0⟩ := fd_b2 hF hu2 hr er
      have hd4 : 4 ≤ d := by
        obtain ⟨r', hr', er'⟩ := hud
        obtain ⟨a, b, ha, hb, hab⟩ := fd_D_split (fd_D_F hu2) hr' er' hDf'
        have := fd_D_u ha hu2
        omega
      have hq := fd_is_q hu2.2
      have hn := h6 d hDf hd4 (u 2) (u 1) (u 0) (by omega) (by omega) (by omega) (by omega) (by omega)
      have hnn : ¬ (u 2 < t ∨ u 2 = t ∧ (u 1 < m ∨ u 1 = m ∧ u 0 < l)) := fun z => hn z (by rw [← hq]; exact hudf)
      have hz : ∀ j, 2 < j → fd_q t m l j = u j := fun j hj => by rw [hD.2 j hj, hu2.2 j hj]
      by_cases c2 : t < u 2
      · exact Or.inr ⟨2, by rw [fd_q_2]; exact c2, hz⟩
      · have e2 : t = u 2 := by omega
        have hz1 : ∀ j, 1 < j → fd_q t m l j = u j := fun j hj => by
          by_cases hj2 : j = 2
          · rw [hj2, fd_q_2]; exact e2
          · exact hz j (by omega)
        by_cases c1 : m < u 1
        · exact Or.inr ⟨1, by rw [fd_q_1]; exact c1, hz1⟩
        · have e1 : m = u 1 := by omega
          have hz0 : ∀ j, 0 < j → fd_q t m l j = u j := fun j hj => by
            by_cases hj1 : j = 1
            · rw [hj1, fd_q_1]; exact e1
            · exact hz1 j (by omega)
          by_cases c0 : l < u 0
          · exact Or.inr ⟨0, by rw [fd_q_0]; exact c0, hz0⟩
          · have e0 : l = u 0 := by omega
            left; rw [hq, ← e2, ← e1, ← e0]
  · have := fd_D_u he' hDf'
    omega
theorem fd_P2_next {F f : Nat → Int} {L1 L2 : List (Nat → Int)} {t m l : Int} (h : fd_P2 F f L1 L2 t m l) (hn : ¬ fd_dv (fd_q t m l) f) : fd_P2 F f L1 L2 t m (l + 1) := by
  obtain ⟨h1, h2, h3, h4, h5, h6⟩ := h
  refine ⟨h1, h2, h3, h4, h5, fun d hd hd4 t' m' l' k1 k2 k3 k4 k5 k6 => ?_⟩
  by_cases hc : t' = t ∧ m' = m ∧ l' = l
  · rw [hc.1, hc.2.1, hc.2.2]; exact hn
  · exact h6 d hd hd4 t' m' l' k1 k2 k3 k4 k5 (by omega)
theorem fd_P2_row {F f : Nat → Int} {L1 L2 : List (Nat → Int)} {t m : Int} (h : fd_P2 F f L1 L2 t m 21) : fd_P2 F f L1 L2 t (m + 1) (-20) := by
  obtain ⟨h1, h2, h3, h4, h5, h6⟩ := h
  exact ⟨h1, h2, h3, h4, h5, fun d hd hd4 t' m' l' k1 k2 k3 k4 k5 k6 => h6 d hd hd4 t' m' l' k1 k2 k3 k4 k5 (by omega)⟩
theorem fd_P2_top {F f : Nat → Int} {L1 L2 : List (Nat → Int)} {t : Int} (h : fd_P2 F f L1 L2 t 99 (-20)) : fd_P2 F f L1 L2 (t + 1) (-98) (-20) := by
  obtain ⟨h1, h2, h3, h4, h5, h6⟩ := h
  exact ⟨h1, h2, h3, h4, h5, fun d hd hd4 t' m' l' k1 k2 k3 k4 k5 k6 => h6 d hd hd4 t' m' l' k1 k2 k3 k4 k5 (by omega)⟩
theorem fd_P2_low {F f : Nat → Int} {L1 L2 : List (Nat → Int)} {t : Int} {d : Nat} (hd : fd_D f d) (h3 : d ≤ 3) (t' m' l' : Int) (h : fd_P2 F f L1 L2 t (-98) (-20)) : fd_P2 F f L1 L2 t' m' l' := by
  obtain ⟨h1, h2, h3', h4, h5, h6⟩ := h
  exact ⟨h1, h2, h3', h4, h5, fun d' hd' hd4 => by have := fd_D_u hd hd'; omega⟩
theorem fd_P2_skip {F f : Nat → Int} {L1 L2 : List (Nat → Int)} {t : Int} {d : Nat} (hd : fd_D f d) (ht : 1 ≤ t) (hn : ¬ t ∣ f d) (h : fd_P2 F f L1 L2 t (-98) (-20)) : fd_P2 F f L1 L2 (t + 1) (-98) (-20) := by
  obtain ⟨h1, h2, h3, h4, h5, h6⟩ := h
  refine ⟨h1, h2, h3, h4, h5, fun d' hd' hd4 t' m' l' k1 k2 k3 k4 k5 k6 => ?_⟩
  by_cases hc : t' = t
  · intro hdv
    rw [hc] at hdv
    exact hn (fd_q_lead (by omega) hd hdv)
  · exact h6 d' hd' hd4 t' m' l' k1 k2 k3 k4 k5 (by omega)
theorem fd_P2_0 {F f : Nat → Int} {L1 : List (Nat → Int)} (h : fd_St F f L1) (hl : fd_LF f) : fd_P2 F f L1 [] 1 (-98) (-20) :=
  ⟨by rw [List.append_nil]; exact h, hl, fun p hp => absurd hp (List.not_mem_nil), List.Pairwise.nil, fun _ _ _ _ p hp => absurd hp (List.not_mem_nil), fun d hd hd4 t' m' l' k1 k2 k3 k4 k5 k6 => by omega⟩
theorem fd_P2_end {F f : Nat → Int} {L1 L2 : List (Nat → Int)} {d : Nat} (hF : fd_H F) (h : fd_P2 F f L1 L2 21 (-98) (-20)) (hd : fd_D f d) (hd4 : 4 ≤ d) : fd_QF f := by
  obtain ⟨h1, h2, h3, h4, h5, h6⟩ := h
  have key : ∀ u, fd_D u 2 → 0 < u 2 → ¬ fd_dv u f := by
    intro u hu hpos hdv
    obtain ⟨r, hr, er⟩ := fd_dv_trans hdv (fd_St_dv h1)
    obtain ⟨b2, b1, b0⟩ := fd_b2 hF hu hr er
    rw [fd_is_q hu.2] at hdv
    exact h6 d hd hd4 (u 2) (u 1) (u 0) (by omega) (by omega) (by omega) (by omega) (by omega) (by omega) hdv
  intro u hu hdv
  by_cases hpos : 0 < u 2
  · exact key u hu hpos hdv
  · refine key (fd_sm (-1) u) (fd_D_sm (by decide) hu) ?_ (fd_dv_neg hdv)
    have := hu.1
    simp only [fd_sm]
    omega
/-- scanned up to t x^2 + m x + l, in the order t, l, m -/
def fd_P3 (F f : Nat → Int) (L1 L2 : List (Nat → Int)) (t l m : Int) : Prop := fd_St F f (L1 ++ L2) ∧ fd_LF f ∧ (∀ p ∈ L2, fd_D p 2) ∧ ∀ d, fd_D f d → 4 ≤ d → ∀ t' m' l' : Int, 1 ≤ t' → -100 ≤ m' → m' ≤ 100 → -20 ≤ l' → l' ≤ 20 → (t' < t ∨ t' = t ∧ (l' < l ∨ l' = l ∧ m' < m)) → ¬ fd_dv (fd_q t' m' l') f
theorem fd_P3_take {F f f' : Nat → Int} {L1 L2 : List (Nat → Int)} {t m l : Int} (hp : fd_pr F) (h : fd_P3 F f L1 L2 t l m) (ht : 1 ≤ t) (hf' : fd_F f') (e : fd_mul (fd_q t m l) f' = f) : fd_P3 F f' L1 (L2 ++ [fd_q t m l]) t l m := by
  obtain ⟨h1, h2, h3, h6⟩ := h
  have hD : fd_D (fd_q t m l) 2 := fd_q_D2 m l (by omega)
  have hu := fd_quad_irr hp h1 h2 ht hf' e
  have hff : fd_dv f' f := ⟨fd_q t m l, fd_q_F _ _ _, by rw [fd_mul_comm]; exact e⟩
  have hst := fd_St_take h1 hu hf' e
  rw [List.append_assoc] at hst
  obtain ⟨_, _, d, hDf, _⟩ := id h1
  obtain ⟨_, _, d', hDf', _⟩ := id hst
  have hdd : d = 2 + d' := by
    have := fd_D_mul hD hDf'
    rw [e] at this
    exact fd_D_u hDf this
  refine ⟨hst, fd_LF_dv h2 hff, fun p hpm => ?_, fun e' he' hge t' m' l' k1 k2 k3 k4 k5 k6 hdv => ?_⟩
  · rcases List.mem_append.mp hpm with h | h
    · exact h3 p h
    · rw [List.mem_singleton.mp h]; exact hD
  · have := fd_D_u he' hDf'
    exact h6 d hDf (by omega) t' m' l' k1 k2 k3 k4 k5 k6 (fd_dv_trans hdv hff)
theorem fd_P3_next {F f : Nat → Int} {L1 L2 : List (Nat → Int)} {t m l : Int} (h : fd_P3 F f L1 L2 t l m) (hn : ¬ fd_dv (fd_q t m l) f) : fd_P3 F f L1 L2 t l (m + 1) := by
  obtain ⟨h1, h2, h3, h6⟩ := h
  refine ⟨h1, h2, h3, fun d hd hd4 t' m' l' k1 k2 k3 k4 k5 k6 => ?_⟩
  by_cases hc : t' = t ∧ m' = m ∧ l' = l
  · rw [hc.1, hc.2.1, hc.2.2]; exact hn
  · exact h6 d hd hd4 t' m' l' k1 k2 k3 k4 k5 (by omega)
theorem fd_P3_row {F f : Nat → Int} {L1 L2 : List (Nat → Int)} {t l : Int} (h : fd_P3 F f L1 L2 t l 101) : fd_P3 F f L1 L2 t (l + 1) (-100) := by
  obtain ⟨h1, h2, h3, h6⟩ := h
  exact ⟨h1, h2, h3, fun d hd hd4 t' m' l' k1 k2 k3 k4 k5 k6 => h6 d hd hd4 t' m' l' k1 k2 k3 k4 k5 (by omega)⟩
theorem fd_P3_top {F f : Nat → Int} {L1 L2 : List (Nat → Int)} {t : Int} (h : fd_P3 F f L1 L2 t 21 (-100)) : fd_P3 F f L1 L2 (t + 1) (-20) (-100) := by
  obtain ⟨h1, h2, h3, h6⟩ := h
  exact ⟨h1, h2, h3, fun d hd hd4 t' m' l' k1 k2 k3 k4 k5 k6 => h6 d hd hd4 t' m' l' k1 k2 k3 k4 k5 (by omega)⟩
/-- a whole row t, l skipped: no divisor there -/
theorem fd_P3_skip {F f : Nat → Int} {L1 L2 : List (Nat → Int)} {t l : Int} (hn : ∀ d, fd_D f d → 4 ≤ d → ∀ m', ¬ fd_dv (fd_q t m' l) f) (h : fd_P3 F f L1 L2 t l (-100)) : fd_P3 F f L1 L2 t (l + 1) (-100) := by
  obtain ⟨h1, h2, h3, h6⟩ := h
  refine ⟨h1, h2, h3, fun d hd hd4 t' m' l' k1 k2 k3 k4 k5 k6 => ?_⟩
  by_cases hc : t' = t ∧ l' = l
  · rw [hc.1, hc.2]; exact hn d hd hd4 m'
  · exact h6 d hd hd4 t' m' l' k1 k2 k3 k4 k5 (by omega)
theorem fd_P3_0 {F f : Nat → Int} {L1 : List (Nat → Int)} (h : fd_St F f L1) (hl : fd_LF f) : fd_P3 F f L1 [] 1 (-20) (-100) :=
  ⟨by rw [List.append_nil]; exact h, hl, fun p hp => absurd hp (List.not_mem_nil), fun d hd hd4 t' m' l' k1 k2 k3 k4 k5 k6 => by omega⟩
theorem fd_P3_end {F f : Nat → Int} {L1 L2 : List (Nat → Int)} {d : Nat} (hF : fd_H F) (h : fd_P3 F f L1 L2 21 (-20) (-100)) (hd : fd_D f d) (hd4 : 4 ≤ d) : fd_QF f := by
  obtain ⟨h1, h2, h3, h6⟩ := h
  have key : ∀ u, fd_D u 2 → 0 < u 2 → ¬ fd_dv u f := by
    intro u hu hpos hdv
    obtain ⟨r, hr, er⟩ := fd_dv_trans hdv (fd_St_dv h1)
    obtain ⟨b2, b1, b0⟩ := fd_b2 hF hu hr er
    rw [fd_is_q hu.2] at hdv
    exact h6 d hd hd4 (u 2) (u 1) (u 0) (by omega) (by omega) (by omega) (by omega) (by omega) (by omega) hdv
  intro u hu hdv
  by_cases hpos : 0 < u 2
  · exact key u hu hpos hdv
  · refine key (fd_sm (-1) u) (fd_D_sm (by decide) hu) ?_ (fd_dv_neg hdv)
    have := hu.1
    simp only [fd_sm]
    omega
/-! what is left over at the end -/
theorem fd_fin0 {F f : Nat → Int} {L : List (Nat → Int)} (hp : fd_pr F) (h : fd_St F f L) (hd : fd_D f 0) : fd_prod L = F := by
  obtain ⟨h1, h2, d, hD, hpos⟩ := id h
  have e := fd_D_u hd hD
  subst e
  have hc := fd_L0_c hD.2
  have h3 : (f 0).natAbs = 1 := by
    apply fd_St_pr hp h
    intro i
    rw [Int.natAbs_dvd, hc]
    by_cases hi : i = 0
    · subst hi; exact ⟨1, by simp [fd_c]⟩
    · exact ⟨0, by simp [fd_c, hi]⟩
  have h4 : f 0 = 1 := by omega
  rw [h4] at hc
  rw [hc, fd_mul_1] at h1
  exact h1
theorem fd_fin1 {F f : Nat → Int} {L : List (Nat → Int)} {d : Nat} (hF : fd_H F) (hp : fd_pr F) (h : fd_St F f L) (hl : fd_LF f) (hd : fd_D f d) (hd1 : 1 ≤ d) (hq : 4 ≤ d → fd_QF f) : fd_Irr f ∧ 2 ≤ d ∧ fd_prod (L ++ [f]) = F := by
  have h2 : 2 ≤ d := by
    by_cases e : d = 1
    · exact absurd (fd_dv_refl f) (hl f (by rw [← e]; exact hd))
    · omega
  obtain ⟨_, _, d', hD, hpos⟩ := id h
  have e := fd_D_u hd hD
  subst e
  have h5 := fd_D_le hd (fd_St_L5 hF.2.1 h)
  exact ⟨fd_irr_left hd h2 h5 hpos (fd_St_pr hp h) hl hq, h2, by rw [fd_prod_snoc]; exact h.1⟩
theorem fd_irr_pos {p : Nat → Int} {d : Nat} (h : fd_Irr p) (hd : fd_D p d) : 0 < p d := by
  obtain ⟨_, ⟨e, _, he, hpos⟩, _⟩ := h
  rw [fd_D_u hd he]; exact hpos
theorem fd_sort12 {L1 L2 : List (Nat → Int)} (s1 : List.Pairwise fd_le L1) (s2 : List.Pairwise fd_le L2) (h1 : ∀ p ∈ L1, fd_D p 1) (h2 : ∀ p ∈ L2, fd_D p 2) (hI : ∀ p ∈ L2, fd_Irr p) : List.Pairwise fd_le (L1 ++ L2) :=
  List.pairwise_append.mpr ⟨s1, s2, fun p hp q hq => Or.inr (fd_lt_deg (h1 p hp).2 (h2 q hq) (fd_irr_pos (hI q hq) (h2 q hq)) (by decide))⟩
theorem fd_sort3 {L : List (Nat → Int)} {f : Nat → Int} (s : List.Pairwise fd_le L) (h : ∀ p ∈ L, fd_le p f) : List.Pairwise fd_le (L ++ [f]) :=
  List.pairwise_append.mpr ⟨s, List.pairwise_singleton _ _, fun p hp q hq => by rw [List.mem_singleton.mp hq]; exact h p hp⟩
/-- the end in X: what stands in the list, with what is left, is sorted -/
theorem fd_P2_le {F f : Nat → Int} {L1 L2 : List (Nat → Int)} {t m l : Int} {d : Nat} (h : fd_P2 F f L1 L2 t m l) (h1 : ∀ p ∈ L1, fd_D p 1) (hd : fd_D f d) (hd2 : 2 ≤ d) : ∀ p ∈ L1 ++ L2, fd_le p f := by
  obtain ⟨k1, k2, k3, k4, k5, k6⟩ := h
  obtain ⟨_, _, d', hD, hpos⟩ := id k1
  have e := fd_D_u hd hD
  subst e
  intro p hp
  rcases List.mem_append.mp hp with h | h
  · exact Or.inr (fd_lt_deg (h1 p h).2 hd hpos (by omega))
  · by_cases e2 : d = 2
    · subst e2
      exact k5 f hd hpos (fd_dv_refl f) p h
    · exact Or.inr (fd_lt_deg (k3 p h).2 hd hpos (by omega))
end
section
/-! the machine's numbers as images of the integers -/
def fd_l (z : Int) : Int64 := Int64.ofInt z
def fd_i (z : Int) : Int32 := Int32.ofInt z
def fd_s (z : Int) : Prop := -4611686018427387904 ≤ z ∧ z ≤ 4611686018427387904
def fd_k (z : Int) : Prop := -1073741824 ≤ z ∧ z ≤ 1073741824
theorem fd_l_add (a b : Int) : fd_l a + fd_l b = fd_l (a + b) := (Int64.ofInt_add a b).symm
theorem fd_l_sub (a b : Int) : fd_l a - fd_l b = fd_l (a - b) := (Int64.ofInt_sub a b).symm
theorem fd_l_mul (a b : Int) : fd_l a * fd_l b = fd_l (a * b) := (Int64.ofInt_mul a b).symm
theorem fd_l_neg (a : Int) : -fd_l a = fd_l (-a) := (Int64.ofInt_neg a).symm
theorem fd_i_add (a b : Int) : fd_i a + fd_i b = fd_i (a + b) := (Int32.ofInt_add a b).symm
theorem fd_i_sub (a b : Int) : fd_i a - fd_i b = fd_i (a - b) := (Int32.ofInt_sub a b).symm
theorem fd_i_mul (a b : Int) : fd_i a * fd_i b = fd_i (a * b) := (Int32.ofInt_mul a b).symm
theorem fd_i_neg (a : Int) : -fd_i a = fd_i (-a) := (Int32.ofInt_neg a).symm
theorem fd_l_toInt {z : Int} (h : fd_s z) : (fd_l z).toInt = z := Int64.toInt_ofInt_of_le (by have := h.1; omega) (by have := h.2; omega)
theorem fd_i_toInt {z : Int} (h : fd_k z) : (fd_i z).toInt = z := Int32.toInt_ofInt_of_le (by have := h.1; omega) (by have := h.2; omega)
theorem fd_l_eq {a b : Int} (ha : fd_s a) (hb : fd_s b) : fd_l a = fd_l b ↔ a = b := by
  constructor
  · intro h; rw [← fd_l_toInt ha, h, fd_l_toInt hb]
  · intro h; rw [h]
theorem fd_l_le {a b : Int} (ha : fd_s a) (hb : fd_s b) : fd_l a ≤ fd_l b ↔ a ≤ b := by
  rw [Int64.le_iff_toInt_le, fd_l_toInt ha, fd_l_toInt hb]
theorem fd_l_lt {a b : Int} (ha : fd_s a) (hb : fd_s b) : fd_l a < fd_l b ↔ a < b := by
  rw [Int64.lt_iff_toInt_lt, fd_l_toInt ha, fd_l_toInt hb]
theorem fd_i_eq {a b : Int} (ha : fd_k a) (hb : fd_k b) : fd_i a = fd_i b ↔ a = b := by
  constructor
  · intro h; rw [← fd_i_toInt ha, h, fd_i_toInt hb]
  · intro h; rw [h]
theorem fd_i_le {a b : Int} (ha : fd_k a) (hb : fd_k b) : fd_i a ≤ fd_i b ↔ a ≤ b := by
  rw [Int32.le_iff_toInt_le, fd_i_toInt ha, fd_i_toInt hb]
theorem fd_i_lt {a b : Int} (ha : fd_k a) (hb : fd_k b) : fd_i a < fd_i b ↔ a < b := by
  rw [Int32.lt_iff_toInt_lt, fd_i_toInt ha, fd_i_toInt hb]
theorem fd_i_nat (n : Nat) : fd_i (n : Int) = nI n := Int32.ofInt_eq_ofNat
theorem fd_l_nat (n : Nat) : fd_l (n : Int) = lN n := Int64.ofInt_eq_ofNat
theorem fd_s_k {z : Int} (h : fd_k z) : fd_s z := ⟨by have := h.1; omega, by have := h.2; omega⟩
theorem fd_i_l {z : Int} (h : fd_k z) : (fd_i z).toInt64 = fd_l z :=
  Int64.toInt_inj.mp (by rw [Int32.toInt_toInt64, fd_i_toInt h, fd_l_toInt (fd_s_k h)])
theorem fd_l_i (z : Int) : (fd_l z).toInt32 = fd_i z := by
  apply Int32.toInt_inj.mp
  rw [Int64.toInt_toInt32]
  show (Int64.ofInt z).toInt.bmod (2 ^ 32) = (Int32.ofInt z).toInt
  rw [Int64.toInt_ofInt, Int32.toInt_ofInt]
  exact Int.bmod_bmod_of_dvd (by decide)
theorem fd_of32 (x : Int32) : x.toInt64 = fd_l x.toInt := rfl
theorem fd_i_of (x : Int32) : fd_i x.toInt = x := Int32.ofInt_toInt x
theorem fd_l_0 : fd_l 0 = 0 := by decide
theorem fd_l_1 : fd_l 1 = 1 := by decide
theorem fd_s_of {z : Int} {M : Nat} (h : z.natAbs ≤ M) (hM : M ≤ 4611686018427387904) : fd_s z := ⟨by omega, by omega⟩
theorem fd_s_lit {z : Int} (h : z.natAbs ≤ 1000000) : fd_s z := ⟨by omega, by omega⟩
theorem fd_k_lit {z : Int} (h : z.natAbs ≤ 1000000) : fd_k z := ⟨by omega, by omega⟩
theorem fd_l_z {a : Int} (ha : fd_s a) : fd_l a = 0 ↔ a = 0 := by
  rw [← fd_l_0]; exact fd_l_eq ha (fd_s_lit (by decide))
theorem fd_l_div {a b : Int} (ha : fd_s a) (hb : fd_s b) : fd_l a / fd_l b = fd_l (a.tdiv b) := by
  apply Int64.toInt_inj.mp
  have hm : fd_l a ≠ Int64.minValue := by
    intro e
    have h1 := congrArg Int64.toInt e
    rw [fd_l_toInt ha] at h1
    have h2 : Int64.minValue.toInt = -9223372036854775808 := by decide
    have := ha.1
    omega
  rw [Int64.toInt_div_of_ne_left _ _ hm, fd_l_toInt ha, fd_l_toInt hb]
  have h3 := Int.natAbs_tdiv_le_natAbs a b
  have h4 := ha.1
  have h5 := ha.2
  rw [fd_l_toInt ⟨by omega, by omega⟩]
theorem fd_l_rem {a b : Int} (ha : fd_s a) (hb : fd_s b) : fd_l a - fd_l a / fd_l b * fd_l b = fd_l (a.tmod b) := by
  rw [fd_l_div ha hb, fd_l_mul, fd_l_sub, Int.tmod_def, Int.mul_comm b]
theorem fd_s_tmod {a b : Int} (ha : fd_s a) : fd_s (a.tmod b) := by
  have h1 : (a.tmod b).natAbs ≤ a.natAbs := by
    rw [Int.natAbs_tmod]; exact Nat.mod_le _ _
  have h4 := ha.1
  have h5 := ha.2
  exact ⟨by omega, by omega⟩
theorem fd_l_rem0 {a b : Int} (ha : fd_s a) (hb : fd_s b) : fd_l a - fd_l a / fd_l b * fd_l b = 0 ↔ b ∣ a := by
  rw [fd_l_rem ha hb, fd_l_z (fd_s_tmod ha), ← Int.dvd_iff_tmod_eq_zero]
theorem fd_l_divx {a b : Int} (ha : fd_s a) (hb : fd_s b) (h : b ∣ a) : fd_l a / fd_l b = fd_l (a / b) := by
  rw [fd_l_div ha hb, Int.tdiv_eq_ediv_of_dvd h]
/-! indices -/
theorem fd_ixX (r i : Nat) : nI r * 6 + nI i = nI (r * 6 + i) := by
  show nI r * nI 6 + nI i = _
  rw [← nI_add]; congr 1; exact (Int32.ofNat_mul r 6).symm
theorem fd_ixY (r i : Nat) : 6 * nI r + nI i = nI (6 * r + i) := by
  show nI 6 * nI r + nI i = _
  rw [← nI_add]; congr 1; exact (Int32.ofNat_mul 6 r).symm
theorem fd_m1 (n : Nat) : nI (n + 1) + (-1) = nI n := nI_pred n ▸ Int32.sub_eq_add_neg (nI (n + 1)) 1 ▸ rfl
theorem fd_uLs {f : Nat → Int64} {k : Nat} {x : Int64} : vp_updL f k x k = x := if_pos rfl
theorem fd_uLn {f : Nat → Int64} {k j : Nat} {x : Int64} (h : j ≠ k) : vp_updL f k x j = f j := if_neg h
theorem fd_us {f : Nat → Int32} {k : Nat} {x : Int32} : upd f k x k = x := if_pos rfl
theorem fd_un {f : Nat → Int32} {k j : Nat} {x : Int32} (h : j ≠ k) : upd f k x j = f j := if_neg h
/-- a loop that writes g 0, g 1, .. at o, o + 1, .. -/
theorem fd_fill (W : Nat → Int32 → (Nat → Int64) → Prop) (N o : Nat) (g a0 : Nat → Int64)
    (hx : ∀ n a, (∀ j, j < N → a (o + j) = g j) → (∀ j, (j < o ∨ o + N ≤ j) → a j = a0 j) → W (n + 1) (nI N) a)
    (hs : ∀ n i a, i < N → (∀ j, (j < o ∨ o + i ≤ j) → a j = a0 j) → W n (nI (i + 1)) (vp_updL a (o + i) (g i)) → W (n + 1) (nI i) a) : ∃ n, W n (nI 0) a0 := by
  have key : ∀ k i a, i + k = N → (∀ j, j < i → a (o + j) = g j) → (∀ j, (j < o ∨ o + i ≤ j) → a j = a0 j) → W (k + 1) (nI i) a := by
    intro k
    induction k with
    | zero =>
      intro i a hi h1 h2
      have e : i = N := by omega
      subst e
      exact hx 0 a h1 h2
    | succ k ih =>
      intro i a hi h1 h2
      refine hs (k + 1) i a (by omega) h2 (ih (i + 1) _ (by omega) (fun j hj => ?_) (fun j hj => ?_))
      · by_cases e : j = i
        · subst e; exact fd_uLs
        · rw [fd_uLn (by omega)]; exact h1 j (by omega)
      · rw [fd_uLn (by omega)]; exact h2 j (by omega)
  exact ⟨N + 1, key N 0 a0 (by omega) (fun j hj => absurd hj (Nat.not_lt_zero j)) (fun j _ => rfl)⟩
/-- a loop that only looks, down from e - 1 -/
theorem fd_down (W : Nat → Int32 → Prop) (p : Nat → Prop) (e : Nat)
    (hx : (∀ j, j < e → p j) → ∀ n, W (n + 1) (-1))
    (hs : ∀ n i, i < e → (∀ j, i < j → j < e → p j) → (p i → W n (nI i + (-1))) → W (n + 1) (nI i)) : ∃ n, W n (nI e + (-1)) := by
  have key : ∀ i, i ≤ e → (∀ j, i ≤ j → j < e → p j) → W (i + 1) (nI i + (-1)) := by
    intro i
    induction i with
    | zero => intro _ h; exact hx (fun j hj => h j (Nat.zero_le j) hj) 0
    | succ i ih =>
      intro hi h
      rw [fd_m1]
      refine hs (i + 1) i (by omega) (fun j h1 h2 => h j h1 h2) (fun hp => ih (by omega) (fun j h1 h2 => ?_))
      by_cases ej : j = i
      · rw [ej]; exact hp
      · exact h j (by omega) h2
  exact ⟨_, key e (Nat.le_refl e) (fun j h1 h2 => absurd h1 (by omega))⟩
/-- a loop that only looks, up from 0 to N -/
theorem fd_upl (W : Nat → Int32 → Prop) (p : Nat → Prop) (N : Nat)
    (hx : (∀ j, j < N → p j) → ∀ n, W (n + 1) (nI N))
    (hs : ∀ n i, i < N → (∀ j, j < i → p j) → (p i → W n (nI (i + 1))) → W (n + 1) (nI i)) : ∃ n, W n (nI 0) := by
  have key : ∀ k i, i + k = N → (∀ j, j < i → p j) → W (k + 1) (nI i) := by
    intro k
    induction k with
    | zero => intro i hi h; have e : i = N := by omega
              subst e; exact hx h 0
    | succ k ih =>
      intro i hi h
      refine hs (k + 1) i (by omega) h (fun hp => ih (i + 1) (by omega) (fun j hj => ?_))
      by_cases ej : j = i
      · rw [ej]; exact hp
      · exact h j (by omega)
  exact ⟨_, key N 0 (by omega) (fun j hj => absurd hj (Nat.not_lt_zero j))⟩
def fd_R (a : Nat → Int64) (f : Nat → Int) : Prop := ∀ i, i < 6 → a i = fd_l (f i)
def fd_B (f : Nat → Int) (M : Nat) : Prop := ∀ i, (f i).natAbs ≤ M
theorem fd_R0 {a : Nat → Int64} {f : Nat → Int} {M : Nat} (h : fd_R a f) (hB : fd_B f M) (hM : M ≤ 4611686018427387904) {i : Nat} (hi : i < 6) : a i = 0 ↔ f i = 0 := by
  rw [h i hi]; exact fd_l_z (fd_s_of (hB i) hM)
end
section
/-! the simple loops of the component -/
theorem fd_downS (W : Nat → Int32 → Prop) (p : Nat → Prop) (e : Nat) (s : Int32) (hse : s = nI e + (-1))
    (hx : (∀ j, j < e → p j) → ∀ n, W (n + 1) (-1))
    (hs : ∀ n i, i < e → (∀ j, i < j → j < e → p j) → (p i → W n (nI i + (-1))) → W (n + 1) (nI i)) : ∃ n, W n s := by
  rw [hse]; exact fd_down W p e hx hs
theorem xs_copy_result_work {post : SX → Prop} {fc : Int32} {he : Nat → Int32} {re op qu rs wk fo : Nat → Int64} (H : ∀ t, (∀ i, i < 6 → t i = re i) → post (fc, he, re, op, qu, rs, t, fo)) : wpX_copy__result_work post (fc, he, re, op, qu, rs, wk, fo) := by
  refine fd_fill (fun n x t => wX_copy__result_work_2 post fc n x he re op qu rs t fo) 6 0 re wk (fun n t h1 _ => ?_) (fun n i t hi _ hW => ?_)
  · exact br_t (nI_le (Nat.le_refl 6) (by decide)) (H t (fun i hi => by have := h1 i hi; rwa [Nat.zero_add] at this))
  · exact br_f (nI_ge (b := 6) hi (by decide)) ⟨vp_in_nI hi (by decide), vp_in_nI hi (by decide), nm_r (by rw [nI_clamp (by omega), Nat.zero_add]) (nm_r (nI_1 i) hW)⟩
theorem xs_copy_rest_work {post : SX → Prop} {fc : Int32} {he : Nat → Int32} {re op qu rs wk fo : Nat → Int64} (H : ∀ t, (∀ i, i < 6 → t i = rs i) → post (fc, he, re, op, qu, rs, t, fo)) : wpX_copy__rest_work post (fc, he, re, op, qu, rs, wk, fo) := by
  refine fd_fill (fun n x t => wX_copy__rest_work_2 post fc n x he re op qu rs t fo) 6 0 rs wk (fun n t h1 _ => ?_) (fun n i t hi _ hW => ?_)
  · exact br_t (nI_le (Nat.le_refl 6) (by decide)) (H t (fun i hi => by have := h1 i hi; rwa [Nat.zero_add] at this))
  · exact br_f (nI_ge (b := 6) hi (by decide)) ⟨vp_in_nI hi (by decide), vp_in_nI hi (by decide), nm_r (by rw [nI_clamp (by omega), Nat.zero_add]) (nm_r (nI_1 i) hW)⟩
theorem xs_copy_quotient_rest {post : SX → Prop} {fc : Int32} {he : Nat → Int32} {re op qu rs wk fo : Nat → Int64} (H : ∀ t, (∀ i, i < 6 → t i = qu i) → post (fc, he, re, op, qu, t, wk, fo)) : wpX_copy__quotient_rest post (fc, he, re, op, qu, rs, wk, fo) := by
  refine fd_fill (fun n x t => wX_copy__quotient_rest_2 post fc n x he re op qu t wk fo) 6 0 qu rs (fun n t h1 _ => ?_) (fun n i t hi _ hW => ?_)
  · exact br_t (nI_le (Nat.le_refl 6) (by decide)) (H t (fun i hi => by have := h1 i hi; rwa [Nat.zero_add] at this))
  · exact br_f (nI_ge (b := 6) hi (by decide)) ⟨vp_in_nI hi (by decide), vp_in_nI hi (by decide), nm_r (by rw [nI_clamp (by omega), Nat.zero_add]) (nm_r (nI_1 i) hW)⟩
theorem xs_copy_quotient_result {post : SX → Prop} {fc : Int32} {he : Nat → Int32} {re op qu rs wk fo : Nat → Int64} (H : ∀ t, (∀ i, i < 6 → t i = qu i) → post (fc, he, t, op, qu, rs, wk, fo)) : wpX_copy__quotient_result post (fc, he, re, op, qu, rs, wk, fo) := by
  refine fd_fill (fun n x t => wX_copy__quotient_result_2 post fc n x he t op qu rs wk fo) 6 0 qu re (fun n t h1 _ => ?_) (fun n i t hi _ hW => ?_)
  · exact br_t (nI_le (Nat.le_refl 6) (by decide)) (H t (fun i hi => by have := h1 i hi; rwa [Nat.zero_add] at this))
  · exact br_f (nI_ge (b := 6) hi (by decide)) ⟨vp_in_nI hi (by decide), vp_in_nI hi (by decide), nm_r (by rw [nI_clamp (by omega), Nat.zero_add]) (nm_r (nI_1 i) hW)⟩
theorem xs_clear_result {post : SX → Prop} {fc : Int32} {he : Nat → Int32} {re op qu rs wk fo : Nat → Int64} (H : ∀ t, (∀ i, i < 6 → t i = 0) → post (fc, he, t, op, qu, rs, wk, fo)) : wpX_clear__result post (fc, he, re, op, qu, rs, wk, fo) := by
  refine fd_fill (fun n x t => wX_clear__result_2 post fc n x he t op qu rs wk fo) 6 0 (fun _ => 0) re (fun n t h1 _ => ?_) (fun n i t hi _ hW => ?_)
  · exact br_t (nI_le (Nat.le_refl 6) (by decide)) (H t (fun i hi => by have := h1 i hi; rwa [Nat.zero_add] at this))
  · exact br_f (nI_ge (b := 6) hi (by decide)) ⟨vp_in_nI hi (by decide), nm_r (by rw [nI_clamp (by omega), Nat.zero_add]) (nm_r (nI_1 i) hW)⟩
theorem xs_clear_operand {post : SX → Prop} {fc : Int32} {he : Nat → Int32} {re op qu rs wk fo : Nat → Int64} (H : ∀ t, (∀ i, i < 6 → t i = 0) → post (fc, he, re, t, qu, rs, wk, fo)) : wpX_clear__operand post (fc, he, re, op, qu, rs, wk, fo) := by
  refine fd_fill (fun n x t => wX_clear__operand_2 post fc n x he re t qu rs wk fo) 6 0 (fun _ => 0) op (fun n t h1 _ => ?_) (fun n i t hi _ hW => ?_)
  · exact br_t (nI_le (Nat.le_refl 6) (by decide)) (H t (fun i hi => by have := h1 i hi; rwa [Nat.zero_add] at this))
  · exact br_f (nI_ge (b := 6) hi (by decide)) ⟨vp_in_nI hi (by decide), nm_r (by rw [nI_clamp (by omega), Nat.zero_add]) (nm_r (nI_1 i) hW)⟩
theorem xs_load_result {post : SX → Prop} {fc : Int32} {he : Nat → Int32} {re op qu rs wk fo : Nat → Int64} {r : Nat} (hr : r < 4) (H : ∀ t, (∀ i, i < 6 → t i = (he (r * 6 + i)).toInt64) → post (fc, he, t, op, qu, rs, wk, fo)) : wpX_load__result post (fc, he, re, op, qu, rs, wk, fo) (nI r) := by
  refine fd_fill (fun n x t => wX_load__result_2 post (nI r) fc n x he t op qu rs wk fo) 6 0 (fun i => (he (r * 6 + i)).toInt64) re (fun n t h1 _ => ?_) (fun n i t hi _ hW => ?_)
  · exact br_t (nI_le (Nat.le_refl 6) (by decide)) (H t (fun i hi => by have := h1 i hi; rwa [Nat.zero_add] at this))
  · exact br_f (nI_ge (b := 6) hi (by decide)) ⟨by rw [fd_ixX]; exact vp_in_nI (by omega) (by decide), vp_in_nI hi (by decide), nm_r (by rw [fd_ixX, nI_clamp (by omega), nI_clamp (by omega), Nat.zero_add]) (nm_r (nI_1 i) hW)⟩
theorem xs_load_rest {post : SX → Prop} {fc : Int32} {he : Nat → Int32} {re op qu rs wk fo : Nat → Int64} {r : Nat} (hr : r < 4) (H : ∀ t, (∀ i, i < 6 → t i = (he (r * 6 + i)).toInt64) → post (fc, he, re, op, qu, t, wk, fo)) : wpX_load__rest post (fc, he, re, op, qu, rs, wk, fo) (nI r) := by
  refine fd_fill (fun n x t => wX_load__rest_2 post (nI r) fc n x he re op qu t wk fo) 6 0 (fun i => (he (r * 6 + i)).toInt64) rs (fun n t h1 _ => ?_) (fun n i t hi _ hW => ?_)
  · exact br_t (nI_le (Nat.le_refl 6) (by decide)) (H t (fun i hi => by have := h1 i hi; rwa [Nat.zero_add] at this))
  · exact br_f (nI_ge (b := 6) hi (by decide)) ⟨by rw [fd_ixX]; exact vp_in_nI (by omega) (by decide), vp_in_nI hi (by decide), nm_r (by rw [fd_ixX, nI_clamp (by omega), nI_clamp (by omega), Nat.zero_add]) (nm_r (nI_1 i) hW)⟩
theorem xs_load_operand {post : SX → Prop} {fc : Int32} {he : Nat → Int32} {re op qu rs wk fo : Nat → Int64} {r : Nat} (hr : r < 4) (H : ∀ t, (∀ i, i < 6 → t i = (he (r * 6 + i)).toInt64) → post (fc, he, re, t, qu, rs, wk, fo)) : wpX_load__operand post (fc, he, re, op, qu, rs, wk, fo) (nI r) := by
  refine fd_fill (fun n x t => wX_load__operand_2 post (nI r) fc n x he re t qu rs wk fo) 6 0 (fun i => (he (r * 6 + i)).toInt64) op (fun n t h1 _ => ?_) (fun n i t hi _ hW => ?_)
  · exact br_t (nI_le (Nat.le_refl 6) (by decide)) (H t (fun i hi => by have := h1 i hi; rwa [Nat.zero_add] at this))
  · exact br_f (nI_ge (b := 6) hi (by decide)) ⟨by rw [fd_ixX]; exact vp_in_nI (by omega) (by decide), vp_in_nI hi (by decide), nm_r (by rw [fd_ixX, nI_clamp (by omega), nI_clamp (by omega), Nat.zero_add]) (nm_r (nI_1 i) hW)⟩
theorem xs_loadFound_result {post : SX → Prop} {fc : Int32} {he : Nat → Int32} {re op qu rs wk fo : Nat → Int64} {r : Nat} (hr : r < 5) (H : ∀ t, (∀ i, i < 6 → t i = fo (r * 6 + i)) → post (fc, he, t, op, qu, rs, wk, fo)) : wpX_loadFound__result post (fc, he, re, op, qu, rs, wk, fo) (nI r) := by
  refine fd_fill (fun n x t => wX_loadFound__result_2 post (nI r) fc n x he t op qu rs wk fo) 6 0 (fun i => fo (r * 6 + i)) re (fun n t h1 _ => ?_) (fun n i t hi _ hW => ?_)
  · exact br_t (nI_le (Nat.le_refl 6) (by decide)) (H t (fun i hi => by have := h1 i hi; rwa [Nat.zero_add] at this))
  · exact br_f (nI_ge (b := 6) hi (by decide)) ⟨by rw [fd_ixX]; exact vp_in_nI (by omega) (by decide), vp_in_nI hi (by decide), nm_r (by rw [fd_ixX, nI_clamp (by omega), nI_clamp (by omega), Nat.zero_add]) (nm_r (nI_1 i) hW)⟩
theorem xs_loadFound_operand {post : SX → Prop} {fc : Int32} {he : Nat → Int32} {re op qu rs wk fo : Nat → Int64} {r : Nat} (hr : r < 5) (H : ∀ t, (∀ i, i < 6 → t i = fo (r * 6 + i)) → post (fc, he, re, t, qu, rs, wk, fo)) : wpX_loadFound__operand post (fc, he, re, op, qu, rs, wk, fo) (nI r) := by
  refine fd_fill (fun n x t => wX_loadFound__operand_2 post (nI r) fc n x he re t qu rs wk fo) 6 0 (fun i => fo (r * 6 + i)) op (fun n t h1 _ => ?_) (fun n i t hi _ hW => ?_)
  · exact br_t (nI_le (Nat.le_refl 6) (by decide)) (H t (fun i hi => by have := h1 i hi; rwa [Nat.zero_add] at this))
  · exact br_f (nI_ge (b := 6) hi (by decide)) ⟨by rw [fd_ixX]; exact vp_in_nI (by omega) (by decide), vp_in_nI hi (by decide), nm_r (by rw [fd_ixX, nI_clamp (by omega), nI_clamp (by omega), Nat.zero_add]) (nm_r (nI_1 i) hW)⟩
theorem xs_degreeOf_result {post : Int32 → Prop} {fc : Int32} {he : Nat → Int32} {re op qu rs wk fo : Nat → Int64} (H0 : (∀ i, i < 6 → re i = 0) → post (-1)) (H1 : ∀ d, d < 6 → re d ≠ 0 → (∀ j, d < j → j < 6 → re j = 0) → post (nI d)) : wpX_degreeOf__result post (fc, he, re, op, qu, rs, wk, fo) := by
  refine fd_downS (fun n x => wX_degreeOf__result_2 post fc he re op qu rs wk fo n x) (fun j => re j = 0) 6 5 (by decide) (fun h n => ?_) (fun n i hi h hW => ?_)
  · exact br_t (by decide) (H0 h)
  · exact br_f (nI_pos (by omega)) ⟨vp_in_nI hi (by decide), br_c (fun z => nm_e (hW (by rwa [nI_clamp (by omega)] at z))) (fun z => H1 i hi (by rwa [nI_clamp (by omega)] at z) h)⟩
theorem xs_deg_result {post : Int32 → Prop} {fc : Int32} {he : Nat → Int32} {re op qu rs wk fo : Nat → Int64} {f : Nat → Int} {M : Nat} (hR : fd_R re f) (hB : fd_B f M) (hM : M ≤ 4611686018427387904) (hL : fd_L f 5) (H0 : f = fd_z → post (-1)) (H1 : ∀ d, d < 6 → fd_D f d → post (nI d)) : wpX_degreeOf__result post (fc, he, re, op, qu, rs, wk, fo) := by
  refine xs_degreeOf_result (fun h => H0 (funext fun i => ?_)) (fun d hd h1 h2 => H1 d hd ⟨fun e => h1 ((fd_R0 hR hB hM hd).mpr e), fun j hj => ?_⟩)
  · by_cases hi : i < 6
    · exact (fd_R0 hR hB hM hi).mp (h i hi)
    · exact hL i (by omega)
  · by_cases hj6 : j < 6
    · exact (fd_R0 hR hB hM hj6).mp (h2 j hj hj6)
    · exact hL j (by omega)
theorem xs_degreeOf_work {post : Int32 → Prop} {fc : Int32} {he : Nat → Int32} {re op qu rs wk fo : Nat → Int64} (H0 : (∀ i, i < 6 → wk i = 0) → post (-1)) (H1 : ∀ d, d < 6 → wk d ≠ 0 → (∀ j, d < j → j < 6 → wk j = 0) → post (nI d)) : wpX_degreeOf__work post (fc, he, re, op, qu, rs, wk, fo) := by
  refine fd_downS (fun n x => wX_degreeOf__work_2 post fc he re op qu rs wk fo n x) (fun j => wk j = 0) 6 5 (by decide) (fun h n => ?_) (fun n i hi h hW => ?_)
  · exact br_t (by decide) (H0 h)
  · exact br_f (nI_pos (by omega)) ⟨vp_in_nI hi (by decide), br_c (fun z => nm_e (hW (by rwa [nI_clamp (by omega)] at z))) (fun z => H1 i hi (by rwa [nI_clamp (by omega)] at z) h)⟩
theorem xs_deg_work {post : Int32 → Prop} {fc : Int32} {he : Nat → Int32} {re op qu rs wk fo : Nat → Int64} {f : Nat → Int} {M : Nat} (hR : fd_R wk f) (hB : fd_B f M) (hM : M ≤ 4611686018427387904) (hL : fd_L f 5) (H0 : f = fd_z → post (-1)) (H1 : ∀ d, d < 6 → fd_D f d → post (nI d)) : wpX_degreeOf__work post (fc, he, re, op, qu, rs, wk, fo) := by
  refine xs_degreeOf_work (fun h => H0 (funext fun i => ?_)) (fun d hd h1 h2 => H1 d hd ⟨fun e => h1 ((fd_R0 hR hB hM hd).mpr e), fun j hj => ?_⟩)
  · by_cases hi : i < 6
    · exact (fd_R0 hR hB hM hi).mp (h i hi)
    · exact hL i (by omega)
  · by_cases hj6 : j < 6
    · exact (fd_R0 hR hB hM hj6).mp (h2 j hj hj6)
    · exact hL j (by omega)
theorem xs_degreeOf_rest {post : Int32 → Prop} {fc : Int32} {he : Nat → Int32} {re op qu rs wk fo : Nat → Int64} (H0 : (∀ i, i < 6 → rs i = 0) → post (-1)) (H1 : ∀ d, d < 6 → rs d ≠ 0 → (∀ j, d < j → j < 6 → rs j = 0) → post (nI d)) : wpX_degreeOf__rest post (fc, he, re, op, qu, rs, wk, fo) := by
  refine fd_downS (fun n x => wX_degreeOf__rest_2 post fc he re op qu rs wk fo n x) (fun j => rs j = 0) 6 5 (by decide) (fun h n => ?_) (fun n i hi h hW => ?_)
  · exact br_t (by decide) (H0 h)
  · exact br_f (nI_pos (by omega)) ⟨vp_in_nI hi (by decide), br_c (fun z => nm_e (hW (by rwa [nI_clamp (by omega)] at z))) (fun z => H1 i hi (by rwa [nI_clamp (by omega)] at z) h)⟩
theorem xs_deg_rest {post : Int32 → Prop} {fc : Int32} {he : Nat → Int32} {re op qu rs wk fo : Nat → Int64} {f : Nat → Int} {M : Nat} (hR : fd_R rs f) (hB : fd_B f M) (hM : M ≤ 4611686018427387904) (hL : fd_L f 5) (H0 : f = fd_z → post (-1)) (H1 : ∀ d, d < 6 → fd_D f d → post (nI d)) : wpX_degreeOf__rest post (fc, he, re, op, qu, rs, wk, fo) := by
  refine xs_degreeOf_rest (fun h => H0 (funext fun i => ?_)) (fun d hd h1 h2 => H1 d hd ⟨fun e => h1 ((fd_R0 hR hB hM hd).mpr e), fun j hj => ?_⟩)
  · by_cases hi : i < 6
    · exact (fd_R0 hR hB hM hi).mp (h i hi)
    · exact hL i (by omega)
  · by_cases hj6 : j < 6
    · exact (fd_R0 hR hB hM hj6).mp (h2 j hj hj6)
    · exact hL j (by omega)
theorem xs_degreeOf_operand {post : Int32 → Prop} {fc : Int32} {he : Nat → Int32} {re op qu rs wk fo : Nat → Int64} (H0 : (∀ i, i < 6 → op i = 0) → post (-1)) (H1 : ∀ d, d < 6 → op d ≠ 0 → (∀ j, d < j → j < 6 → op j = 0) → post (nI d)) : wpX_degreeOf__operand post (fc, he, re, op, qu, rs, wk, fo) := by
  refine fd_downS (fun n x => wX_degreeOf__operand_2 post fc he re op qu rs wk fo n x) (fun j => op j = 0) 6 5 (by decide) (fun h n => ?_) (fun n i hi h hW => ?_)
  · exact br_t (by decide) (H0 h)
  · exact br_f (nI_pos (by omega)) ⟨vp_in_nI hi (by decide), br_c (fun z => nm_e (hW (by rwa [nI_clamp (by omega)] at z))) (fun z => H1 i hi (by rwa [nI_clamp (by omega)] at z) h)⟩
theorem xs_deg_operand {post : Int32 → Prop} {fc : Int32} {he : Nat → Int32} {re op qu rs wk fo : Nat → Int64} {f : Nat → Int} {M : Nat} (hR : fd_R op f) (hB : fd_B f M) (hM : M ≤ 4611686018427387904) (hL : fd_L f 5) (H0 : f = fd_z → post (-1)) (H1 : ∀ d, d < 6 → fd_D f d → post (nI d)) : wpX_degreeOf__operand post (fc, he, re, op, qu, rs, wk, fo) := by
  refine xs_degreeOf_operand (fun h => H0 (funext fun i => ?_)) (fun d hd h1 h2 => H1 d hd ⟨fun e => h1 ((fd_R0 hR hB hM hd).mpr e), fun j hj => ?_⟩)
  · by_cases hi : i < 6
    · exact (fd_R0 hR hB hM hi).mp (h i hi)
    · exact hL i (by omega)
  · by_cases hj6 : j < 6
    · exact (fd_R0 hR hB hM hj6).mp (h2 j hj hj6)
    · exact hL j (by omega)
theorem xs_leadOf_rest {post : Int64 → Prop} {fc : Int32} {he : Nat → Int32} {re op qu rs wk fo : Nat → Int64} {f : Nat → Int} {M : Nat} (hR : fd_R rs f) (hB : fd_B f M) (hM : M ≤ 4611686018427387904) (hL : fd_L f 5) (H0 : f = fd_z → post 0) (H1 : ∀ d, d < 6 → fd_D f d → post (fd_l (f d))) : wpX_leadOf__rest post (fc, he, re, op, qu, rs, wk, fo) := by
  unfold wpX_leadOf__rest
  dsimp only
  refine xs_deg_rest hR hB hM hL (fun h => br_f (by decide) (H0 h)) (fun d hd h1 => br_t (nI_pos' (by omega)) ⟨vp_in_nI hd (by decide), ?_⟩)
  rw [nI_clamp (by omega), hR d hd]; exact H1 d hd h1
theorem xs_leadOf_result {post : Int64 → Prop} {fc : Int32} {he : Nat → Int32} {re op qu rs wk fo : Nat → Int64} {f : Nat → Int} {M : Nat} (hR : fd_R re f) (hB : fd_B f M) (hM : M ≤ 4611686018427387904) (hL : fd_L f 5) (H0 : f = fd_z → post 0) (H1 : ∀ d, d < 6 → fd_D f d → post (fd_l (f d))) : wpX_leadOf__result post (fc, he, re, op, qu, rs, wk, fo) := by
  unfold wpX_leadOf__result
  dsimp only
  refine xs_deg_result hR hB hM hL (fun h => br_f (by decide) (H0 h)) (fun d hd h1 => br_t (nI_pos' (by omega)) ⟨vp_in_nI hd (by decide), ?_⟩)
  rw [nI_clamp (by omega), hR d hd]; exact H1 d hd h1
theorem xs_leadOf_operand {post : Int64 → Prop} {fc : Int32} {he : Nat → Int32} {re op qu rs wk fo : Nat → Int64} {f : Nat → Int} {M : Nat} (hR : fd_R op f) (hB : fd_B f M) (hM : M ≤ 4611686018427387904) (hL : fd_L f 5) (H0 : f = fd_z → post 0) (H1 : ∀ d, d < 6 → fd_D f d → post (fd_l (f d))) : wpX_leadOf__operand post (fc, he, re, op, qu, rs, wk, fo) := by
  unfold wpX_leadOf__operand
  dsimp only
  refine xs_deg_operand hR hB hM hL (fun h => br_f (by decide) (H0 h)) (fun d hd h1 => br_t (nI_pos' (by omega)) ⟨vp_in_nI hd (by decide), ?_⟩)
  rw [nI_clamp (by omega), hR d hd]; exact H1 d hd h1
theorem xs_addFound_operand {post : SX → Prop} {c : Nat} {he : Nat → Int32} {re op qu rs wk fo : Nat → Int64} (hc : c < 5) (H : ∀ t, (∀ i, i < 6 → t (c * 6 + i) = op i) → (∀ j, j < c * 6 → t j = fo j) → post (nI (c + 1), he, re, op, qu, rs, wk, t)) : wpX_addFound__operand post (nI c, he, re, op, qu, rs, wk, fo) := by
  refine br_t (nI_lt (b := 5) hc (by decide)) (fd_fill (fun n x t => wX_addFound__operand_11 post (nI c) n x he re op qu rs wk t) 6 (c * 6) op fo (fun n t h1 h2 => ?_) (fun n i t hi _ hW => ?_))
  · exact br_t (nI_le (Nat.le_refl 6) (by decide)) (nm_r (nI_1 c) (H t h1 (fun j hj => h2 j (Or.inl hj))))
  · exact br_f (nI_ge (b := 6) hi (by decide)) ⟨vp_in_nI hi (by decide), by rw [fd_ixX]; exact vp_in_nI (by omega) (by decide), nm_r (by rw [fd_ixX, nI_clamp (by omega), nI_clamp (by omega)]) (nm_r (nI_1 i) hW)⟩
theorem xs_addFound_rest {post : SX → Prop} {c : Nat} {he : Nat → Int32} {re op qu rs wk fo : Nat → Int64} (hc : c < 5) (H : ∀ t, (∀ i, i < 6 → t (c * 6 + i) = rs i) → (∀ j, j < c * 6 → t j = fo j) → post (nI (c + 1), he, re, op, qu, rs, wk, t)) : wpX_addFound__rest post (nI c, he, re, op, qu, rs, wk, fo) := by
  refine br_t (nI_lt (b := 5) hc (by decide)) (fd_fill (fun n x t => wX_addFound__rest_11 post (nI c) n x he re op qu rs wk t) 6 (c * 6) rs fo (fun n t h1 h2 => ?_) (fun n i t hi _ hW => ?_))
  · exact br_t (nI_le (Nat.le_refl 6) (by decide)) (nm_r (nI_1 c) (H t h1 (fun j hj => h2 j (Or.inl hj))))
  · exact br_f (nI_ge (b := 6) hi (by decide)) ⟨vp_in_nI hi (by decide), by rw [fd_ixX]; exact vp_in_nI (by omega) (by decide), nm_r (by rw [fd_ixX, nI_clamp (by omega), nI_clamp (by omega)]) (nm_r (nI_1 i) hW)⟩
end
section
/-! long division -/
def fd_DI (f g w q : Nat → Int) (d s : Nat) : Prop := f = fd_add w (fd_mul g q) ∧ (∀ j, s + d ≤ j → w j = 0) ∧ fd_L q 5
def fd_ws (w g : Nat → Int) (x : Int) (s : Nat) : Nat → Int := fun k => w k - (if s ≤ k then x * g (k - s) else 0)
def fd_qs (q : Nat → Int) (x : Int) (s : Nat) : Nat → Int := fun k => if k = s then x else q k
theorem fd_DI_step {f g w q : Nat → Int} {d s : Nat} (hg : fd_D g d) (hs : s < 6) (h : fd_DI f g w q d (s + 1)) (hq0 : q s = 0) (hdv : g d ∣ w (s + d)) : fd_DI f g (fd_ws w g (w (s + d) / g d) s) (fd_qs q (w (s + d) / g d) s) d s := by
  obtain ⟨h1, h2, h3⟩ := h
  refine ⟨?_, fun j hj => ?_, fun j hj => ?_⟩
  · have e : fd_qs q (w (s + d) / g d) s = fd_add q (fd_mo (w (s + d) / g d) s) := by
      funext k; simp only [fd_qs, fd_add, fd_mo]
      by_cases hk : k = s
      · rw [if_pos hk, if_pos hk, hk, hq0]; omega
      · rw [if_neg hk, if_neg hk]; omega
    rw [e, fd_mul_add, fd_mul_comm g (fd_mo _ _), fd_mo_mul]
    rw [h1]
    funext k
    have h1k := congrFun h1 k
    simp only [fd_add, fd_ws] at *
    omega
  · simp only [fd_ws]
    rw [if_pos (by omega)]
    by_cases e : j = s + d
    · subst e
      have e2 : s + d - s = d := by omega
      rw [e2, Int.ediv_mul_cancel hdv]; omega
    · rw [h2 j (by omega), hg.2 (j - s) (by omega)]; simp
  · simp only [fd_qs]
    rw [if_neg (by omega)]; exact h3 j hj
theorem fd_DI_no {f g w q : Nat → Int} {d s : Nat} (hg : fd_D g d) (h : fd_DI f g w q d (s + 1)) (hn : ¬ g d ∣ w (s + d)) : ¬ fd_dv g f := by
  intro hdv
  obtain ⟨Q, hQ, e⟩ := hdv
  obtain ⟨h1, h2, h3⟩ := h
  have ew : w = fd_mul g (fd_sub Q q) := by
    rw [fd_mul_sub, e, h1]; funext k; simp only [fd_sub, fd_add]; omega
  have hF : fd_F (fd_sub Q q) := fd_F_sub hQ (fd_L_F h3)
  by_cases hz : fd_sub Q q = fd_z
  · rw [hz, fd_mul_z] at ew
    rw [ew] at hn
    exact hn ⟨0, by simp [fd_z]⟩
  · obtain ⟨e', he'⟩ := fd_D_ex hF hz
    have h5 := fd_D_mul hg he'
    rw [← ew] at h5
    have hle : e' ≤ s := by
      rcases Nat.lt_or_ge s e' with hc | hc
      · exact absurd (h2 (d + e') (by omega)) h5.1
      · exact hc
    have h6 := (fd_top d s g (fd_sub Q q) hg.2 (fd_L_mono he'.2 hle)).1
    rw [← ew, Nat.add_comm] at h6
    exact hn ⟨_, h6⟩
theorem fd_DI_end {f g w q : Nat → Int} {d : Nat} (hg : fd_D g d) (h : fd_DI f g w q d 0) (hw : w ≠ fd_z) : ¬ fd_dv g f := by
  intro hdv
  obtain ⟨Q, hQ, e⟩ := hdv
  obtain ⟨h1, h2, h3⟩ := h
  have ew : w = fd_mul g (fd_sub Q q) := by
    rw [fd_mul_sub, e, h1]; funext k; simp only [fd_sub, fd_add]; omega
  have hF : fd_F (fd_sub Q q) := fd_F_sub hQ (fd_L_F h3)
  by_cases hz : fd_sub Q q = fd_z
  · rw [hz, fd_mul_z] at ew
    exact hw ew
  · obtain ⟨e', he'⟩ := fd_D_ex hF hz
    have h5 := fd_D_mul hg he'
    rw [← ew] at h5
    exact h5.1 (h2 (d + e') (by omega))
theorem fd_DI_0 {f g q : Nat → Int} {d : Nat} (h : fd_DI f g fd_z q d 0) : fd_mul g q = f := by
  rw [h.1]; funext k; simp [fd_add, fd_z]
theorem fd_DI_init {f g : Nat → Int} {d s : Nat} (h : ∀ j, s + d ≤ j → f j = 0) : fd_DI f g f fd_z d s :=
  ⟨by rw [fd_mul_z]; funext k; simp [fd_add, fd_z], h, fun _ _ => rfl⟩
theorem fd_ws_B {w g : Nat → Int} {x : Int} {s M G : Nat} (hw : fd_B w M) (hg : fd_B g G) (hx : x.natAbs ≤ M) : fd_B (fd_ws w g x s) (M * (1 + G)) := by
  intro k
  simp only [fd_ws]
  have h1 := hw k
  have h3 : M ≤ M * (1 + G) := Nat.le_mul_of_pos_right M (by omega)
  by_cases hk : s ≤ k
  · rw [if_pos hk]
    have h2 : (x * g (k - s)).natAbs ≤ M * G := by rw [Int.natAbs_mul]; exact Nat.mul_le_mul hx (hg _)
    rw [Nat.mul_add, Nat.mul_one]
    omega
  · rw [if_neg hk]; omega
theorem fd_ws_0 (w g : Nat → Int) (s : Nat) : fd_ws w g 0 s = w := by
  funext k; simp only [fd_ws]; split <;> simp
theorem fd_ediv_le {a b : Int} (hb : b ≠ 0) (h : b ∣ a) : (a / b).natAbs ≤ a.natAbs := by
  obtain ⟨c, hc⟩ := h
  rw [hc, Int.mul_ediv_cancel_left _ hb, Int.natAbs_mul]
  exact Nat.le_mul_of_pos_left _ (by omega)
theorem fd_isub {a b : Nat} (h : b ≤ a) : nI a - nI b = nI (a - b) := by
  rw [← fd_i_nat, ← fd_i_nat, ← fd_i_nat, fd_i_sub]; congr 1; omega
theorem fd_ineg (s : Nat) (hs : s < 7) : (nI s + (-1) < 0) ↔ s = 0 := by
  have h : ∀ s : Fin 7, (nI s.val + (-1) < 0) ↔ s.val = 0 := by decide
  exact h ⟨s, hs⟩
theorem xs_div90_work {post : Int32 → SX → Prop} {J : Int32 → (Nat → Int32) → (Nat → Int64) → (Nat → Int64) → (Nat → Int64) → (Nat → Int64) → (Nat → Int64) → (Nat → Int64) → Prop} {x3 : Int64} {fc : Int32} {he : Nat → Int32} {re op qu rs wk fo : Nat → Int64} {d s : Nat} (hd : s + d < 6) (H : ∀ t, (∀ j, j ≤ d → t (s + j) = wk (s + j) - qu s * op j) → (∀ j, (j < s ∨ s + d < j) → t j = wk j) → J (nI s + (-1)) he re op qu rs t fo) : ∃ n, wX_divide__work_90 post J (nI d) x3 (nI s) fc n 0 he re op qu rs wk fo := by
  refine fd_fill (fun n x t => wX_divide__work_90 post J (nI d) x3 (nI s) fc n x he re op qu rs t fo) (d + 1) s (fun j => wk (s + j) - qu s * op j) wk (fun n t h1 h2 => ?_) (fun n i t hi h2 hW => ?_)
  · exact br_t (nI_lt (by omega) (by omega)) (nm_e (H t (fun j hj => h1 j (by omega)) (fun j hj => h2 j (by omega))))
  · have e : nI s + nI i = nI (s + i) := nI_add s i
    refine br_f (nI_nlt (by omega) (by omega)) ⟨by rw [e]; exact vp_in_nI (by omega) (by decide), vp_in_nI (by omega) (by decide), vp_in_nI (by omega) (by decide), by rw [e]; exact vp_in_nI (by omega) (by decide), nm_r ?_ (nm_r (nI_1 i) hW)⟩
    rw [e, nI_clamp (by omega), nI_clamp (by omega), nI_clamp (by omega), h2 (s + i) (by omega)]
theorem xs_div52_work {post : Int32 → SX → Prop} {fc : Int32} {he : Nat → Int32} {re op qu rs wk fo : Nat → Int64} {f g : Nat → Int} {d G tt : Nat} (hg : fd_D g d) (hd : d < 6) (hop : fd_R op g) (hG : fd_B g G) (hGs : G ≤ 4611686018427387904)
    (H1 : ∀ T qu w q, fd_R T w → fd_R qu q → fd_DI f g w q d 0 → fd_B w 4611686018427387904 → fd_B q 4611686018427387904 → post 1 (fc, he, re, op, qu, rs, T, fo))
    (H0 : ¬ fd_dv g f → (∃ z, ¬ g d ∣ z) → ∀ T qu, post 0 (fc, he, re, op, qu, rs, T, fo)) :
    ∀ (s M : Nat) (T qu : Nat → Int64) (w q : Nat → Int), s + d ≤ 6 → fd_R T w → fd_R qu q → (∀ j, j < s → q j = 0) → fd_B q 4611686018427387904 → fd_DI f g w q d s → (∀ j, tt + d ≤ j → w j = 0) → fd_B w M → M * (1 + G) ^ (min s tt) ≤ 4611686018427387904 → wX_divide__work_52 post (nI d) (fd_l (g d)) fc (s + 1) (nI s + (-1)) he re op qu rs T fo := by
  intro s
  induction s with
  | zero =>
    intro M T qu w q hsd hT hq hq0 hqB hDI htt hw hM
    refine br_t (by decide) (H1 T qu w q hT hq hDI (fun i => Nat.le_trans (hw i) ?_) hqB)
    simpa using hM
  | succ s ih =>
    intro M T qu w q hsd hT hq hq0 hqB hDI htt hw hM
    rw [fd_m1]
    have hM1 : M ≤ 4611686018427387904 := Nat.le_trans (Nat.le_mul_of_pos_right M (Nat.pow_pos (by omega))) hM
    have hG1 : fd_s (g d) := fd_s_of (hG d) hGs
    have e : nI s + nI d = nI (s + d) := nI_add s d
    have hl : ¬ fd_l (g d) = 0 := fun z => hg.1 ((fd_l_z hG1).mp z)
    have hw1 : fd_s (w (s + d)) := fd_s_of (hw _) hM1
    have eT : T (nI s + nI d).toNatClampNeg = fd_l (w (s + d)) := by rw [e, nI_clamp (by omega), hT _ (by omega)]
    refine br_f (nI_pos (by omega)) ⟨by rw [e]; exact vp_in_nI (by omega) (by decide), hl, ?_⟩
    by_cases hdv : g d ∣ w (s + d)
    · refine br_t (by rw [eT]; exact (fd_l_rem0 hw1 hG1).mpr hdv) ⟨by rw [e]; exact vp_in_nI (by omega) (by decide), hl, vp_in_nI (by omega) (by decide), ?_⟩
      have eq' : vp_updL qu (nI s).toNatClampNeg (T (nI s + nI d).toNatClampNeg / fd_l (g d)) = vp_updL qu s (fd_l (w (s + d) / g d)) := by
        rw [nI_clamp (by omega), eT, fd_l_divx hw1 hG1 hdv]
      refine nm_r eq' (xs_div90_work (by omega) (fun t h1 h2 => ?_))
      have hx : (w (s + d) / g d).natAbs ≤ M := Nat.le_trans (fd_ediv_le hg.1 hdv) (hw _)
      have hDI' := fd_DI_step hg (by omega) hDI (hq0 s (by omega)) hdv
      have hRt : fd_R t (fd_ws w g (w (s + d) / g d) s) := by
        intro k hk
        simp only [fd_ws]
        by_cases hks : s ≤ k
        · rw [if_pos hks]
          by_cases hkd : k ≤ s + d
          · have h3 := h1 (k - s) (by omega)
            have e3 : s + (k - s) = k := by omega
            rw [e3, fd_uLs, hT k hk, hop (k - s) (by omega), fd_l_mul, fd_l_sub] at h3
            exact h3
          · rw [h2 k (by omega), hT k hk, hg.2 (k - s) (by omega)]; simp
        · rw [if_neg hks, h2 k (by omega), hT k hk]; simp
      have hRq : fd_R (vp_updL qu s (fd_l (w (s + d) / g d))) (fd_qs q (w (s + d) / g d) s) := by
        intro k hk
        simp only [fd_qs]
        by_cases hks : k = s
        · rw [if_pos hks, hks, fd_uLs]
        · rw [if_neg hks, fd_uLn hks, hq k hk]
      have hq0' : ∀ j, j < s → fd_qs q (w (s + d) / g d) s j = 0 := fun j hj => by
        simp only [fd_qs]; rw [if_neg (by omega)]; exact hq0 j (by omega)
      have hqB' : fd_B (fd_qs q (w (s + d) / g d) s) 4611686018427387904 := fun j => by
        simp only [fd_qs]
        by_cases hj : j = s
        · rw [if_pos hj]; exact Nat.le_trans hx hM1
        · rw [if_neg hj]; exact hqB j
      by_cases hst : s < tt
      · refine ih (M * (1 + G)) _ _ _ _ (by omega) hRt hRq hq0' hqB' hDI' (fun j hj => ?_) (fd_ws_B hw hG hx) ?_
        · exact hDI'.2.1 j (by omega)
        · have e4 : min (s + 1) tt = min s tt + 1 := by omega
          rw [e4, Nat.pow_succ] at hM
          rw [Nat.mul_assoc, Nat.mul_comm (1 + G)]; exact hM
      · have h0 : w (s + d) = 0 := htt _ (by omega)
        have e5 : fd_ws w g (w (s + d) / g d) s = w := by rw [h0, Int.zero_ediv]; exact fd_ws_0 w g s
        rw [e5] at hRt hDI'
        refine ih M _ _ _ _ (by omega) hRt hRq hq0' hqB' hDI' htt hw ?_
        have e4 : min (s + 1) tt = min s tt := by omega
        rw [e4] at hM; exact hM
    · exact br_f (by rw [eT]; exact fun z => hdv ((fd_l_rem0 hw1 hG1).mp z)) (H0 (fd_DI_no hg hDI hdv) ⟨_, hdv⟩ T qu)
theorem xs_divide_work {post : Int32 → SX → Prop} {fc : Int32} {he : Nat → Int32} {re op qu rs wk fo : Nat → Int64} {f g : Nat → Int} {d G M tt : Nat} (hg : fd_D g d) (hd : d < 6) (hop : fd_R op g) (hG : fd_B g G) (hGs : G ≤ 4611686018427387904) (hf : fd_R wk f) (hL : fd_L f 5) (htt : ∀ j, tt + d ≤ j → f j = 0) (hB : fd_B f M) (hM : M * (1 + G) ^ (min (6 - d) tt) ≤ 4611686018427387904)
    (H1 : ∀ T qu w q, fd_R T w → fd_R qu q → fd_DI f g w q d 0 → fd_B w 4611686018427387904 → fd_B q 4611686018427387904 → post 1 (fc, he, re, op, qu, rs, T, fo))
    (H0 : ¬ fd_dv g f → (∃ z, ¬ g d ∣ z) → ∀ T qu, post 0 (fc, he, re, op, qu, rs, T, fo)) : wpX_divide__work post (fc, he, re, op, qu, rs, wk, fo) (nI d) := by
  have eo : op (nI d).toNatClampNeg = fd_l (g d) := by rw [nI_clamp (by omega), hop d hd]
  have hl : ¬ fd_l (g d) = 0 := fun z => hg.1 ((fd_l_z (fd_s_of (hG d) hGs)).mp z)
  refine br_t (nI_pos' (by omega)) ⟨vp_in_nI hd (by decide), ?_⟩
  rw [eo]
  refine br_f hl (fd_fill (fun n x t => wX_divide__work_26 post (nI d) (fd_l (g d)) fc n x he re op t rs wk fo) 6 0 (fun _ => 0) qu (fun n t h1 _ => ?_) (fun n i t hi _ hW => ?_))
  · refine br_t (nI_le (Nat.le_refl 6) (by decide)) (nm_r (e' := nI (6 - d) + (-1)) ?_ ⟨6 - d + 1, ?_⟩)
    · have e6 : 6 - d = (5 - d) + 1 := by omega
      rw [e6, fd_m1]; exact fd_isub (a := 5) (by omega)
    · exact xs_div52_work (qu := qu) (wk := wk) hg hd hop hG hGs H1 H0 (6 - d) M wk t f fd_z (by omega) hf (fun i hi => by have := h1 i hi; rw [Nat.zero_add] at this; rw [this]; exact fd_l_0.symm) (fun _ _ => rfl) (fun _ => by simp [fd_z]) (fd_DI_init (fun j hj => hL j (by omega))) htt hB hM
  · exact br_f (nI_ge (b := 6) hi (by decide)) ⟨vp_in_nI hi (by decide), nm_r (by rw [nI_clamp (by omega), Nat.zero_add]) (nm_r (nI_1 i) hW)⟩
theorem xs_divide_neg_work {post : Int32 → SX → Prop} {fc : Int32} {he : Nat → Int32} {re op qu rs wk fo : Nat → Int64} (H0 : post 0 (fc, he, re, op, qu, rs, wk, fo)) : wpX_divide__work post (fc, he, re, op, qu, rs, wk, fo) (-1) :=
  br_f (by decide) (br_t rfl H0)
theorem xs_div90_result {post : Int32 → SX → Prop} {J : Int32 → (Nat → Int32) → (Nat → Int64) → (Nat → Int64) → (Nat → Int64) → (Nat → Int64) → (Nat → Int64) → (Nat → Int64) → Prop} {x3 : Int64} {fc : Int32} {he : Nat → Int32} {re op qu rs wk fo : Nat → Int64} {d s : Nat} (hd : s + d < 6) (H : ∀ t, (∀ j, j ≤ d → t (s + j) = re (s + j) - qu s * op j) → (∀ j, (j < s ∨ s + d < j) → t j = re j) → J (nI s + (-1)) he t op qu rs wk fo) : ∃ n, wX_divide__result_90 post J (nI d) x3 (nI s) fc n 0 he re op qu rs wk fo := by
  refine fd_fill (fun n x t => wX_divide__result_90 post J (nI d) x3 (nI s) fc n x he t op qu rs wk fo) (d + 1) s (fun j => re (s + j) - qu s * op j) re (fun n t h1 h2 => ?_) (fun n i t hi h2 hW => ?_)
  · exact br_t (nI_lt (by omega) (by omega)) (nm_e (H t (fun j hj => h1 j (by omega)) (fun j hj => h2 j (by omega))))
  · have e : nI s + nI i = nI (s + i) := nI_add s i
    refine br_f (nI_nlt (by omega) (by omega)) ⟨by rw [e]; exact vp_in_nI (by omega) (by decide), vp_in_nI (by omega) (by decide), vp_in_nI (by omega) (by decide), by rw [e]; exact vp_in_nI (by omega) (by decide), nm_r ?_ (nm_r (nI_1 i) hW)⟩
    rw [e, nI_clamp (by omega), nI_clamp (by omega), nI_clamp (by omega), h2 (s + i) (by omega)]
theorem xs_div52_result {post : Int32 → SX → Prop} {fc : Int32} {he : Nat → Int32} {re op qu rs wk fo : Nat → Int64} {f g : Nat → Int} {d G tt : Nat} (hg : fd_D g d) (hd : d < 6) (hop : fd_R op g) (hG : fd_B g G) (hGs : G ≤ 4611686018427387904)
    (H1 : ∀ T qu w q, fd_R T w → fd_R qu q → fd_DI f g w q d 0 → fd_B w 4611686018427387904 → fd_B q 4611686018427387904 → post 1 (fc, he, T, op, qu, rs, wk, fo))
    (H0 : ¬ fd_dv g f → (∃ z, ¬ g d ∣ z) → ∀ T qu, post 0 (fc, he, T, op, qu, rs, wk, fo)) :
    ∀ (s M : Nat) (T qu : Nat → Int64) (w q : Nat → Int), s + d ≤ 6 → fd_R T w → fd_R qu q → (∀ j, j < s → q j = 0) → fd_B q 4611686018427387904 → fd_DI f g w q d s → (∀ j, tt + d ≤ j → w j = 0) → fd_B w M → M * (1 + G) ^ (min s tt) ≤ 4611686018427387904 → wX_divide__result_52 post (nI d) (fd_l (g d)) fc (s + 1) (nI s + (-1)) he T op qu rs wk fo := by
  intro s
  induction s with
  | zero =>
    intro M T qu w q hsd hT hq hq0 hqB hDI htt hw hM
    refine br_t (by decide) (H1 T qu w q hT hq hDI (fun i => Nat.le_trans (hw i) ?_) hqB)
    simpa using hM
  | succ s ih =>
    intro M T qu w q hsd hT hq hq0 hqB hDI htt hw hM
    rw [fd_m1]
    have hM1 : M ≤ 4611686018427387904 := Nat.le_trans (Nat.le_mul_of_pos_right M (Nat.pow_pos (by omega))) hM
    have hG1 : fd_s (g d) := fd_s_of (hG d) hGs
    have e : nI s + nI d = nI (s + d) := nI_add s d
    have hl : ¬ fd_l (g d) = 0 := fun z => hg.1 ((fd_l_z hG1).mp z)
    have hw1 : fd_s (w (s + d)) := fd_s_of (hw _) hM1
    have eT : T (nI s + nI d).toNatClampNeg = fd_l (w (s + d)) := by rw [e, nI_clamp (by omega), hT _ (by omega)]
    refine br_f (nI_pos (by omega)) ⟨by rw [e]; exact vp_in_nI (by omega) (by decide), hl, ?_⟩
    by_cases hdv : g d ∣ w (s + d)
    · refine br_t (by rw [eT]; exact (fd_l_rem0 hw1 hG1).mpr hdv) ⟨by rw [e]; exact vp_in_nI (by omega) (by decide), hl, vp_in_nI (by omega) (by decide), ?_⟩
      have eq' : vp_updL qu (nI s).toNatClampNeg (T (nI s + nI d).toNatClampNeg / fd_l (g d)) = vp_updL qu s (fd_l (w (s + d) / g d)) := by
        rw [nI_clamp (by omega), eT, fd_l_divx hw1 hG1 hdv]
      refine nm_r eq' (xs_div90_result (by omega) (fun t h1 h2 => ?_))
      have hx : (w (s + d) / g d).natAbs ≤ M := Nat.le_trans (fd_ediv_le hg.1 hdv) (hw _)
      have hDI' := fd_DI_step hg (by omega) hDI (hq0 s (by omega)) hdv
      have hRt : fd_R t (fd_ws w g (w (s + d) / g d) s) := by
        intro k hk
        simp only [fd_ws]
        by_cases hks : s ≤ k
        · rw [if_pos hks]
          by_cases hkd : k ≤ s + d
          · have h3 := h1 (k - s) (by omega)
            have e3 : s + (k - s) = k := by omega
            rw [e3, fd_uLs, hT k hk, hop (k - s) (by omega), fd_l_mul, fd_l_sub] at h3
            exact h3
          · rw [h2 k (by omega), hT k hk, hg.2 (k - s) (by omega)]; simp
        · rw [if_neg hks, h2 k (by omega), hT k hk]; simp
      have hRq : fd_R (vp_updL qu s (fd_l (w (s + d) / g d))) (fd_qs q (w (s + d) / g d) s) := by
        intro k hk
        simp only [fd_qs]
        by_cases hks : k = s
        · rw [if_pos hks, hks, fd_uLs]
        · rw [if_neg hks, fd_uLn hks, hq k hk]
      have hq0' : ∀ j, j < s → fd_qs q (w (s + d) / g d) s j = 0 := fun j hj => by
        simp only [fd_qs]; rw [if_neg (by omega)]; exact hq0 j (by omega)
      have hqB' : fd_B (fd_qs q (w (s + d) / g d) s) 4611686018427387904 := fun j => by
        simp only [fd_qs]
        by_cases hj : j = s
        · rw [if_pos hj]; exact Nat.le_trans hx hM1
        · rw [if_neg hj]; exact hqB j
      by_cases hst : s < tt
      · refine ih (M * (1 + G)) _ _ _ _ (by omega) hRt hRq hq0' hqB' hDI' (fun j hj => ?_) (fd_ws_B hw hG hx) ?_
        · exact hDI'.2.1 j (by omega)
        · have e4 : min (s + 1) tt = min s tt + 1 := by omega
          rw [e4, Nat.pow_succ] at hM
          rw [Nat.mul_assoc, Nat.mul_comm (1 + G)]; exact hM
      · have h0 : w (s + d) = 0 := htt _ (by omega)
        have e5 : fd_ws w g (w (s + d) / g d) s = w := by rw [h0, Int.zero_ediv]; exact fd_ws_0 w g s
        rw [e5] at hRt hDI'
        refine ih M _ _ _ _ (by omega) hRt hRq hq0' hqB' hDI' htt hw ?_
        have e4 : min (s + 1) tt = min s tt := by omega
        rw [e4] at hM; exact hM
    · exact br_f (by rw [eT]; exact fun z => hdv ((fd_l_rem0 hw1 hG1).mp z)) (H0 (fd_DI_no hg hDI hdv) ⟨_, hdv⟩ T qu)
theorem xs_divide_result {post : Int32 → SX → Prop} {fc : Int32} {he : Nat → Int32} {re op qu rs wk fo : Nat → Int64} {f g : Nat → Int} {d G M tt : Nat} (hg : fd_D g d) (hd : d < 6) (hop : fd_R op g) (hG : fd_B g G) (hGs : G ≤ 4611686018427387904) (hf : fd_R re f) (hL : fd_L f 5) (htt : ∀ j, tt + d ≤ j → f j = 0) (hB : fd_B f M) (hM : M * (1 + G) ^ (min (6 - d) tt) ≤ 4611686018427387904)
    (H1 : ∀ T qu w q, fd_R T w → fd_R qu q → fd_DI f g w q d 0 → fd_B w 4611686018427387904 → fd_B q 4611686018427387904 → post 1 (fc, he, T, op, qu, rs, wk, fo))
    (H0 : ¬ fd_dv g f → (∃ z, ¬ g d ∣ z) → ∀ T qu, post 0 (fc, he, T, op, qu, rs, wk, fo)) : wpX_divide__result post (fc, he, re, op, qu, rs, wk, fo) (nI d) := by
  have eo : op (nI d).toNatClampNeg = fd_l (g d) := by rw [nI_clamp (by omega), hop d hd]
  have hl : ¬ fd_l (g d) = 0 := fun z => hg.1 ((fd_l_z (fd_s_of (hG d) hGs)).mp z)
  refine br_t (nI_pos' (by omega)) ⟨vp_in_nI hd (by decide), ?_⟩
  rw [eo]
  refine br_f hl (fd_fill (fun n x t => wX_divide__result_26 post (nI d) (fd_l (g d)) fc n x he re op t rs wk fo) 6 0 (fun _ => 0) qu (fun n t h1 _ => ?_) (fun n i t hi _ hW => ?_))
  · refine br_t (nI_le (Nat.le_refl 6) (by decide)) (nm_r (e' := nI (6 - d) + (-1)) ?_ ⟨6 - d + 1, ?_⟩)
    · have e6 : 6 - d = (5 - d) + 1 := by omega
      rw [e6, fd_m1]; exact fd_isub (a := 5) (by omega)
    · exact xs_div52_result (qu := qu) (re := re) hg hd hop hG hGs H1 H0 (6 - d) M re t f fd_z (by omega) hf (fun i hi => by have := h1 i hi; rw [Nat.zero_add] at this; rw [this]; exact fd_l_0.symm) (fun _ _ => rfl) (fun _ => by simp [fd_z]) (fd_DI_init (fun j hj => hL j (by omega))) htt hB hM
  · exact br_f (nI_ge (b := 6) hi (by decide)) ⟨vp_in_nI hi (by decide), nm_r (by rw [nI_clamp (by omega), Nat.zero_add]) (nm_r (nI_1 i) hW)⟩
theorem xs_divide_neg_result {post : Int32 → SX → Prop} {fc : Int32} {he : Nat → Int32} {re op qu rs wk fo : Nat → Int64} (H0 : post 0 (fc, he, re, op, qu, rs, wk, fo)) : wpX_divide__result post (fc, he, re, op, qu, rs, wk, fo) (-1) :=
  br_f (by decide) (br_t rfl H0)
theorem xs_makeOperand {post : SX → Prop} {fc : Int32} {he : Nat → Int32} {re op qu rs wk fo : Nat → Int64} {t m l : Int} (ht : fd_k t) (hm : fd_k m) (hl : fd_k l) (H : ∀ o', fd_R o' (fd_q t m l) → post (fc, he, re, o', qu, rs, wk, fo)) : wpX_makeOperand post (fc, he, re, op, qu, rs, wk, fo) (fd_i t) (fd_i m) (fd_i l) := by
  unfold wpX_makeOperand
  dsimp only
  refine xs_clear_operand (fun z hz => ?_)
  intro a ea b eb c ec
  refine H c (fun i hi => ?_)
  subst ec eb ea
  match i, hi with
  | 0, _ => rw [fd_uLs, fd_i_l hl]; rfl
  | 1, _ => rw [fd_uLn (by decide), fd_uLs, fd_i_l hm]; rfl
  | 2, _ => rw [fd_uLn (by decide), fd_uLn (by decide), fd_uLs, fd_i_l ht]; rfl
  | (k + 3), hi => rw [fd_uLn (by omega), fd_uLn (by omega), fd_uLn (by omega)]; show z (k + 3) = _; rw [hz _ hi, fd_q_L t m l (k + 3) (by omega), fd_l_0]
theorem xs_divideRest {post : Int32 → SX → Prop} {fc : Int32} {he : Nat → Int32} {re op qu rs wk fo : Nat → Int64} {f g : Nat → Int} {d G M tt : Nat} (hg : fd_D g d) (hd : d < 6) (hop : fd_R op g) (hG : fd_B g G) (hGs : G ≤ 4611686018427387904) (hf : fd_R rs f) (hL : fd_L f 5) (htt : ∀ j, tt + d ≤ j → f j = 0) (hB : fd_B f M) (hM : M * (1 + G) ^ (min (6 - d) tt) ≤ 4611686018427387904)
    (H1 : ∀ qu rs wk f', fd_R rs f' → fd_L f' 5 → fd_mul g f' = f → post 1 (fc, he, re, op, qu, rs, wk, fo))
    (H0 : ¬ fd_dv g f → ∀ qu wk, post 0 (fc, he, re, op, qu, rs, wk, fo)) : wpX_divideRest post (fc, he, re, op, qu, rs, wk, fo) (nI d) := by
  unfold wpX_divideRest
  dsimp only
  refine xs_copy_rest_work (fun wk1 hwk => ?_)
  dsimp only
  refine xs_divide_work hg hd hop hG hGs (fun i hi => by rw [hwk i hi, hf i hi]) hL htt hB hM (fun T qu1 w q hT hq hDI hw _ => ?_) (fun hn _ T qu1 => ?_)
  · dsimp only
    refine br_f (by decide) (xs_deg_work hT hw (Nat.le_refl _) (fun j hj => hDI.2.1 j (by omega)) (fun hz => ?_) (fun d' hd' hD' => ?_))
    · refine br_t (by decide) (xs_copy_quotient_rest (fun rs1 hrs => ?_))
      dsimp only
      rw [hz] at hDI
      exact H1 qu1 rs1 T q (fun i hi => by rw [hrs i hi, hq i hi]) hDI.2.2 (fd_DI_0 hDI)
    · exact br_f (nI_pos (by omega)) (H0 (fd_DI_end hg hDI (fd_D_nz hD')) qu1 T)
  · dsimp only
    exact br_t rfl (H0 hn qu1 T)
end
section
/-! content and primitive part -/
def fd_H0 (f : Nat → Int) : Prop := (∀ i, -20 ≤ f i ∧ f i ≤ 20) ∧ fd_L f 5
theorem fd_H0_B {f : Nat → Int} (h : fd_H0 f) : fd_B f 20 := fun i => by have := h.1 i; omega
def fd_all (c : Nat) (f : Nat → Int) : Prop := ∀ i, (c : Int) ∣ f i
theorem fd_all6 {c : Nat} {f : Nat → Int} (hL : fd_L f 5) (h : ∀ i, i < 6 → (c : Int) ∣ f i) : fd_all c f := fun i => by
  by_cases hi : i < 6
  · exact h i hi
  · rw [hL i (by omega)]; exact ⟨0, by simp⟩
/-- the content: the largest common divisor among 1 .. 20 -/
def fd_cont (f : Nat → Int) (c : Nat) : Prop := 1 ≤ c ∧ c ≤ 20 ∧ fd_all c f ∧ ∀ c', c < c' → c' ≤ 20 → ¬ fd_all c' f
theorem fd_cont_pr {f : Nat → Int} {c d : Nat} (h0 : fd_H0 f) (hc : fd_cont f c) (hD : fd_D f d) (k : Int) (hk : k = if 0 ≤ f d then (c : Int) else -(c : Int)) (F : Nat → Int) (hF : f = fd_sm k F) : k ≠ 0 ∧ fd_H F ∧ fd_pr F ∧ fd_D F d ∧ 0 < F d := by
  obtain ⟨h1, h2, h3, h4⟩ := hc
  have hk0 : k ≠ 0 := by rw [hk]; split <;> omega
  have hka : k.natAbs = c := by rw [hk]; split <;> omega
  have hFi : ∀ i, k * F i = f i := fun i => by rw [hF]; rfl
  have hFb : ∀ i, (F i).natAbs ≤ (f i).natAbs := by
    intro i
    rw [← hFi i, Int.natAbs_mul]
    exact Nat.le_mul_of_pos_left _ (by omega)
  have hz : ∀ i, f i = 0 → F i = 0 := fun i hi => by have := hFb i; omega
  have hDF : fd_D F d := ⟨fun e => hD.1 (by rw [← hFi d, e]; simp), fun j hj => hz j (hD.2 j hj)⟩
  refine ⟨hk0, ⟨fun i => ?_, fun j hj => hz j (h0.2 j hj), fd_D_nz hDF⟩, fun m hm => ?_, hDF, ?_⟩
  · have a1 := hFb i
    have a2 := h0.1 i
    omega
  · have hm1 : m ≠ 0 := by
      intro e
      have := hm d
      rw [e] at this
      exact hDF.1 (Int.zero_dvd.mp this)
    have hall : fd_all (c * m) f := by
      intro i
      obtain ⟨x, hx⟩ := hm i
      rw [← hFi i, hx]
      rw [Int.ofNat_dvd_left, Int.natAbs_mul, Int.natAbs_mul, hka, Int.natAbs_natCast, ← Nat.mul_assoc]
      exact ⟨_, rfl⟩
    have hle : c * m ≤ 20 := by
      have h5 := hall d
      rw [Int.ofNat_dvd_left] at h5
      have h6 := Nat.le_of_dvd (Int.natAbs_pos.mpr hD.1) h5
      have := h0.1 d
      omega
    apply Classical.byContradiction
    intro hne
    have h7 : c * 2 ≤ c * m := Nat.mul_le_mul_left c (by omega)
    exact h4 (c * m) (by omega) hle hall
  · have hne := hDF.1
    have e := hFi d
    apply Classical.byContradiction
    intro hn
    by_cases hs : 0 ≤ f d
    · rw [if_pos hs] at hk
      have : k * F d < 0 := Int.mul_neg_of_pos_of_neg (by omega) (by omega)
      omega
    · rw [if_neg hs] at hk
      have : 0 < k * F d := Int.mul_pos_of_neg_of_neg (by omega) (by omega)
      omega
theorem fd_l64n (c : Nat) (hc : c < 2 ^ 31) : (nI c).toInt64 = fd_l (c : Int) := by rw [nI_l hc, fd_l_nat]
theorem xs_dividesAll_rest {post : Int32 → Prop} {fc : Int32} {he : Nat → Int32} {re op qu rs wk fo : Nat → Int64} {f : Nat → Int} {c : Nat} (hR : fd_R rs f) (h0 : fd_H0 f) (hc : 1 ≤ c) (hc2 : c ≤ 20) (H1 : fd_all c f → post 1) (H0 : ¬ fd_all c f → post 0) : wpX_dividesAll__rest post (fc, he, re, op, qu, rs, wk, fo) (nI c) := by
  have hcs : fd_s (c : Int) := fd_s_lit (by omega)
  refine fd_upl (fun n x => wX_dividesAll__rest_2 post (nI c) fc he re op qu rs wk fo n x) (fun j => (c : Int) ∣ f j) 6 (fun h n => ?_) (fun n i hi h hW => ?_)
  · exact br_t (nI_le (Nat.le_refl 6) (by decide)) (H1 (fd_all6 h0.2 h))
  · refine br_f (nI_ge (b := 6) hi (by decide)) (br_f (nI_ne0 hc (by omega)) ⟨vp_in_nI hi (by decide), ?_, ?_⟩)
    · rw [fd_l64n c (by omega)]; exact fun z => absurd ((fd_l_z hcs).mp z) (by omega)
    · rw [fd_l64n c (by omega), nI_clamp (by omega), hR i hi]
      have hs : fd_s (f i) := fd_s_of (fd_H0_B h0 i) (by decide)
      exact br_c (fun z => nm_r (nI_1 i) (hW ((fd_l_rem0 hs hcs).mp z))) (fun z => H0 (fun ha => z ((fd_l_rem0 hs hcs).mpr (ha i))))
theorem xs_contentOf_rest {post : Int32 → Prop} {fc : Int32} {he : Nat → Int32} {re op qu rs wk fo : Nat → Int64} {f : Nat → Int} (hR : fd_R rs f) (h0 : fd_H0 f) (Hz : f = fd_z → post 0) (H : ∀ c d, fd_D f d → fd_cont f c → post (nI c)) : wpX_contentOf__rest post (fc, he, re, op, qu, rs, wk, fo) := by
  unfold wpX_contentOf__rest
  dsimp only
  refine xs_deg_rest hR (fd_H0_B h0) (by decide) h0.2 (fun hz => br_f (by decide) (Hz hz)) (fun d hd hD => br_t (nI_pos' (by omega)) ⟨20, ?_⟩)
  have key : ∀ k, k ≤ 19 → (∀ c', k + 1 < c' → c' ≤ 20 → ¬ fd_all c' f) → wX_contentOf__rest_12 post fc he re op qu rs wk fo (k + 1) (nI (k + 1)) := by
    intro k
    induction k with
    | zero =>
      intro _ hn
      exact br_t (nI_le (a := 1) (b := 1) (Nat.le_refl 1) (by decide)) (H 1 d hD ⟨Nat.le_refl 1, by decide, fun i => ⟨f i, by simp⟩, hn⟩)
    | succ k ih =>
      intro hk hn
      refine br_f (nI_ge (a := 1) (b := k + 1 + 1) (by omega) (by omega)) (xs_dividesAll_rest hR h0 (by omega) (by omega) (fun ha => br_f (by decide) (H (k + 1 + 1) d hD ⟨by omega, by omega, ha, hn⟩)) (fun ha => br_t rfl (nm_r (fd_m1 (k + 1)) (ih (by omega) (fun c' h1 h2 => ?_)))))
      by_cases e : c' = k + 1 + 1
      · rw [e]; exact ha
      · exact hn c' (by omega) h2
  exact key 19 (by omega) (fun c' h1 h2 => absurd h1 (by omega))
theorem xs_prim24_rest {post : SX → Prop} {fc : Int32} {he : Nat → Int32} {re op qu rs wk fo : Nat → Int64} {f F' : Nat → Int} {k : Int} {x1 : Int32} (hx : x1.toInt64 = fd_l k) (hk : k ≠ 0) (hks : fd_s k) (hR : fd_R rs f) (h0 : fd_H0 f) (hF : f = fd_sm k F') (H : ∀ t, fd_R t F' → post (fc, he, re, op, qu, t, wk, fo)) : ∃ n, wX_makePrimitive__rest_24 post x1 fc n 0 he re op qu rs wk fo := by
  refine fd_fill (fun n x t => wX_makePrimitive__rest_24 post x1 fc n x he re op qu t wk fo) 6 0 (fun i => fd_l (F' i)) rs (fun n t h1 _ => ?_) (fun n i t hi h2 hW => ?_)
  · exact br_t (nI_le (Nat.le_refl 6) (by decide)) (H t (fun i hi => by have := h1 i hi; rwa [Nat.zero_add] at this))
  · refine br_f (nI_ge (b := 6) hi (by decide)) ⟨vp_in_nI hi (by decide), ?_, vp_in_nI hi (by decide), nm_r ?_ (nm_r (nI_1 i) hW)⟩
    · rw [hx]; exact fun z => hk ((fd_l_z hks).mp z)
    · have hs : fd_s (f i) := fd_s_of (fd_H0_B h0 i) (by decide)
      have hfi : k * F' i = f i := by rw [hF]; rfl
      rw [hx, nI_clamp (by omega), h2 i (by omega), hR i hi, fd_l_divx hs hks ⟨F' i, hfi.symm⟩, Nat.zero_add, ← hfi, Int.mul_ediv_cancel_left _ hk]
theorem xs_makePrimitive_rest {post : SX → Prop} {fc : Int32} {he : Nat → Int32} {re op qu rs wk fo : Nat → Int64} {f : Nat → Int} (hR : fd_R rs f) (h0 : fd_H0 f) (Hz : f = fd_z → post (fc, he, re, op, qu, rs, wk, fo)) (H : ∀ t F k d, fd_R t F → k ≠ 0 → f = fd_sm k F → fd_H F → fd_pr F → fd_D F d → 0 < F d → post (fc, he, re, op, qu, t, wk, fo)) : wpX_makePrimitive__rest post (fc, he, re, op, qu, rs, wk, fo) := by
  unfold wpX_makePrimitive__rest
  dsimp only
  refine xs_contentOf_rest hR h0 (fun hz => br_t rfl (Hz hz)) (fun c d hD hc => br_f (nI_ne0 hc.1 (by have := hc.2.1; omega)) (xs_leadOf_rest hR (fd_H0_B h0) (by decide) h0.2 (fun hz => absurd hz (fd_D_nz hD)) (fun d' hd' hD' => ?_)))
  have e := fd_D_u hD' hD
  subst e
  have hs : fd_s (f d') := fd_s_of (fd_H0_B h0 d') (by decide)
  have hcl : c < 2 ^ 31 := by have := hc.2.1; omega
  have hck : fd_s (c : Int) := fd_s_lit (by have := hc.2.1; omega)
  have hle : (0 ≤ fd_l (f d')) ↔ 0 ≤ f d' := by
    rw [← fd_l_0]; exact fd_l_le (fd_s_lit (by decide)) hs
  by_cases hsg : 0 ≤ f d'
  · refine br_t (hle.mpr hsg) ?_
    obtain ⟨F, hF⟩ := fd_div_all (f := f) (m := (c : Int)) hc.2.2.1
    obtain ⟨g1, g2, g3, g4, g5⟩ := fd_cont_pr h0 hc hD (c : Int) (by rw [if_pos hsg]) F hF
    exact xs_prim24_rest (fd_l64n c hcl) g1 hck hR h0 hF (fun t ht => H t F _ d' ht g1 hF g2 g3 g4 g5)
  · refine br_f (fun z => hsg (hle.mp z)) (nm_e ?_)
    obtain ⟨F, hF⟩ := fd_div_all (f := f) (m := -(c : Int)) (fun i => Int.neg_dvd.mpr (hc.2.2.1 i))
    obtain ⟨g1, g2, g3, g4, g5⟩ := fd_cont_pr h0 hc hD (-(c : Int)) (by rw [if_neg hsg]) F hF
    have hcn : (-nI c).toInt64 = fd_l (-(c : Int)) := by
      rw [← fd_i_nat, fd_i_neg, fd_i_l (fd_k_lit (by have := hc.2.1; omega))]
    exact xs_prim24_rest hcn g1 ⟨by have := hck.1; have := hck.2; omega, by have := hck.1; have := hck.2; omega⟩ hR h0 hF (fun t ht => H t F _ d' ht g1 hF g2 g3 g4 g5)
theorem xs_dividesAll_result {post : Int32 → Prop} {fc : Int32} {he : Nat → Int32} {re op qu rs wk fo : Nat → Int64} {f : Nat → Int} {c : Nat} (hR : fd_R re f) (h0 : fd_H0 f) (hc : 1 ≤ c) (hc2 : c ≤ 20) (H1 : fd_all c f → post 1) (H0 : ¬ fd_all c f → post 0) : wpX_dividesAll__result post (fc, he, re, op, qu, rs, wk, fo) (nI c) := by
  have hcs : fd_s (c : Int) := fd_s_lit (by omega)
  refine fd_upl (fun n x => wX_dividesAll__result_2 post (nI c) fc he re op qu rs wk fo n x) (fun j => (c : Int) ∣ f j) 6 (fun h n => ?_) (fun n i hi h hW => ?_)
  · exact br_t (nI_le (Nat.le_refl 6) (by decide)) (H1 (fd_all6 h0.2 h))
  · refine br_f (nI_ge (b := 6) hi (by decide)) (br_f (nI_ne0 hc (by omega)) ⟨vp_in_nI hi (by decide), ?_, ?_⟩)
    · rw [fd_l64n c (by omega)]; exact fun z => absurd ((fd_l_z hcs).mp z) (by omega)
    · rw [fd_l64n c (by omega), nI_clamp (by omega), hR i hi]
      have hs : fd_s (f i) := fd_s_of (fd_H0_B h0 i) (by decide)
      exact br_c (fun z => nm_r (nI_1 i) (hW ((fd_l_rem0 hs hcs).mp z))) (fun z => H0 (fun ha => z ((fd_l_rem0 hs hcs).mpr (ha i))))
theorem xs_contentOf_result {post : Int32 → Prop} {fc : Int32} {he : Nat → Int32} {re op qu rs wk fo : Nat → Int64} {f : Nat → Int} (hR : fd_R re f) (h0 : fd_H0 f) (Hz : f = fd_z → post 0) (H : ∀ c d, fd_D f d → fd_cont f c → post (nI c)) : wpX_contentOf__result post (fc, he, re, op, qu, rs, wk, fo) := by
  unfold wpX_contentOf__result
  dsimp only
  refine xs_deg_result hR (fd_H0_B h0) (by decide) h0.2 (fun hz => br_f (by decide) (Hz hz)) (fun d hd hD => br_t (nI_pos' (by omega)) ⟨20, ?_⟩)
  have key : ∀ k, k ≤ 19 → (∀ c', k + 1 < c' → c' ≤ 20 → ¬ fd_all c' f) → wX_contentOf__result_12 post fc he re op qu rs wk fo (k + 1) (nI (k + 1)) := by
    intro k
    induction k with
    | zero =>
      intro _ hn
      exact br_t (nI_le (a := 1) (b := 1) (Nat.le_refl 1) (by decide)) (H 1 d hD ⟨Nat.le_refl 1, by decide, fun i => ⟨f i, by simp⟩, hn⟩)
    | succ k ih =>
      intro hk hn
      refine br_f (nI_ge (a := 1) (b := k + 1 + 1) (by omega) (by omega)) (xs_dividesAll_result hR h0 (by omega) (by omega) (fun ha => br_f (by decide) (H (k + 1 + 1) d hD ⟨by omega, by omega, ha, hn⟩)) (fun ha => br_t rfl (nm_r (fd_m1 (k + 1)) (ih (by omega) (fun c' h1 h2 => ?_)))))
      by_cases e : c' = k + 1 + 1
      · rw [e]; exact ha
      · exact hn c' (by omega) h2
  exact key 19 (by omega) (fun c' h1 h2 => absurd h1 (by omega))
theorem xs_prim24_result {post : SX → Prop} {fc : Int32} {he : Nat → Int32} {re op qu rs wk fo : Nat → Int64} {f F' : Nat → Int} {k : Int} {x1 : Int32} (hx : x1.toInt64 = fd_l k) (hk : k ≠ 0) (hks : fd_s k) (hR : fd_R re f) (h0 : fd_H0 f) (hF : f = fd_sm k F') (H : ∀ t, fd_R t F' → post (fc, he, t, op, qu, rs, wk, fo)) : ∃ n, wX_makePrimitive__result_24 post x1 fc n 0 he re op qu rs wk fo := by
  refine fd_fill (fun n x t => wX_makePrimitive__result_24 post x1 fc n x he t op qu rs wk fo) 6 0 (fun i => fd_l (F' i)) re (fun n t h1 _ => ?_) (fun n i t hi h2 hW => ?_)
  · exact br_t (nI_le (Nat.le_refl 6) (by decide)) (H t (fun i hi => by have := h1 i hi; rwa [Nat.zero_add] at this))
  · refine br_f (nI_ge (b := 6) hi (by decide)) ⟨vp_in_nI hi (by decide), ?_, vp_in_nI hi (by decide), nm_r ?_ (nm_r (nI_1 i) hW)⟩
    · rw [hx]; exact fun z => hk ((fd_l_z hks).mp z)
    · have hs : fd_s (f i) := fd_s_of (fd_H0_B h0 i) (by decide)
      have hfi : k * F' i = f i := by rw [hF]; rfl
      rw [hx, nI_clamp (by omega), h2 i (by omega), hR i hi, fd_l_divx hs hks ⟨F' i, hfi.symm⟩, Nat.zero_add, ← hfi, Int.mul_ediv_cancel_left _ hk]
theorem xs_makePrimitive_result {post : SX → Prop} {fc : Int32} {he : Nat → Int32} {re op qu rs wk fo : Nat → Int64} {f : Nat → Int} (hR : fd_R re f) (h0 : fd_H0 f) (Hz : f = fd_z → post (fc, he, re, op, qu, rs, wk, fo)) (H : ∀ t F k d, fd_R t F → k ≠ 0 → f = fd_sm k F → fd_H F → fd_pr F → fd_D F d → 0 < F d → post (fc, he, t, op, qu, rs, wk, fo)) : wpX_makePrimitive__result post (fc, he, re, op, qu, rs, wk, fo) := by
  unfold wpX_makePrimitive__result
  dsimp only
  refine xs_contentOf_result hR h0 (fun hz => br_t rfl (Hz hz)) (fun c d hD hc => br_f (nI_ne0 hc.1 (by have := hc.2.1; omega)) (xs_leadOf_result hR (fd_H0_B h0) (by decide) h0.2 (fun hz => absurd hz (fd_D_nz hD)) (fun d' hd' hD' => ?_)))
  have e := fd_D_u hD' hD
  subst e
  have hs : fd_s (f d') := fd_s_of (fd_H0_B h0 d') (by decide)
  have hcl : c < 2 ^ 31 := by have := hc.2.1; omega
  have hck : fd_s (c : Int) := fd_s_lit (by have := hc.2.1; omega)
  have hle : (0 ≤ fd_l (f d')) ↔ 0 ≤ f d' := by
    rw [← fd_l_0]; exact fd_l_le (fd_s_lit (by decide)) hs
  by_cases hsg : 0 ≤ f d'
  · refine br_t (hle.mpr hsg) ?_
    obtain ⟨F, hF⟩ := fd_div_all (f := f) (m := (c : Int)) hc.2.2.1
    obtain ⟨g1, g2, g3, g4, g5⟩ := fd_cont_pr h0 hc hD (c : Int) (by rw [if_pos hsg]) F hF
    exact xs_prim24_result (fd_l64n c hcl) g1 hck hR h0 hF (fun t ht => H t F _ d' ht g1 hF g2 g3 g4 g5)
  · refine br_f (fun z => hsg (hle.mp z)) (nm_e ?_)
    obtain ⟨F, hF⟩ := fd_div_all (f := f) (m := -(c : Int)) (fun i => Int.neg_dvd.mpr (hc.2.2.1 i))
    obtain ⟨g1, g2, g3, g4, g5⟩ := fd_cont_pr h0 hc hD (-(c : Int)) (by rw [if_neg hsg]) F hF
    have hcn : (-nI c).toInt64 = fd_l (-(c : Int)) := by
      rw [← fd_i_nat, fd_i_neg, fd_i_l (fd_k_lit (by have := hc.2.1; omega))]
    exact xs_prim24_result hcn g1 ⟨by have := hck.1; have := hck.2; omega, by have := hck.1; have := hck.2; omega⟩ hR h0 hF (fun t ht => H t F _ d' ht g1 hF g2 g3 g4 g5)
end
section
/-! the component's search for factors -/
def fd_AL (fo : Nat → Int64) (L : List (Nat → Int)) : Prop := ∀ k, k < L.length → ∀ i, i < 6 → fo (k * 6 + i) = fd_l (L.getD k fd_z i)
theorem fd_getD_l {L : List (Nat → Int)} {g : Nat → Int} {k : Nat} (h : k < L.length) : (L ++ [g]).getD k fd_z = L.getD k fd_z := by
  rw [List.getD_eq_getElem?_getD, List.getD_eq_getElem?_getD, List.getElem?_append_left h]
theorem fd_getD_r (L : List (Nat → Int)) (g : Nat → Int) : (L ++ [g]).getD L.length fd_z = g := by
  rw [List.getD_eq_getElem?_getD, List.getElem?_append_right (Nat.le_refl _)]; simp
theorem fd_AL_nil (fo : Nat → Int64) : fd_AL fo [] := fun k hk => absurd hk (Nat.not_lt_zero k)
theorem fd_AL_snoc {fo t op : Nat → Int64} {L : List (Nat → Int)} {g : Nat → Int} (h : fd_AL fo L) (h1 : ∀ i, i < 6 → t (L.length * 6 + i) = op i) (h2 : ∀ j, j < L.length * 6 → t j = fo j) (hop : fd_R op g) : fd_AL t (L ++ [g]) := by
  intro k hk i hi
  rw [List.length_append, List.length_singleton] at hk
  by_cases e : k = L.length
  · rw [e, fd_getD_r, h1 i hi, hop i hi]
  · have hk' : k < L.length := by omega
    rw [fd_getD_l hk', h2 _ (by omega), h k hk' i hi]
theorem fd_St_B {F f : Nat → Int} {L : List (Nat → Int)} (hF : fd_H F) (h : fd_St F f L) : fd_B f 170000 := by
  obtain ⟨q, hq, e⟩ := fd_St_dv h
  exact fd_bB hF (fd_St_F h) hq e
theorem fd_q_B {t m l : Int} {G : Nat} (ht : t.natAbs ≤ G) (hm : m.natAbs ≤ G) (hl : l.natAbs ≤ G) : fd_B (fd_q t m l) G := by
  intro i
  match i with
  | 0 => exact hl
  | 1 => exact hm
  | 2 => exact ht
  | (k + 3) => rw [fd_q_L t m l (k + 3) (by omega)]; simp
theorem fd_pow_le (d : Nat) (hd : 1 ≤ d) (tt : Nat) : 170000 * (1 + 100) ^ (min (6 - d) tt) ≤ 4611686018427387904 := by
  have h1 : (1 + 100) ^ (min (6 - d) tt) ≤ (1 + 100) ^ 5 := Nat.pow_le_pow_right (by decide) (by omega)
  exact Nat.le_trans (Nat.mul_le_mul_left _ h1) (by decide)
theorem fd_i_1 (z : Int) : fd_i z + 1 = fd_i (z + 1) := fd_i_add z 1
theorem xs_take80 {post : SX → Prop} {J14 J24 : Int32 → Int32 → (Nat → Int32) → (Nat → Int64) → (Nat → Int64) → (Nat → Int64) → (Nat → Int64) → (Nat → Int64) → (Nat → Int64) → Prop} {x1 x3 x5 : Int32} {he : Nat → Int32} {re : Nat → Int64} {F : Nat → Int} (hF : fd_H F) {t m l : Int} {d : Nat} (hd1 : 1 ≤ d) (hd2 : d ≤ 2) (hD : fd_D (fd_q t m l) d) (hB : fd_B (fd_q t m l) 100)
    (P Q : (Nat → Int) → List (Nat → Int) → Prop) (hSt : ∀ f L, P f L → fd_St F f L)
    (hT : ∀ f f' L, P f L → fd_F f' → fd_mul (fd_q t m l) f' = f → P f' (L ++ [fd_q t m l]))
    (hN : ∀ f L, P f L → ¬ fd_dv (fd_q t m l) f → Q f L)
    (HJ : ∀ f L op qu rs wk fo, Q f L → fd_R rs f → fd_AL fo L → J24 (fd_i (l + 1)) (nI L.length) he re op qu rs wk fo) :
    ∀ (j k : Nat) (f : Nat → Int) (L : List (Nat → Int)) (op qu rs wk fo : Nat → Int64), k + j = 5 → k ≤ L.length → P f L → fd_R op (fd_q t m l) → fd_R rs f → fd_AL fo L → wX_takeFactors_80 post J14 J24 x1 x3 (nI d) x5 (fd_i l) (j + 1) (nI k) (nI L.length) he re op qu rs wk fo := by
  intro j
  induction j with
  | zero =>
    intro k f L op qu rs wk fo hk hkL hP hop hrs hfo
    have hst := hSt f L hP
    have e : k = 5 := by omega
    subst e
    refine br_t (nI_le (a := 5) (b := 5) (Nat.le_refl 5) (by decide)) (nm_r (fd_i_1 l) (HJ f L op qu rs wk fo (hN f L hP fun hdv => ?_) hrs hfo))
    obtain ⟨_, _, e, hDf, _⟩ := id hst
    have h1 := fd_St_len hF.2.1 hst hDf
    obtain ⟨q, hq, eq'⟩ := hdv
    obtain ⟨a, b, ha, hb, hab⟩ := fd_D_split (fd_D_F hD) hq eq' hDf
    have := fd_D_u ha hD
    omega
  | succ j ih =>
    intro k f L op qu rs wk fo hk hkL hP hop hrs hfo
    have hst := hSt f L hP
    refine br_f (nI_ge (b := 5) (by omega) (by decide)) (xs_divideRest hD (by omega) hop hB (by decide) hrs (fd_St_L5 hF.2.1 hst) (tt := 6) (fun j' hj' => fd_St_L5 hF.2.1 hst j' (by omega)) (fd_St_B hF hst) (fd_pow_le d hd1 6) (fun qu1 rs1 wk1 f' hf' hL' e => ?_) (fun hn qu1 wk1 => ?_))
    · dsimp only
      have hlen : L.length < 5 := by
        obtain ⟨_, _, e2, hDf, _⟩ := id hst
        have h1 := fd_St_len hF.2.1 hst hDf
        obtain ⟨a, b, ha, hb, hab⟩ := fd_D_split (fd_D_F hD) (fd_L_F hL') e hDf
        have := fd_D_u ha hD
        omega
      refine br_f (by decide) (xs_addFound_operand hlen (fun fo1 h1 h2 => ?_))
      dsimp only
      refine nm_r (nI_1 k) ?_
      have := ih (k + 1) f' (L ++ [fd_q t m l]) op qu1 rs1 wk1 fo1 (by omega) (by rw [List.length_append, List.length_singleton]; omega) (hT f f' L hP (fd_L_F hL') e) hop hf' (fd_AL_snoc hfo h1 h2 hop)
      rw [List.length_append, List.length_singleton] at this
      exact this
    · dsimp only
      exact br_t rfl (nm_r (fd_i_1 l) (HJ f L op qu1 rs wk1 fo (hN f L hP hn) hrs hfo))
theorem xs_take24 {post : SX → Prop} {J14 : Int32 → Int32 → (Nat → Int32) → (Nat → Int64) → (Nat → Int64) → (Nat → Int64) → (Nat → Int64) → (Nat → Int64) → (Nat → Int64) → Prop} {x3 : Int32} {he : Nat → Int32} {re : Nat → Int64} {F : Nat → Int} (hF : fd_H F) {t m : Int} {d : Nat} (hd1 : 1 ≤ d) (hd2 : d ≤ 2) (hD : ∀ l, fd_D (fd_q t m l) d) (ht : t.natAbs ≤ 100) (hm : m.natAbs ≤ 100)
    (P : Int → (Nat → Int) → List (Nat → Int) → Prop) (hSt : ∀ l f L, P l f L → fd_St F f L)
    (hT : ∀ l f f' L, P l f L → fd_F f' → fd_mul (fd_q t m l) f' = f → P l f' (L ++ [fd_q t m l]))
    (hN : ∀ l f L, P l f L → ¬ fd_dv (fd_q t m l) f → P (l + 1) f L)
    (HJ : ∀ f L op qu rs wk fo, P 21 f L → fd_R rs f → fd_AL fo L → J14 (fd_i (m + 1)) (nI L.length) he re op qu rs wk fo) :
    ∀ (k : Nat) (l : Int) (f : Nat → Int) (L : List (Nat → Int)) (op qu rs wk fo : Nat → Int64), k ≤ 41 → l = 21 - (k : Int) → P l f L → fd_R rs f → fd_AL fo L → wX_takeFactors_24 post J14 (fd_i t) x3 (nI d) (fd_i m) (k + 1) (fd_i l) (nI L.length) he re op qu rs wk fo := by
  intro k
  induction k with
  | zero =>
    intro l f L op qu rs wk fo hk hl hP hrs hfo
    have e : l = 21 := by omega
    subst e
    exact br_t ((fd_i_lt (a := 20) (b := 21) (fd_k_lit (by decide)) (fd_k_lit (by decide))).mpr (by decide)) (nm_r (fd_i_1 m) (HJ f L op qu rs wk fo hP hrs hfo))
  | succ k ih =>
    intro l f L op qu rs wk fo hk hl hP hrs hfo
    have hst := hSt l f L hP
    have hlk : fd_k l := fd_k_lit (by omega)
    have hls : fd_s l := fd_s_lit (by omega)
    have hgo : ∀ (op' : Nat → Int64), wX_takeFactors_68 post J14 (wX_takeFactors_24 post J14 (fd_i t) x3 (nI d) (fd_i m) (k + 1)) (fd_i t) x3 (nI d) (fd_i m) (fd_i l) (nI L.length) he re op qu rs wk fo := by
      intro _
      unfold wX_takeFactors_68
      refine xs_makeOperand (fd_k_lit (by omega)) (fd_k_lit (by omega)) hlk (fun op1 hop => ⟨5 + 1, ?_⟩)
      refine xs_take80 hF hd1 hd2 (hD l) (fd_q_B ht hm (by omega)) (P l) (P (l + 1)) (hSt l) (hT l) (hN l) (fun f L op qu rs wk fo hP hrs hfo => ih (l + 1) f L op qu rs wk fo (by omega) (by omega) hP hrs hfo) 5 0 f L op1 qu rs wk fo (by omega) (by omega) hP hop hrs hfo
    have hskip : ¬ fd_dv (fd_q t m l) f → wX_takeFactors_24 post J14 (fd_i t) x3 (nI d) (fd_i m) (k + 1) (fd_i (l + 1)) (nI L.length) he re op qu rs wk fo := fun hn => ih (l + 1) f L op qu rs wk fo (by omega) (by omega) (hN l f L hP hn) hrs hfo
    have hfs : fd_s (f 0) := fd_s_of (fd_St_B hF hst 0) (by decide)
    have hr0 : rs 0 = fd_l (f 0) := hrs 0 (by decide)
    refine br_f (fun z => ?_) ?_
    · have := (fd_i_lt (a := 20) (b := l) (fd_k_lit (by decide)) hlk).mp z
      omega
    · by_cases hl0 : l = 0
      · refine br_t (by rw [hl0]; rfl) (br_c (fun z => hgo op) (fun z => nm_r (fd_i_1 l) (hskip fun hdv => z ?_)))
        rw [hr0]
        have h1 := fd_q_low hdv
        rw [hl0] at h1
        rw [Int.zero_dvd.mp h1]; exact fd_l_0
      · refine br_f (fun z => hl0 ((fd_i_eq hlk (fd_k_lit (by decide))).mp (z.trans (by rfl)))) ⟨?_, ?_⟩
        · rw [fd_i_l hlk]; exact fun z => hl0 ((fd_l_z hls).mp z)
        · rw [fd_i_l hlk, hr0]
          exact br_c (fun z => hgo op) (fun z => nm_r (fd_i_1 l) (hskip fun hdv => z ((fd_l_rem0 hfs hls).mpr (fd_q_low hdv))))
theorem xs_take14 {post : SX → Prop} {he : Nat → Int32} {re : Nat → Int64} {F : Nat → Int} (hF : fd_H F) {t m0 m1 : Int} {d : Nat} (hd1 : 1 ≤ d) (hd2 : d ≤ 2) (hm0 : -100 ≤ m0) (hm1 : m1 ≤ 99) (hD : ∀ m l, m0 ≤ m → m ≤ m1 → fd_D (fd_q t m l) d) (ht : t.natAbs ≤ 100)
    (P : Int → Int → (Nat → Int) → List (Nat → Int) → Prop) (hSt : ∀ m l f L, P m l f L → fd_St F f L)
    (hT : ∀ m l f f' L, m0 ≤ m → m ≤ m1 → P m l f L → fd_F f' → fd_mul (fd_q t m l) f' = f → P m l f' (L ++ [fd_q t m l]))
    (hN : ∀ m l f L, P m l f L → ¬ fd_dv (fd_q t m l) f → P m (l + 1) f L)
    (hRow : ∀ m f L, P m 21 f L → P (m + 1) (-20) f L)
    (HJ : ∀ f L op qu rs wk fo, P (m1 + 1) (-20) f L → fd_R rs f → fd_AL fo L → post (nI L.length, he, re, op, qu, rs, wk, fo)) :
    ∀ (k : Nat) (m : Int) (f : Nat → Int) (L : List (Nat → Int)) (op qu rs wk fo : Nat → Int64), m0 ≤ m → m = m1 + 1 - (k : Int) → P m (-20) f L → fd_R rs f → fd_AL fo L → wX_takeFactors_14 post (fd_i t) (fd_i m1) (nI d) (k + 1) (fd_i m) (nI L.length) he re op qu rs wk fo := by
  intro k
  induction k with
  | zero =>
    intro m f L op qu rs wk fo hm hk hP hrs hfo
    have e : m = m1 + 1 := by omega
    subst e
    exact br_t ((fd_i_lt (fd_k_lit (by omega)) (fd_k_lit (by omega))).mpr (by omega)) (HJ f L op qu rs wk fo hP hrs hfo)
  | succ k ih =>
    intro m f L op qu rs wk fo hm hk hP hrs hfo
    refine br_f (fun z => ?_) ⟨41 + 1, ?_⟩
    · have := (fd_i_lt (fd_k_lit (by omega)) (fd_k_lit (by omega))).mp z
      omega
    · exact xs_take24 hF hd1 hd2 (fun l => hD m l hm (by omega)) ht (by omega) (P m) (hSt m) (fun l f f' L => hT m l f f' L hm (by omega)) (hN m) (fun f L op qu rs wk fo hP hrs hfo => ih (m + 1) f L op qu rs wk fo (by omega) (by omega) (hRow m f L hP) hrs hfo) 41 (-20) f L op qu rs wk fo (Nat.le_refl 41) (by decide) hP hrs hfo
/-- degree 1 -/
theorem xs_takeLin {post : SX → Prop} {he : Nat → Int32} {re op qu rs wk fo : Nat → Int64} {F : Nat → Int} {d : Nat} (hF : fd_H F) (hp : fd_pr F) (hDF : fd_D F d) (hpos : 0 < F d) (hrs : fd_R rs F)
    (H : ∀ f L op qu rs wk fo, fd_St F f L → fd_LF f → List.Pairwise fd_le L → (∀ p ∈ L, fd_D p 1) → fd_R rs f → fd_AL fo L → post (nI L.length, he, re, op, qu, rs, wk, fo)) : wpX_takeFactors post (nI 0, he, re, op, qu, rs, wk, fo) 0 1 20 := by
  refine br_t rfl ⟨20 + 1, ?_⟩
  exact xs_take14 (t := 0) (m0 := 1) (m1 := 20) (d := 1) hF (Nat.le_refl 1) (by decide) (by decide) (by decide) (fun m l h1 h2 => fd_q_D1 l (by omega)) (by decide) (fun m l f L => fd_P1 F f L m l) (fun m l f L h => h.1) (fun m l f f' L h1 h2 h hf' e => fd_P1_take hp h h1 hf' e) (fun m l f L h hn => fd_P1_next h hn) (fun m f L h => fd_P1_row h) (fun f L op qu rs wk fo hP hrs hfo => H f L op qu rs wk fo hP.1 (fd_P1_end hF hP) hP.2.1 (fun p hp => (hP.2.2.1 p hp).1) hrs hfo) 20 1 F [] op qu rs wk fo (by decide) (by decide) (fd_P1_0 hDF hpos) hrs (fd_AL_nil fo)
/-- degree 2, leading coefficient t -/
theorem xs_takeQuad {post : SX → Prop} {he : Nat → Int32} {re op qu rs wk fo : Nat → Int64} {F f : Nat → Int} {L1 L : List (Nat → Int)} {t : Int} (hF : fd_H F) (hp : fd_pr F) (ht : 1 ≤ t) (ht2 : t ≤ 20) (hP : ∃ L2, L = L1 ++ L2 ∧ fd_P2 F f L1 L2 t (-98) (-20)) (hrs : fd_R rs f) (hfo : fd_AL fo L)
    (H : ∀ f L op qu rs wk fo, (∃ L2, L = L1 ++ L2 ∧ fd_P2 F f L1 L2 (t + 1) (-98) (-20)) → fd_R rs f → fd_AL fo L → post (nI L.length, he, re, op, qu, rs, wk, fo)) : wpX_takeFactors post (nI L.length, he, re, op, qu, rs, wk, fo) (fd_i t) (-98) 98 := by
  refine br_f (fun z => ?_) ⟨197 + 1, ?_⟩
  · have := (fd_i_eq (b := 0) (fd_k_lit (by omega)) (fd_k_lit (by decide))).mp z
    omega
  · exact xs_take14 (t := t) (m0 := -98) (m1 := 98) (d := 2) hF (by decide) (Nat.le_refl 2) (by decide) (by decide) (fun m l h1 h2 => fd_q_D2 m l (by omega)) (by omega) (fun m l f L => ∃ L2, L = L1 ++ L2 ∧ fd_P2 F f L1 L2 t m l) (fun m l f L h => by obtain ⟨L2, e, h⟩ := h; rw [e]; exact h.1)
      (fun m l f f' L h1 h2 h hf' e => by obtain ⟨L2, e2, h⟩ := h; exact ⟨L2 ++ [fd_q t m l], by rw [e2, List.append_assoc], fd_P2_take hF hp h ht hf' e⟩)
      (fun m l f L h hn => by obtain ⟨L2, e2, h⟩ := h; exact ⟨L2, e2, fd_P2_next h hn⟩)
      (fun m f L h => by obtain ⟨L2, e2, h⟩ := h; exact ⟨L2, e2, fd_P2_row h⟩)
      (fun f L op qu rs wk fo hP hrs hfo => H f L op qu rs wk fo (by obtain ⟨L2, e2, h⟩ := hP; exact ⟨L2, e2, fd_P2_top h⟩) hrs hfo) 197 (-98) f L op qu rs wk fo (by decide) (by decide) hP hrs hfo
/-- what the search gives -/
def fd_Fac (f : Nat → Int) (L : List (Nat → Int)) : Prop := (∀ p ∈ L, fd_Irr p) ∧ List.Pairwise fd_le L ∧ L.length ≤ 5 ∧ (f = fd_z → L = []) ∧ (f ≠ fd_z → ∃ c, c ≠ 0 ∧ f = fd_sm c (fd_prod L))
theorem fd_Fac_u {f : Nat → Int} {L L' : List (Nat → Int)} (h : fd_Fac f L) (h' : fd_Fac f L') : L = L' := by
  by_cases hz : f = fd_z
  · rw [h.2.2.2.1 hz, h'.2.2.2.1 hz]
  · obtain ⟨c, hc, e⟩ := h.2.2.2.2 hz
    obtain ⟨c', hc', e'⟩ := h'.2.2.2.2 hz
    exact fd_uniq L L' c c' hc hc' h.1 h'.1 h.2.1 h'.2.1 (by rw [← e, ← e'])
theorem fd_Fac_mk {f F : Nat → Int} {L : List (Nat → Int)} {k : Int} (hk : k ≠ 0) (e : f = fd_sm k F) (hF : fd_H F) (hI : ∀ p ∈ L, fd_Irr p) (hs : List.Pairwise fd_le L) (hp : fd_prod L = F) : fd_Fac f L := by
  have hfz : f ≠ fd_z := by
    intro z
    obtain ⟨d, hd⟩ := fd_D_ex (fd_L_F hF.2.1) hF.2.2
    rw [e] at z
    exact fd_D_nz (fd_D_sm hk hd) z
  refine ⟨hI, hs, ?_, fun z => absurd z hfz, fun _ => ⟨k, hk, by rw [hp]; exact e⟩⟩
  obtain ⟨s, h1, _, h3⟩ := fd_prod_D L hI
  rw [hp] at h1
  have := fd_D_le h1 hF.2.1
  omega
theorem xs_find43 {post : SX → Prop} {he : Nat → Int32} {re : Nat → Int64} {F : Nat → Int} {L1 : List (Nat → Int)} (hF : fd_H F) (hp : fd_pr F) (hL1 : ∀ p ∈ L1, fd_D p 1) (hs1 : List.Pairwise fd_le L1)
    (H : ∀ L op qu rs wk fo, (∀ p ∈ L, fd_Irr p) → List.Pairwise fd_le L → fd_prod L = F → fd_AL fo L → post (nI L.length, he, re, op, qu, rs, wk, fo)) :
    ∀ (k : Nat) (t : Int) (f : Nat → Int) (L : List (Nat → Int)) (op qu rs wk fo : Nat → Int64), k ≤ 20 → t = 21 - (k : Int) → (∃ L2, L = L1 ++ L2 ∧ fd_P2 F f L1 L2 t (-98) (-20)) → fd_R rs f → fd_AL fo L → wX_findFactors_43 post (k + 1) (fd_i t) (nI L.length) he re op qu rs wk fo := by
  intro k
  induction k with
  | zero =>
    intro t f L op qu rs wk fo hk ht hP hrs hfo
    have e : t = 21 := by omega
    subst e
    obtain ⟨L2, eL, hP⟩ := hP
    have hst : fd_St F f L := by rw [eL]; exact hP.1
    refine br_t ((fd_i_lt (a := 20) (b := 21) (fd_k_lit (by decide)) (fd_k_lit (by decide))).mpr (by decide)) (xs_deg_rest hrs (fd_St_B hF hst) (by decide) (fd_St_L5 hF.2.1 hst) (fun z => absurd z (fd_St_nz hst)) (fun d hd hD => ?_))
    have hI2 : ∀ p ∈ L2, fd_Irr p := fun p hpm => hP.1.2.1 p (List.mem_append.mpr (Or.inr hpm))
    have hsort : List.Pairwise fd_le L := by rw [eL]; exact fd_sort12 hs1 hP.2.2.2.1 hL1 hP.2.2.1 hI2
    by_cases hd0 : d = 0
    · subst hd0
      exact br_t (nI_le (a := 0) (b := 0) (Nat.le_refl 0) (by decide)) (H L op qu rs wk fo hst.2.1 hsort (fd_fin0 hp hst hD) hfo)
    · obtain ⟨g1, g2, g3⟩ := fd_fin1 hF hp hst hP.2.1 hD (by omega) (fun h4 => fd_P2_end hF hP hD h4)
      have hlen := fd_St_len hF.2.1 hst hD
      refine br_f (nI_nle (by omega) (by omega)) (xs_addFound_rest (by omega) (fun fo1 h1 h2 => ?_))
      dsimp only
      have hh := H (L ++ [f]) op qu rs wk fo1 (fun p hpm => ?_) (fd_sort3 hsort (by rw [eL]; exact fd_P2_le hP hL1 hD g2)) g3 (fd_AL_snoc hfo h1 h2 hrs)
      · rw [List.length_append, List.length_singleton] at hh
        exact hh
      · rcases List.mem_append.mp hpm with h | h
        · exact hst.2.1 p h
        · rw [List.mem_singleton.mp h]; exact g1
  | succ k ih =>
    intro t f L op qu rs wk fo hk ht hP hrs hfo
    obtain ⟨L2, eL, hP2⟩ := id hP
    have hst : fd_St F f L := by rw [eL]; exact hP2.1
    have htk : fd_k t := fd_k_lit (by omega)
    have hts : fd_s t := fd_s_lit (by omega)
    refine br_f (fun z => ?_) (xs_deg_rest hrs (fd_St_B hF hst) (by decide) (fd_St_L5 hF.2.1 hst) (fun z => absurd z (fd_St_nz hst)) (fun d hd hD => ?_))
    · have := (fd_i_lt (a := 20) (b := t) (fd_k_lit (by decide)) htk).mp z
      omega
    · by_cases hd3 : d ≤ 3
      · exact br_t (nI_le (b := 3) hd3 (by decide)) (nm_r (fd_i_1 t) (ih (t + 1) f L op qu rs wk fo (by omega) (by omega) ⟨L2, eL, fd_P2_low hD hd3 _ _ _ hP2⟩ hrs hfo))
      · refine br_f (nI_ge (a := 3) (by omega) (by omega)) (xs_leadOf_rest hrs (fd_St_B hF hst) (by decide) (fd_St_L5 hF.2.1 hst) (fun z => absurd z (fd_St_nz hst)) (fun d' hd' hD' => ?_))
        have e := fd_D_u hD' hD
        subst e
        have hfs : fd_s (f d') := fd_s_of (fd_St_B hF hst d') (by decide)
        rw [fd_i_l htk]
        refine ⟨fun z => ?_, br_c (fun z => ?_) (fun z => ?_)⟩
        · have := (fd_l_z hts).mp z
          omega
        · refine xs_takeQuad hF hp (by omega) (by omega) hP hrs hfo (fun f L op qu rs wk fo hP hrs hfo => ?_)
          dsimp only
          exact nm_r (fd_i_1 t) (ih (t + 1) f L op qu rs wk fo (by omega) (by omega) hP hrs hfo)
        · refine nm_r (fd_i_1 t) (ih (t + 1) f L op qu rs wk fo (by omega) (by omega) ⟨L2, eL, fd_P2_skip hD (by omega) (fun hdv => z ((fd_l_rem0 hfs hts).mpr hdv)) hP2⟩ hrs hfo)
/-- the polynomial of a register -/
def fd_reg (he : Nat → Int32) (r : Nat) : Nat → Int := fun i => if i < 6 then (he (r * 6 + i)).toInt else 0
def fd_ok (he : Nat → Int32) : Prop := ∀ j, j < 24 → -20 ≤ (he j).toInt ∧ (he j).toInt ≤ 20
theorem fd_reg_H0 {he : Nat → Int32} {r : Nat} (h : fd_ok he) (hr : r < 4) : fd_H0 (fd_reg he r) := by
  refine ⟨fun i => ?_, fun j hj => ?_⟩
  · simp only [fd_reg]
    by_cases hi : i < 6
    · rw [if_pos hi]; exact h _ (by omega)
    · rw [if_neg hi]; omega
  · simp only [fd_reg]; rw [if_neg (by omega)]
theorem fd_reg_R {he : Nat → Int32} {r : Nat} {t : Nat → Int64} (h : ∀ i, i < 6 → t i = (he (r * 6 + i)).toInt64) : fd_R t (fd_reg he r) := fun i hi => by
  rw [h i hi, fd_of32]; simp only [fd_reg]; rw [if_pos hi]
theorem xs_findFactors {post : SX → Prop} {fc : Int32} {he : Nat → Int32} {re op qu rs wk fo : Nat → Int64} {r : Nat} (hr : r < 4) (hok : fd_ok he)
    (H : ∀ L op qu rs wk fo, fd_Fac (fd_reg he r) L → fd_AL fo L → post (nI L.length, he, re, op, qu, rs, wk, fo)) : wpX_findFactors post (fc, he, re, op, qu, rs, wk, fo) (nI r) := by
  unfold wpX_findFactors
  dsimp only
  refine xs_load_rest hr (fun rs1 hrs1 => ?_)
  dsimp only
  have h0 := fd_reg_H0 hok hr
  refine xs_makePrimitive_rest (fd_reg_R hrs1) h0 (fun hz => ?_) (fun rs2 F k d hrs2 hk e hF hp hD hpos => ?_)
  · dsimp only
    refine xs_deg_rest (fd_reg_R hrs1) (fd_H0_B h0) (by decide) h0.2 (fun _ => ?_) (fun d hd hD => absurd hz (fd_D_nz hD))
    exact br_f (by decide) (H [] op qu rs1 wk fo ⟨fun p hpm => absurd hpm List.not_mem_nil, List.Pairwise.nil, Nat.zero_le _, fun _ => rfl, fun hn => absurd hz hn⟩ (fd_AL_nil fo))
  · dsimp only
    have hB : fd_B F 20 := fun i => by have := hF.1 i; omega
    refine xs_deg_rest hrs2 hB (by decide) hF.2.1 (fun z => absurd z hF.2.2) (fun d' hd' hD' => ?_)
    have e2 := fd_D_u hD' hD
    subst e2
    by_cases hd1 : 1 ≤ d'
    · refine br_t (nI_le (a := 1) hd1 (by omega)) (xs_takeLin hF hp hD hpos hrs2 (fun f L op qu rs wk fo hst hlf hsL hL1 hrs hfo => ⟨20 + 1, ?_⟩))
      exact xs_find43 hF hp hL1 hsL (fun L op qu rs wk fo hI hs hprod hfo => H L op qu rs wk fo (fd_Fac_mk hk e hF hI hs hprod) hfo) 20 1 f L op qu rs wk fo (Nat.le_refl 20) (by decide) ⟨[], by rw [List.append_nil], fd_P2_0 hst hlf⟩ hrs hfo
    · have hd0 : d' = 0 := by omega
      subst hd0
      have hst : fd_St F F [] := ⟨by rw [fd_prod, fd_1_mul], fun p hp => absurd hp (List.not_mem_nil), 0, hD, hpos⟩
      exact br_f (nI_ge (a := 0) (b := 1) (by decide) (by decide)) (H [] op qu rs2 wk fo (fd_Fac_mk hk e hF (fun p hpm => absurd hpm List.not_mem_nil) List.Pairwise.nil (fd_fin0 hp hst hD)) (fd_AL_nil fo))
end
section
/-! the simple loops of the reference -/
theorem fd_ixZ (r i : Nat) : 6 * nI r + nI i = nI (r * 6 + i) := by rw [fd_ixY, Nat.mul_comm]
/-- a loop that looks up from 0 and keeps the last index where z fails -/
theorem fd_scan (W : Nat → Int32 → Int32 → Prop) (z : Nat → Prop) (N : Nat) (x0 : Int32)
    (hx0 : (∀ j, j < N → z j) → ∀ n, W (n + 1) x0 (nI N))
    (hx1 : ∀ d, d < N → ¬ z d → (∀ j, d < j → j < N → z j) → ∀ n, W (n + 1) (nI d) (nI N))
    (hs0 : ∀ n i x, i < N → z i → W n x (nI (i + 1)) → W (n + 1) x (nI i))
    (hs1 : ∀ n i x, i < N → ¬ z i → W n (nI i) (nI (i + 1)) → W (n + 1) x (nI i)) : ∃ n, W n x0 (nI 0) := by
  have key : ∀ k i x, i + k = N → ((∀ j, j < i → z j) ∧ x = x0 ∨ ∃ d, d < i ∧ ¬ z d ∧ (∀ j, d < j → j < i → z j) ∧ x = nI d) → W (k + 1) x (nI i) := by
    intro k
    induction k with
    | zero =>
      intro i x hi h
      have e : i = N := by omega
      subst e
      rcases h with ⟨h1, h2⟩ | ⟨d, h1, h2, h3, h4⟩
      · rw [h2]; exact hx0 h1 0
      · rw [h4]; exact hx1 d h1 h2 h3 0
    | succ k ih =>
      intro i x hi h
      by_cases hz : z i
      · refine hs0 (k + 1) i x (by omega) hz (ih (i + 1) x (by omega) ?_)
        rcases h with ⟨h1, h2⟩ | ⟨d, h1, h2, h3, h4⟩
        · left
          refine ⟨fun j hj => ?_, h2⟩
          by_cases e : j = i
          · rw [e]; exact hz
          · exact h1 j (by omega)
        · right
          refine ⟨d, by omega, h2, fun j h5 h6 => ?_, h4⟩
          by_cases e : j = i
          · rw [e]; exact hz
          · exact h3 j h5 (by omega)
      · exact hs1 (k + 1) i x (by omega) hz (ih (i + 1) (nI i) (by omega) (Or.inr ⟨i, by omega, hz, fun j h5 h6 => absurd h5 (by omega), rfl⟩))
  exact ⟨_, key N 0 x0 (by omega) (Or.inl ⟨fun j hj => absurd hj (Nat.not_lt_zero j), rfl⟩)⟩
/-- two arrays filled at once -/
theorem fd_fill2 (W : Nat → Int32 → (Nat → Int64) → (Nat → Int64) → Prop) (N : Nat) (g g' a0 b0 : Nat → Int64)
    (hx : ∀ n a b, (∀ j, j < N → a j = g j) → (∀ j, j < N → b j = g' j) → W (n + 1) (nI N) a b)
    (hs : ∀ n i a b, i < N → W n (nI (i + 1)) (vp_updL a i (g i)) (vp_updL b i (g' i)) → W (n + 1) (nI i) a b) : ∃ n, W n (nI 0) a0 b0 := by
  have key : ∀ k i a b, i + k = N → (∀ j, j < i → a j = g j) → (∀ j, j < i → b j = g' j) → W (k + 1) (nI i) a b := by
    intro k
    induction k with
    | zero =>
      intro i a b hi h1 h2
      have e : i = N := by omega
      subst e
      exact hx 0 a b h1 h2
    | succ k ih =>
      intro i a b hi h1 h2
      refine hs (k + 1) i a b (by omega) (ih (i + 1) _ _ (by omega) (fun j hj => ?_) (fun j hj => ?_))
      · by_cases e : j = i
        · subst e; exact fd_uLs
        · rw [fd_uLn (by omega)]; exact h1 j (by omega)
      · by_cases e : j = i
        · subst e; exact fd_uLs
        · rw [fd_uLn (by omega)]; exact h2 j (by omega)
  exact ⟨N + 1, key N 0 a0 b0 (by omega) (fun j hj => absurd hj (Nat.not_lt_zero j)) (fun j hj => absurd hj (Nat.not_lt_zero j))⟩
section
variable {cn ot : Int32} {rg : Nat → Int32} {md wh td yr yq pt kp : Nat → Int64} {dg : Nat → Int32}
theorem ys_isRegister {post : Int32 → Prop} {r : Nat} (hr : r < 4) (H : post 1) : wpY_isRegister post (cn, ot, rg, md, wh, td, yr, yq, pt, kp, dg) (nI r) :=
  br_f (nI_pos (by omega)) (br_f (nI_nlt (a := 3) (b := r) (by omega) (by omega)) H)
theorem ys_clearMade {post : SY → Prop} (H : ∀ t, (∀ i, i < 11 → t i = 0) → post (cn, ot, rg, t, wh, td, yr, yq, pt, kp, dg)) : wpY_clearMade post (cn, ot, rg, md, wh, td, yr, yq, pt, kp, dg) := by
  refine fd_fill (fun n x t => wY_clearMade_2 post cn ot n x rg t wh td yr yq pt kp dg) 11 0 (fun _ => 0) md (fun n t h1 _ => ?_) (fun n i t hi _ hW => ?_)
  · exact br_t (nI_le (Nat.le_refl 11) (by decide)) (H t (fun i hi => by have := h1 i hi; rwa [Nat.zero_add] at this))
  · exact br_f (nI_ge (b := 11) hi (by decide)) ⟨vp_in_nI hi (by decide), nm_r (by rw [nI_clamp (by omega), Nat.zero_add]) (nm_r (nI_1 i) hW)⟩
theorem ys_take {post : SY → Prop} {r : Nat} (hr : r < 4) (H : ∀ t, (∀ i, i < 6 → t i = (rg (r * 6 + i)).toInt64) → post (cn, ot, rg, md, t, td, yr, yq, pt, kp, dg)) : wpY_take post (cn, ot, rg, md, wh, td, yr, yq, pt, kp, dg) (nI r) := by
  refine fd_fill (fun n x t => wY_take_2 post (nI r) cn ot n x rg md t td yr yq pt kp dg) 6 0 (fun i => (rg (r * 6 + i)).toInt64) wh (fun n t h1 _ => ?_) (fun n i t hi _ hW => ?_)
  · exact br_t (nI_le (Nat.le_refl 6) (by decide)) (H t (fun i hi => by have := h1 i hi; rwa [Nat.zero_add] at this))
  · exact br_f (nI_ge (b := 6) hi (by decide)) ⟨by rw [fd_ixZ]; exact vp_in_nI (by omega) (by decide), vp_in_nI hi (by decide), nm_r (by rw [fd_ixZ, nI_clamp (by omega), nI_clamp (by omega), Nat.zero_add]) (nm_r (nI_1 i) hW)⟩
theorem ys_degreeOfWhole {post : Int32 → Prop} (H0 : (∀ i, i < 6 → wh i = 0) → post (-1)) (H1 : ∀ d, d < 6 → wh d ≠ 0 → (∀ j, d < j → j < 6 → wh j = 0) → post (nI d)) : wpY_degreeOfWhole post (cn, ot, rg, md, wh, td, yr, yq, pt, kp, dg) := by
  refine fd_scan (fun n x y => wY_degreeOfWhole_4 post cn ot rg md wh td yr yq pt kp dg n x y) (fun j => wh j = 0) 6 (-1) (fun h n => ?_) (fun d hd h1 h2 n => ?_) (fun n i x hi hz hW => ?_) (fun n i x hi hz hW => ?_)
  · exact br_t (nI_le (Nat.le_refl 6) (by decide)) (H0 h)
  · exact br_t (nI_le (Nat.le_refl 6) (by decide)) (H1 d hd h1 h2)
  · exact br_f (nI_ge (b := 6) hi (by decide)) ⟨vp_in_nI hi (by decide), br_t (by rw [nI_clamp (by omega)]; exact hz) (nm_r (nI_1 i) hW)⟩
  · exact br_f (nI_ge (b := 6) hi (by decide)) ⟨vp_in_nI hi (by decide), br_f (by rw [nI_clamp (by omega)]; exact hz) (nm_r (nI_1 i) hW)⟩
theorem ys_topModulo {post : Int32 → Prop} (H0 : (∀ i, i < 6 → wh i = 0) → post (-1)) (H1 : ∀ d, d < 6 → wh d ≠ 0 → (∀ j, d < j → j < 6 → wh j = 0) → post (nI d)) : wpY_topModulo post (cn, ot, rg, md, wh, td, yr, yq, pt, kp, dg) := by
  refine fd_scan (fun n x y => wY_topModulo_4 post cn ot rg md wh td yr yq pt kp dg n x y) (fun j => wh j = 0) 6 (-1) (fun h n => ?_) (fun d hd h1 h2 n => ?_) (fun n i x hi hz hW => ?_) (fun n i x hi hz hW => ?_)
  · exact br_t (nI_le (Nat.le_refl 6) (by decide)) (H0 h)
  · exact br_t (nI_le (Nat.le_refl 6) (by decide)) (H1 d hd h1 h2)
  · exact br_f (nI_ge (b := 6) hi (by decide)) ⟨vp_in_nI hi (by decide), br_t (by rw [nI_clamp (by omega)]; exact hz) (nm_r (nI_1 i) hW)⟩
  · exact br_f (nI_ge (b := 6) hi (by decide)) ⟨vp_in_nI hi (by decide), br_f (by rw [nI_clamp (by omega)]; exact hz) (nm_r (nI_1 i) hW)⟩
theorem ys_degreeOfPart {post : Int32 → Prop} {k : Nat} (hk : k < 6) (H0 : (∀ i, i < 6 → pt (k * 6 + i) = 0) → post 0) (H1 : ∀ d, d < 6 → pt (k * 6 + d) ≠ 0 → (∀ j, d < j → j < 6 → pt (k * 6 + j) = 0) → post (nI d)) : wpY_degreeOfPart post (cn, ot, rg, md, wh, td, yr, yq, pt, kp, dg) (nI k) := by
  refine fd_scan (fun n x y => wY_degreeOfPart_4 post (nI k) cn ot rg md wh td yr yq pt kp dg n x y) (fun j => pt (k * 6 + j) = 0) 6 0 (fun h n => ?_) (fun d hd h1 h2 n => ?_) (fun n i x hi hz hW => ?_) (fun n i x hi hz hW => ?_)
  · exact br_t (nI_le (Nat.le_refl 6) (by decide)) (H0 h)
  · exact br_t (nI_le (Nat.le_refl 6) (by decide)) (H1 d hd h1 h2)
  · exact br_f (nI_ge (b := 6) hi (by decide)) ⟨by rw [fd_ixZ]; exact vp_in_nI (by omega) (by decide), br_t (by rw [fd_ixZ, nI_clamp (by omega)]; exact hz) (nm_r (nI_1 i) hW)⟩
  · exact br_f (nI_ge (b := 6) hi (by decide)) ⟨by rw [fd_ixZ]; exact vp_in_nI (by omega) (by decide), br_f (by rw [fd_ixZ, nI_clamp (by omega)]; exact hz) (nm_r (nI_1 i) hW)⟩
theorem ys_degreeR {post : Int32 → Prop} {r : Nat} (hr : r < 4) (H0 : (∀ i, i < 6 → rg (r * 6 + i) = 0) → post (-1)) (H1 : ∀ d, d < 6 → rg (r * 6 + d) ≠ 0 → (∀ j, d < j → j < 6 → rg (r * 6 + j) = 0) → post (nI d)) : wpY_degree post (cn, ot, rg, md, wh, td, yr, yq, pt, kp, dg) (nI r) := by
  unfold wpY_degree
  dsimp only
  refine ys_isRegister hr (br_f (by decide) ?_)
  refine fd_scan (fun n x y => wY_degree_16 post (nI r) cn ot rg md wh td yr yq pt kp dg n x y) (fun j => rg (r * 6 + j) = 0) 6 (-1) (fun h n => ?_) (fun d hd h1 h2 n => ?_) (fun n i x hi hz hW => ?_) (fun n i x hi hz hW => ?_)
  · exact br_t (nI_le (Nat.le_refl 6) (by decide)) (H0 h)
  · exact br_t (nI_le (Nat.le_refl 6) (by decide)) (H1 d hd h1 h2)
  · exact br_f (nI_ge (b := 6) hi (by decide)) ⟨by rw [fd_ixZ]; exact vp_in_nI (by omega) (by decide), br_t (by rw [fd_ixZ, nI_clamp (by omega)]; exact hz) (nm_r (nI_1 i) hW)⟩
  · exact br_f (nI_ge (b := 6) hi (by decide)) ⟨by rw [fd_ixZ]; exact vp_in_nI (by omega) (by decide), br_f (by rw [fd_ixZ, nI_clamp (by omega)]; exact hz) (nm_r (nI_1 i) hW)⟩
theorem fd_i0 (x : Int32) : x = 0 ↔ x.toInt = 0 := by
  constructor
  · intro h; rw [h]; rfl
  · intro h; exact Int32.toInt_inj.mp (by rw [h]; rfl)
theorem ys_degree {post : Int32 → Prop} {r : Nat} (hr : r < 4) (H0 : fd_reg rg r = fd_z → post (-1)) (H1 : ∀ d, d < 6 → fd_D (fd_reg rg r) d → post (nI d)) : wpY_degree post (cn, ot, rg, md, wh, td, yr, yq, pt, kp, dg) (nI r) := by
  refine ys_degreeR hr (fun h => H0 (funext fun i => ?_)) (fun d hd h1 h2 => H1 d hd ⟨?_, fun j hj => ?_⟩)
  · simp only [fd_reg, fd_z]
    by_cases hi : i < 6
    · rw [if_pos hi]; exact (fd_i0 _).mp (h i hi)
    · rw [if_neg hi]
  · simp only [fd_reg]; rw [if_pos hd]; exact fun z => h1 ((fd_i0 _).mpr z)
  · simp only [fd_reg]
    by_cases hj6 : j < 6
    · rw [if_pos hj6]; exact (fd_i0 _).mp (h2 j hj hj6)
    · rw [if_neg hj6]
theorem ys_deg {post : Int32 → Prop} {f : Nat → Int} {M : Nat} (hR : fd_R wh f) (hB : fd_B f M) (hM : M ≤ 4611686018427387904) (hL : fd_L f 5) (H0 : f = fd_z → post (-1)) (H1 : ∀ d, d < 6 → fd_D f d → post (nI d)) : wpY_degreeOfWhole post (cn, ot, rg, md, wh, td, yr, yq, pt, kp, dg) := by
  refine ys_degreeOfWhole (fun h => H0 (funext fun i => ?_)) (fun d hd h1 h2 => H1 d hd ⟨fun e => h1 ((fd_R0 hR hB hM hd).mpr e), fun j hj => ?_⟩)
  · by_cases hi : i < 6
    · exact (fd_R0 hR hB hM hi).mp (h i hi)
    · exact hL i (by omega)
  · by_cases hj6 : j < 6
    · exact (fd_R0 hR hB hM hj6).mp (h2 j hj hj6)
    · exact hL j (by omega)
theorem ys_top {post : Int32 → Prop} {f : Nat → Int} {M : Nat} (hR : fd_R wh f) (hB : fd_B f M) (hM : M ≤ 4611686018427387904) (hL : fd_L f 5) (H0 : f = fd_z → post (-1)) (H1 : ∀ d, d < 6 → fd_D f d → post (nI d)) : wpY_topModulo post (cn, ot, rg, md, wh, td, yr, yq, pt, kp, dg) := by
  refine ys_topModulo (fun h => H0 (funext fun i => ?_)) (fun d hd h1 h2 => H1 d hd ⟨fun e => h1 ((fd_R0 hR hB hM hd).mpr e), fun j hj => ?_⟩)
  · by_cases hi : i < 6
    · exact (fd_R0 hR hB hM hi).mp (h i hi)
    · exact hL i (by omega)
  · by_cases hj6 : j < 6
    · exact (fd_R0 hR hB hM hj6).mp (h2 j hj hj6)
    · exact hL j (by omega)
theorem ys_addPart {post : SY → Prop} {c : Nat} (hc : c < 6) (H : ∀ t, (∀ i, i < 6 → t (c * 6 + i) = td i) → (∀ j, j < c * 6 → t j = pt j) → post (nI (c + 1), ot, rg, md, wh, td, yr, yq, t, kp, dg)) : wpY_addPart post (nI c, ot, rg, md, wh, td, yr, yq, pt, kp, dg) := by
  refine fd_fill (fun n x t => wY_addPart_2 post (nI c) ot n x rg md wh td yr yq t kp dg) 6 (c * 6) td pt (fun n t h1 h2 => ?_) (fun n i t hi _ hW => ?_)
  · exact br_t (nI_le (Nat.le_refl 6) (by decide)) (nm_r (nI_1 c) (H t h1 (fun j hj => h2 j (Or.inl hj))))
  · exact br_f (nI_ge (b := 6) hi (by decide)) ⟨vp_in_nI hi (by decide), by rw [fd_ixZ]; exact vp_in_nI (by omega) (by decide), nm_r (by rw [fd_ixZ, nI_clamp (by omega), nI_clamp (by omega)]) (nm_r (nI_1 i) hW)⟩
theorem ys_give {post : SY → Prop} {t m l : Int} (H : ∀ t', fd_R t' (fd_q t m l) → post (cn, ot, rg, md, wh, t', yr, yq, pt, kp, dg)) : wpY_give post (cn, ot, rg, md, wh, td, yr, yq, pt, kp, dg) (fd_l l) (fd_l m) (fd_l t) := by
  unfold wpY_give
  dsimp only
  intro a0 e0 a1 e1 a2 e2 a3 e3 a4 e4 a5 e5
  refine H a5 (fun i hi => ?_)
  subst e5 e4 e3 e2 e1 e0
  match i, hi with
  | 0, _ => rw [fd_uLn (by decide), fd_uLn (by decide), fd_uLn (by decide), fd_uLn (by decide), fd_uLn (by decide), fd_uLs]; rfl
  | 1, _ => rw [fd_uLn (by decide), fd_uLn (by decide), fd_uLn (by decide), fd_uLn (by decide), fd_uLs]; rfl
  | 2, _ => rw [fd_uLn (by decide), fd_uLn (by decide), fd_uLn (by decide), fd_uLs]; rfl
  | 3, _ => rw [fd_uLn (by decide), fd_uLn (by decide), fd_uLs]; exact fd_l_0.symm
  | 4, _ => rw [fd_uLn (by decide), fd_uLs]; exact fd_l_0.symm
  | 5, _ => rw [fd_uLs]; exact fd_l_0.symm
end
end
section
/-! the reference's division -/
section
variable {cn ot : Int32} {rg : Nat → Int32} {md wh td yr yq pt kp : Nat → Int64} {dg : Nat → Int32}
theorem ys_div153 {post : Int32 → SY → Prop} {w : Nat → Int} (hR : fd_R yr w) (hB : fd_B w 4611686018427387904) (hL : fd_L w 5) (H1 : w = fd_z → post 1 (cn, ot, rg, md, wh, td, yr, yq, pt, kp, dg)) (H0 : w ≠ fd_z → post 0 (cn, ot, rg, md, wh, td, yr, yq, pt, kp, dg)) : ∃ n, wY_divides_153 post cn ot rg md wh td yr yq pt kp dg n 0 := by
  refine fd_upl (fun n x => wY_divides_153 post cn ot rg md wh td yr yq pt kp dg n x) (fun j => w j = 0) 6 (fun h n => ?_) (fun n i hi h hW => ?_)
  · refine br_t (nI_le (Nat.le_refl 6) (by decide)) (H1 (funext fun i => ?_))
    by_cases hi : i < 6
    · exact h i hi
    · exact hL i (by omega)
  · refine br_f (nI_ge (b := 6) hi (by decide)) ⟨vp_in_nI hi (by decide), ?_⟩
    rw [nI_clamp (by omega)]
    exact br_c (fun z => nm_r (nI_1 i) (hW ((fd_R0 hR hB (Nat.le_refl _) hi).mp z))) (fun z => H0 (fun e => z ((fd_R0 hR hB (Nat.le_refl _) hi).mpr (by rw [e]; rfl))))
theorem ys_div109 {post : Int32 → SY → Prop} {J : Int32 → (Nat → Int32) → (Nat → Int64) → (Nat → Int64) → (Nat → Int64) → (Nat → Int64) → (Nat → Int64) → (Nat → Int64) → (Nat → Int64) → (Nat → Int32) → Prop} {x3 x6 : Int64} {d s : Nat} (hd : s + d < 6) (H : ∀ t, (∀ j, j ≤ d → t (s + j) = yr (s + j) - x6 * td j) → (∀ j, (j < s ∨ s + d < j) → t j = yr j) → J (nI s + (-1)) rg md wh td t yq pt kp dg) : ∃ n, wY_divides_109 post J (nI d) x3 (nI s) x6 cn ot n 0 rg md wh td yr yq pt kp dg := by
  refine fd_fill (fun n x t => wY_divides_109 post J (nI d) x3 (nI s) x6 cn ot n x rg md wh td t yq pt kp dg) (d + 1) s (fun j => yr (s + j) - x6 * td j) yr (fun n t h1 h2 => ?_) (fun n i t hi h2 hW => ?_)
  · exact br_t (nI_lt (by omega) (by omega)) (nm_e (H t (fun j hj => h1 j (by omega)) (fun j hj => h2 j (by omega))))
  · have e : nI s + nI i = nI (s + i) := nI_add s i
    refine br_f (nI_nlt (by omega) (by omega)) ⟨by rw [e]; exact vp_in_nI (by omega) (by decide), vp_in_nI (by omega) (by decide), by rw [e]; exact vp_in_nI (by omega) (by decide), nm_r ?_ (nm_r (nI_1 i) hW)⟩
    rw [e, nI_clamp (by omega), nI_clamp (by omega), h2 (s + i) (by omega)]
end
theorem fd_tdiv_dvd {a b : Int} : a.tdiv b * b = a ↔ b ∣ a := by
  constructor
  · intro h; exact ⟨a.tdiv b, by rw [Int.mul_comm]; exact h.symm⟩
  · intro h; exact Int.tdiv_mul_cancel h
theorem fd_tdiv_s {a b : Int} (h : fd_s a) : fd_s (a.tdiv b * b) := by
  have h1 : (a.tdiv b * b).natAbs ≤ a.natAbs := by
    rw [Int.natAbs_mul, Int.natAbs_tdiv]; exact Nat.div_mul_le_self _ _
  have h4 := h.1
  have h5 := h.2
  exact ⟨by omega, by omega⟩
theorem ys_div50 {post : Int32 → SY → Prop} {cn ot : Int32} {rg : Nat → Int32} {md wh td pt kp : Nat → Int64} {dg : Nat → Int32} {f g : Nat → Int} {d G : Nat} (hg : fd_D g d) (hd : d < 6) (htd : fd_R td g) (hG : fd_B g G) (hGs : G ≤ 4611686018427387904)
    (H1 : ∀ yr yq q, fd_R yq q → fd_L q 5 → fd_mul g q = f → post 1 (cn, ot, rg, md, wh, td, yr, yq, pt, kp, dg))
    (H0 : ¬ fd_dv g f → ∀ yr yq, ((∃ z, ¬ g d ∣ z) ∨ ∃ w q, fd_R yr w ∧ fd_DI f g w q d 0 ∧ fd_B w 4611686018427387904) → post 0 (cn, ot, rg, md, wh, td, yr, yq, pt, kp, dg)) :
    ∀ (s M : Nat) (x : Int32) (yr yq : Nat → Int64) (w q : Nat → Int), s + d ≤ 6 → (s = 0 → x < 0) → (s ≠ 0 → x = nI s + (-1)) → fd_R yr w → fd_R yq q → (∀ j, j < s → q j = 0) → fd_DI f g w q d s → fd_B w M → M * (1 + G) ^ s ≤ 4611686018427387904 → wY_divides_50 post (nI d) (fd_l (g d)) cn ot (s + 1) x rg md wh td yr yq pt kp dg := by
  intro s
  induction s with
  | zero =>
    intro M x yr yq w q hsd hx _ hT hq hq0 hDI hw hM
    have hM1 : fd_B w 4611686018427387904 := fun i => Nat.le_trans (hw i) (by simpa using hM)
    refine br_t (hx rfl) (ys_div153 hT hM1 (fun j hj => hDI.2.1 j (by omega)) (fun hz => ?_) (fun hz => ?_))
    · rw [hz] at hDI
      exact H1 yr yq q hq hDI.2.2 (fd_DI_0 hDI)
    · exact H0 (fd_DI_end hg hDI hz) yr yq (Or.inr ⟨w, q, hT, hDI, hM1⟩)
  | succ s ih =>
    intro M x yr yq w q hsd _ hx hT hq hq0 hDI hw hM
    rw [hx (by omega), fd_m1]
    have hM1 : M ≤ 4611686018427387904 := Nat.le_trans (Nat.le_mul_of_pos_right M (Nat.pow_pos (by omega))) hM
    have hG1 : fd_s (g d) := fd_s_of (hG d) hGs
    have e : nI s + nI d = nI (s + d) := nI_add s d
    have hl : ¬ fd_l (g d) = 0 := fun z => hg.1 ((fd_l_z hG1).mp z)
    have hw1 : fd_s (w (s + d)) := fd_s_of (hw _) hM1
    have eT : yr (nI s + nI d).toNatClampNeg = fd_l (w (s + d)) := by rw [e, nI_clamp (by omega), hT _ (by omega)]
    refine br_f (nI_pos (by omega)) ⟨by rw [e]; exact vp_in_nI (by omega) (by decide), br_f hl ⟨hl, ?_⟩⟩
    rw [eT]
    refine nm_r (fd_l_div hw1 hG1) ⟨by rw [e]; exact vp_in_nI (by omega) (by decide), ?_⟩
    have hiff : fd_l ((w (s + d)).tdiv (g d)) * fd_l (g d) = fd_l (w (s + d)) ↔ g d ∣ w (s + d) := by
      rw [fd_l_mul, fd_l_eq (fd_tdiv_s hw1) hw1]; exact fd_tdiv_dvd
    by_cases hdv : g d ∣ w (s + d)
    · refine br_t (hiff.mpr hdv) ⟨vp_in_nI (by omega) (by decide), ?_⟩
      have eq' : vp_updL yq (nI s).toNatClampNeg (fd_l ((w (s + d)).tdiv (g d))) = vp_updL yq s (fd_l (w (s + d) / g d)) := by
        rw [nI_clamp (by omega), Int.tdiv_eq_ediv_of_dvd hdv]
      refine nm_r eq' (ys_div109 (by omega) (fun t h1 h2 => ?_))
      have hx : (w (s + d) / g d).natAbs ≤ M := Nat.le_trans (fd_ediv_le hg.1 hdv) (hw _)
      have hDI' := fd_DI_step hg (by omega) hDI (hq0 s (by omega)) hdv
      have hRt : fd_R t (fd_ws w g (w (s + d) / g d) s) := by
        intro k hk
        simp only [fd_ws]
        by_cases hks : s ≤ k
        · rw [if_pos hks]
          by_cases hkd : k ≤ s + d
          · have h3 := h1 (k - s) (by omega)
            have e3 : s + (k - s) = k := by omega
            rw [e3, Int.tdiv_eq_ediv_of_dvd hdv, hT k hk, htd (k - s) (by omega), fd_l_mul, fd_l_sub] at h3
            exact h3
          · rw [h2 k (by omega), hT k hk, hg.2 (k - s) (by omega)]; simp
        · rw [if_neg hks, h2 k (by omega), hT k hk]; simp
      have hRq : fd_R (vp_updL yq s (fd_l (w (s + d) / g d))) (fd_qs q (w (s + d) / g d) s) := by
        intro k hk
        simp only [fd_qs]
        by_cases hks : k = s
        · rw [if_pos hks, hks, fd_uLs]
        · rw [if_neg hks, fd_uLn hks, hq k hk]
      have hq0' : ∀ j, j < s → fd_qs q (w (s + d) / g d) s j = 0 := fun j hj => by
        simp only [fd_qs]; rw [if_neg (by omega)]; exact hq0 j (by omega)
      refine ih (M * (1 + G)) _ _ _ _ _ (by omega) (fun h => ?_) (fun _ => rfl) hRt hRq hq0' hDI' (fd_ws_B hw hG hx) ?_
      · rw [h]; decide
      · rw [Nat.pow_succ] at hM
        rw [Nat.mul_assoc, Nat.mul_comm (1 + G)]; exact hM
    · exact br_f (fun z => hdv (hiff.mp z)) (H0 (fd_DI_no hg hDI hdv) yr yq (Or.inl ⟨_, hdv⟩))
theorem fd_neg_sub {a b : Nat} (ha : a < 6) (hb : b < 6) (h : a < b) : nI a - nI b < 0 := by
  have hk : ∀ (a b : Fin 6), a.val < b.val → nI a.val - nI b.val < 0 := by decide
  exact hk ⟨a, ha⟩ ⟨b, hb⟩ h
theorem fd_neg_sub1 {b : Nat} (hb : b < 6) : (-1 : Int32) - nI b < 0 := by
  have hk : ∀ (b : Fin 6), (-1 : Int32) - nI b.val < 0 := by decide
  exact hk ⟨b, hb⟩
theorem ys_divides {post : Int32 → SY → Prop} {cn ot : Int32} {rg : Nat → Int32} {md wh td yr yq pt kp : Nat → Int64} {dg : Nat → Int32} {f g : Nat → Int} {d G M : Nat} (hg : fd_D g d) (hd : d < 6) (htd : fd_R td g) (hG : fd_B g G) (hGs : G ≤ 4611686018427387904) (hf : fd_R wh f) (hL : fd_L f 5) (hB : fd_B f M) (hMs : M ≤ 4611686018427387904) (hM : ∀ e, fd_D f e → M * (1 + G) ^ (e + 1 - d) ≤ 4611686018427387904)
    (H1 : ∀ yr yq q, fd_R yq q → fd_L q 5 → fd_mul g q = f → post 1 (cn, ot, rg, md, wh, td, yr, yq, pt, kp, dg))
    (H0 : ¬ fd_dv g f → ∀ yr yq, ((∃ z, ¬ g d ∣ z) ∨ ∃ w q, fd_R yr w ∧ fd_DI f g w q d 0 ∧ fd_B w 4611686018427387904) → post 0 (cn, ot, rg, md, wh, td, yr, yq, pt, kp, dg)) : wpY_divides post (cn, ot, rg, md, wh, td, yr, yq, pt, kp, dg) (nI d) := by
  unfold wpY_divides
  dsimp only
  have go : ∀ (x2 : Int32) (s : Nat), s + d ≤ 6 → (s = 0 → x2 - nI d < 0) → (s ≠ 0 → x2 - nI d = nI s + (-1)) → (∀ j, s + d ≤ j → f j = 0) → M * (1 + G) ^ s ≤ 4611686018427387904 → ∃ n7, wY_divides_7 post (nI d) x2 cn ot n7 0 rg md wh td yr yq pt kp dg := by
    intro x2 s hsd hs0 hs1 hz hM
    refine fd_fill2 (fun n x a b => wY_divides_7 post (nI d) x2 cn ot n x rg md wh td a b pt kp dg) 6 wh (fun _ => 0) yr yq (fun n a b h1 h2 => ?_) (fun n i a b hi hW => ?_)
    · refine br_t (nI_le (Nat.le_refl 6) (by decide)) ⟨vp_in_nI hd (by decide), nm_r (e' := fd_l (g d)) (by rw [nI_clamp (by omega), htd d hd]) (nm_e ⟨s + 1, ?_⟩)⟩
      exact ys_div50 hg hd htd hG hGs H1 H0 s M _ a b f fd_z hsd hs0 hs1 (fun i hi => by rw [h1 i hi, hf i hi]) (fun i hi => by rw [h2 i hi]; exact fd_l_0.symm) (fun _ _ => rfl) (fd_DI_init hz) hB hM
    · exact br_f (nI_ge (b := 6) hi (by decide)) ⟨vp_in_nI hi (by decide), vp_in_nI hi (by decide), nm_r (by rw [nI_clamp (by omega)]) ⟨vp_in_nI hi (by decide), nm_r (by rw [nI_clamp (by omega)]) (nm_r (nI_1 i) hW)⟩⟩
  refine ys_deg hf hB hMs hL (fun hz => ?_) (fun e he hD => ?_)
  · exact go (-1) 0 (by omega) (fun _ => fd_neg_sub1 hd) (fun h => absurd rfl h) (fun j _ => by rw [hz]; rfl) (by simpa using hMs)
  · by_cases hed : e < d
    · exact go (nI e) 0 (by omega) (fun _ => fd_neg_sub he hd hed) (fun h => absurd rfl h) (fun j hj => hD.2 j (by omega)) (by simpa using hMs)
    · refine go (nI e) (e + 1 - d) (by omega) (fun h => absurd h (by omega)) (fun _ => ?_) (fun j hj => hD.2 j (by omega)) (hM e hD)
      have e6 : e + 1 - d = (e - d) + 1 := by omega
      rw [e6, fd_m1]; exact fd_isub (by omega)
/-! taking a divisor out as often as it goes -/
theorem ys_out29 {post : SY → Prop} {J : Int32 → Int32 → Int32 → (Nat → Int32) → (Nat → Int64) → (Nat → Int64) → (Nat → Int64) → (Nat → Int64) → (Nat → Int64) → (Nat → Int64) → (Nat → Int64) → (Nat → Int32) → Prop} {x1 x2 : Int32} {cn ot : Int32} {rg : Nat → Int32} {md wh td yr yq pt kp : Nat → Int64} {dg : Nat → Int32} (H : ∀ t, (∀ i, i < 6 → t i = yq i) → J (x2 + 1) cn ot rg md t td yr yq pt kp dg) : ∃ n, wY_takeOut_29 post J x1 x2 cn ot n 0 rg md wh td yr yq pt kp dg := by
  refine fd_fill (fun n x t => wY_takeOut_29 post J x1 x2 cn ot n x rg md t td yr yq pt kp dg) 6 0 yq wh (fun n t h1 _ => ?_) (fun n i t hi _ hW => ?_)
  · exact br_t (nI_le (Nat.le_refl 6) (by decide)) (nm_e (H t (fun i hi => by have := h1 i hi; rwa [Nat.zero_add] at this)))
  · exact br_f (nI_ge (b := 6) hi (by decide)) ⟨vp_in_nI hi (by decide), vp_in_nI hi (by decide), nm_r (by rw [nI_clamp (by omega), Nat.zero_add]) (nm_r (nI_1 i) hW)⟩
theorem fd_powY (d e : Nat) (hd : 1 ≤ d) (he : e ≤ 5) : 170000 * (1 + 100) ^ (e + 1 - d) ≤ 4611686018427387904 := by
  have h1 : (1 + 100) ^ (e + 1 - d) ≤ (1 + 100) ^ 5 := Nat.pow_le_pow_right (by decide) (by omega)
  exact Nat.le_trans (Nat.mul_le_mul_left _ h1) (by decide)
section
variable {post : SY → Prop} {ot : Int32} {rg : Nat → Int32} {md td kp : Nat → Int64} {dg : Nat → Int32} {F : Nat → Int} {t m l : Int} {d : Nat}
theorem ys_out2b (hF : fd_H F) (hd1 : 1 ≤ d) (hd2 : d ≤ 2) (hD : fd_D (fd_q t m l) d) (hB : fd_B (fd_q t m l) 100) (htd : fd_R td (fd_q t m l))
    {f : Nat → Int} {L : List (Nat → Int)} {wh pt : Nat → Int64} (hst : fd_St F f L) (hn : ¬ fd_dv (fd_q t m l) f) (hwh : fd_R wh f)
    (H : ∀ yr yq, post (nI L.length, ot, rg, md, wh, td, yr, yq, pt, kp, dg)) :
    ∀ (j k : Nat) (yr yq : Nat → Int64), k + j = 5 → wY_takeOut_2 post (nI d) (j + 1) (nI k) (nI L.length) ot rg md wh td yr yq pt kp dg := by
  intro j
  induction j with
  | zero =>
    intro k yr yq hk
    have e : k = 5 := by omega
    subst e
    exact br_t (nI_le (a := 5) (b := 5) (Nat.le_refl 5) (by decide)) (H yr yq)
  | succ j ih =>
    intro k yr yq hk
    have hL5 := fd_St_L5 hF.2.1 hst
    refine br_f (nI_ge (b := 5) (by omega) (by decide)) (ys_deg hwh (fd_St_B hF hst) (by decide) hL5 (fun z => absurd z (fd_St_nz hst)) (fun e he hDf => br_c (fun z => nm_r (nI_1 k) (ih (k + 1) yr yq (by omega))) (fun z => ?_)))
    refine ys_divides hD (by omega) htd hB (by decide) hwh hL5 (fd_St_B hF hst) (by decide) (fun e he => fd_powY d e hd1 (fd_D_le he hL5)) (fun yr1 yq1 q hq hqL e' => absurd ⟨q, fd_L_F hqL, e'⟩ hn) (fun _ yr1 yq1 _ => ?_)
    dsimp only
    exact br_t rfl (nm_r (nI_1 k) (ih (k + 1) yr1 yq1 (by omega)))
theorem ys_out2a (hF : fd_H F) (hd1 : 1 ≤ d) (hd2 : d ≤ 2) (hD : fd_D (fd_q t m l) d) (hB : fd_B (fd_q t m l) 100) (htd : fd_R td (fd_q t m l))
    (P : (Nat → Int) → List (Nat → Int) → Prop) (hSt : ∀ f L, P f L → fd_St F f L)
    (hT : ∀ f f' L, P f L → fd_F f' → fd_mul (fd_q t m l) f' = f → P f' (L ++ [fd_q t m l]))
    (H : ∀ f L wh yr yq pt, P f L → ¬ fd_dv (fd_q t m l) f → fd_R wh f → fd_AL pt L → post (nI L.length, ot, rg, md, wh, td, yr, yq, pt, kp, dg)) :
    ∀ (j k : Nat) (f : Nat → Int) (L : List (Nat → Int)) (wh yr yq pt : Nat → Int64), k + j = 5 → k ≤ L.length → P f L → fd_R wh f → fd_AL pt L → wY_takeOut_2 post (nI d) (j + 1) (nI k) (nI L.length) ot rg md wh td yr yq pt kp dg := by
  intro j
  induction j with
  | zero =>
    intro k f L wh yr yq pt hk hkL hP hwh hpt
    have hst := hSt f L hP
    have e : k = 5 := by omega
    subst e
    refine br_t (nI_le (a := 5) (b := 5) (Nat.le_refl 5) (by decide)) (H f L wh yr yq pt hP (fun hdv => ?_) hwh hpt)
    obtain ⟨_, _, e, hDf, _⟩ := id hst
    have h1 := fd_St_len hF.2.1 hst hDf
    obtain ⟨q, hq, eq'⟩ := hdv
    obtain ⟨a, b, ha, hb, hab⟩ := fd_D_split (fd_D_F hD) hq eq' hDf
    have := fd_D_u ha hD
    omega
  | succ j ih =>
    intro k f L wh yr yq pt hk hkL hP hwh hpt
    have hst := hSt f L hP
    have hL5 := fd_St_L5 hF.2.1 hst
    refine br_f (nI_ge (b := 5) (by omega) (by decide)) (ys_deg hwh (fd_St_B hF hst) (by decide) hL5 (fun z => absurd z (fd_St_nz hst)) (fun e he hDf => br_c (fun z => ?_) (fun z => ?_)))
    · have hlt : e < d := (nI_ltI (by omega) (by omega)).mp z
      have hn : ¬ fd_dv (fd_q t m l) f := fun hdv => by
        obtain ⟨q, hq, eq'⟩ := hdv
        obtain ⟨a, b, ha, hb, hab⟩ := fd_D_split (fd_D_F hD) hq eq' hDf
        have := fd_D_u ha hD
        omega
      exact nm_r (nI_1 k) (ys_out2b hF hd1 hd2 hD hB htd hst hn hwh (fun yr yq => H f L wh yr yq pt hP hn hwh hpt) j (k + 1) yr yq (by omega))
    · refine ys_divides hD (by omega) htd hB (by decide) hwh hL5 (fd_St_B hF hst) (by decide) (fun e he => fd_powY d e hd1 (fd_D_le he hL5)) (fun yr1 yq1 q hq hqL e' => ?_) (fun hn yr1 yq1 _ => ?_)
      · dsimp only
        have hlen : L.length < 5 := by
          have h1 := fd_St_len hF.2.1 hst hDf
          obtain ⟨a, b, ha, hb, hab⟩ := fd_D_split (fd_D_F hD) (fd_L_F hqL) e' hDf
          have := fd_D_u ha hD
          omega
        refine br_f (by decide) (ys_addPart (by omega) (fun pt1 h1 h2 => ?_))
        dsimp only
        refine ys_out29 (fun wh1 hwh1 => ?_)
        rw [nI_1 k]
        have := ih (k + 1) q (L ++ [fd_q t m l]) wh1 yr1 yq1 pt1 (by omega) (by rw [List.length_append, List.length_singleton]; omega) (hT f q L hP (fd_L_F hqL) e') (fun i hi => by rw [hwh1 i hi, hq i hi]) (fd_AL_snoc hpt h1 h2 htd)
        rw [List.length_append, List.length_singleton] at this
        exact this
      · dsimp only
        exact br_t rfl (nm_r (nI_1 k) (ys_out2b hF hd1 hd2 hD hB htd hst hn hwh (fun yr yq => H f L wh yr yq pt hP hn hwh hpt) j (k + 1) yr1 yq1 (by omega)))
theorem ys_takeOut (hF : fd_H F) (hd1 : 1 ≤ d) (hd2 : d ≤ 2) (hD : fd_D (fd_q t m l) d) (hB : fd_B (fd_q t m l) 100) (htd : fd_R td (fd_q t m l))
    (P : (Nat → Int) → List (Nat → Int) → Prop) (hSt : ∀ f L, P f L → fd_St F f L)
    (hT : ∀ f f' L, P f L → fd_F f' → fd_mul (fd_q t m l) f' = f → P f' (L ++ [fd_q t m l]))
    {f : Nat → Int} {L : List (Nat → Int)} {wh yr yq pt : Nat → Int64} (hP : P f L) (hwh : fd_R wh f) (hpt : fd_AL pt L)
    (H : ∀ f L wh yr yq pt, P f L → ¬ fd_dv (fd_q t m l) f → fd_R wh f → fd_AL pt L → post (nI L.length, ot, rg, md, wh, td, yr, yq, pt, kp, dg)) : wpY_takeOut post (nI L.length, ot, rg, md, wh, td, yr, yq, pt, kp, dg) (nI d) :=
  ⟨5 + 1, ys_out2a hF hd1 hd2 hD hB htd P hSt hT H 5 0 f L wh yr yq pt (by omega) (by omega) hP hwh hpt⟩
end
/-! values at a point -/
def fd_ev (f : Nat → Int) (x : Int) : Nat → Int → Int
  | 0, v => v
  | n + 1, v => fd_ev f x n (v * x + f n)
theorem ys_valueAt {post : Int64 → Prop} {cn ot : Int32} {rg : Nat → Int32} {md wh td yr yq pt kp : Nat → Int64} {dg : Nat → Int32} {f : Nat → Int} {x : Int} (hx : fd_k x) (hf : fd_R wh f) (H : post (fd_l (fd_ev f x 6 0))) : wpY_valueAt post (cn, ot, rg, md, wh, td, yr, yq, pt, kp, dg) (fd_i x) := by
  have key : ∀ (k : Nat) (v : Int), k ≤ 6 → post (fd_l (fd_ev f x k v)) → wY_valueAt_5 post (fd_i x) cn ot rg md wh td yr yq pt kp dg (k + 1) (fd_l v) (nI k + (-1)) := by
    intro k
    induction k with
    | zero => intro v _ h; exact br_t (by decide) h
    | succ k ih =>
      intro v hk h
      rw [fd_m1]
      refine br_f (nI_pos (by omega)) ⟨vp_in_nI (by omega) (by decide), nm_r (e' := fd_l (v * x + f k)) ?_ (nm_e (ih _ (by omega) h))⟩
      rw [nI_clamp (by omega), hf k (by omega), fd_i_l hx, fd_l_mul, fd_l_add]
  exact ⟨7, key 6 0 (Nat.le_refl 6) H⟩
theorem fd_ev_1 (f : Nat → Int) : fd_ev f 1 6 0 = f 0 + f 1 + f 2 + f 3 + f 4 + f 5 := by
  simp only [fd_ev]; omega
theorem fd_ev_m1 (f : Nat → Int) : fd_ev f (-1) 6 0 = f 0 - f 1 + f 2 - f 3 + f 4 - f 5 := by
  simp only [fd_ev]; omega
end
section
/-! the reference's content and its search for factors -/
theorem fd_cont_u {f : Nat → Int} {c c' : Nat} (h : fd_cont f c) (h' : fd_cont f c') : c = c' := by
  rcases Nat.lt_trichotomy c c' with h1 | h1 | h1
  · exact absurd h'.2.2.1 (h.2.2.2 c' h1 h'.2.1)
  · exact h1
  · exact absurd h.2.2.1 (h'.2.2.2 c h1 h.2.1)
section
variable {cn ot : Int32} {rg : Nat → Int32} {md wh td yr yq pt kp : Nat → Int64} {dg : Nat → Int32}
theorem ys_big42 {post : Int64 → Prop} {J4 : Int64 → Int32 → Prop} {x3 : Int32} : ∀ (k s g a : Nat), s + k = 100 → a + s ≤ 100 → g ≤ 1000 → J4 (fd_l (Nat.gcd g a : Nat)) (x3 + 1) → wY_bigCommon_42 post J4 x3 cn ot rg md wh td yr yq pt kp dg (k + 1) (fd_l (g : Int)) (fd_l (a : Int)) (nI s) := by
  intro k
  induction k with
  | zero =>
    intro s g a hs ha hg h
    have e : s = 100 := by omega
    have e2 : a = 0 := by omega
    subst e e2
    rw [Nat.gcd_zero_right] at h
    exact br_t (nI_le (a := 100) (b := 100) (Nat.le_refl _) (by decide)) (nm_e h)
  | succ k ih =>
    intro s g a hs ha hg h
    refine br_f (nI_ge (b := 100) (by omega) (by decide)) ?_
    by_cases ha0 : a = 0
    · subst ha0
      exact br_t (by decide) (nm_r (nI_1 s) (ih (s + 1) g 0 (by omega) (by omega) hg h))
    · have hz : ¬ fd_l (a : Int) = 0 := fun z => by
        have := (fd_l_z (fd_s_lit (by omega))).mp z
        omega
      refine br_f hz (br_f hz ⟨hz, nm_r (e' := fd_l ((g % a : Nat) : Int)) ?_ (nm_r (nI_1 s) (ih (s + 1) a (g % a) (by omega) ?_ (by omega) ?_))⟩)
      · rw [fd_l_rem (fd_s_lit (by omega)) (fd_s_lit (by omega))]; rfl
      · have := Nat.mod_lt g (Nat.pos_of_ne_zero ha0)
        omega
      · rw [Nat.gcd_comm a, ← Nat.gcd_rec, Nat.gcd_comm]; exact h
theorem ys_bigCommon {post : Int64 → Prop} {f : Nat → Int} (hR : fd_R wh f) (h0 : fd_H0 f) (hz : f ≠ fd_z) (H : ∀ c, fd_cont f c → post (fd_l (c : Int))) : wpY_bigCommon post (cn, ot, rg, md, wh, td, yr, yq, pt, kp, dg) := by
  have key : ∀ (k i g : Nat), i + k = 6 → g ≤ 20 → (∀ j, j < i → (g : Int) ∣ f j) → (∀ c : Nat, (∀ j, j < i → (c : Int) ∣ f j) → c ∣ g) → wY_bigCommon_4 post cn ot rg md wh td yr yq pt kp dg (k + 1) (fd_l (g : Int)) (nI i) := by
    intro k
    induction k with
    | zero =>
      intro i g hi hg h1 h2
      have e : i = 6 := by omega
      subst e
      have hall : fd_all g f := fd_all6 h0.2 h1
      have hg1 : 1 ≤ g := by
        rcases Nat.eq_zero_or_pos g with e | e
        · subst e
          exact absurd (funext fun i => Int.zero_dvd.mp (hall i)) hz
        · exact e
      refine br_t (nI_le (Nat.le_refl 6) (by decide)) (br_t ?_ (H g ⟨hg1, hg, hall, fun c' h3 h4 h5 => ?_⟩))
      · exact (fd_l_le (a := 1) (b := g) (fd_s_lit (by decide)) (fd_s_lit (by omega))).mpr (by omega)
      · have := Nat.le_of_dvd hg1 (h2 c' (fun j _ => h5 j))
        omega
    | succ k ih =>
      intro i g hi hg h1 h2
      have hi6 : i < 6 := by omega
      have hfs : fd_s (f i) := fd_s_of (fd_H0_B h0 i) (by decide)
      have hb := h0.1 i
      have hgo : ∀ x : Int64, x = fd_l ((f i).natAbs : Int) → ∃ n42, wY_bigCommon_42 post (wY_bigCommon_4 post cn ot rg md wh td yr yq pt kp dg (k + 1)) (nI i) cn ot rg md wh td yr yq pt kp dg n42 (fd_l (g : Int)) x 0 := by
        intro x hx
        rw [hx]
        refine ⟨100 + 1, ys_big42 100 0 g (f i).natAbs (by omega) (by omega) (by omega) ?_⟩
        rw [nI_1]
        refine ih (i + 1) _ (by omega) ?_ (fun j hj => ?_) (fun c hc => ?_)
        · rcases Nat.eq_zero_or_pos g with e | e
          · subst e; rw [Nat.gcd_zero_left]; omega
          · exact Nat.le_trans (Nat.gcd_le_left _ e) hg
        · by_cases e : j = i
          · rw [e, Int.ofNat_dvd_left]; exact Nat.gcd_dvd_right _ _
          · have h3 := h1 j (by omega)
            rw [Int.ofNat_dvd_left] at h3 ⊢
            exact Nat.dvd_trans (Nat.gcd_dvd_left _ _) h3
        · refine Nat.dvd_gcd (h2 c (fun j hj => hc j (by omega))) ?_
          have h3 := hc i (by omega)
          rw [Int.ofNat_dvd_left] at h3
          exact h3
      refine br_f (nI_ge (b := 6) hi6 (by decide)) ⟨vp_in_nI hi6 (by decide), ?_⟩
      rw [nI_clamp (by omega), hR i hi6]
      have hle : (0 ≤ fd_l (f i)) ↔ 0 ≤ f i := by
        rw [← fd_l_0]; exact fd_l_le (fd_s_lit (by decide)) hfs
      refine br_c (fun z => ⟨vp_in_nI hi6 (by decide), fun x ex => hgo x ?_⟩) (fun z => ⟨vp_in_nI hi6 (by decide), fun x ex => hgo x ?_⟩)
      · have := hle.mp z
        rw [ex]; congr 1; omega
      · have : ¬ 0 ≤ f i := fun w => z (hle.mpr w)
        rw [ex, fd_l_neg]; congr 1; omega
  exact ⟨7, key 6 0 0 (by omega) (by omega) (fun j hj => absurd hj (Nat.not_lt_zero j)) (fun c _ => ⟨0, rfl⟩)⟩
theorem ys_prim32 {post : SY → Prop} {f F' : Nat → Int} {k : Int} (hk : k ≠ 0) (hks : fd_s k) (hR : fd_R wh f) (h0 : fd_H0 f) (hF : f = fd_sm k F') (H : ∀ t, fd_R t F' → post (cn, ot, rg, md, t, td, yr, yq, pt, kp, dg)) : ∃ n, wY_makePrimitive_32 post (fd_l k) cn ot n 0 rg md wh td yr yq pt kp dg := by
  have hl : ¬ fd_l k = 0 := fun z => hk ((fd_l_z hks).mp z)
  refine fd_fill (fun n x t => wY_makePrimitive_32 post (fd_l k) cn ot n x rg md t td yr yq pt kp dg) 6 0 (fun i => fd_l (F' i)) wh (fun n t h1 _ => ?_) (fun n i t hi h2 hW => ?_)
  · exact br_t (nI_le (Nat.le_refl 6) (by decide)) (H t (fun i hi => by have := h1 i hi; rwa [Nat.zero_add] at this))
  · refine br_f (nI_ge (b := 6) hi (by decide)) ⟨vp_in_nI hi (by decide), br_f hl ⟨hl, vp_in_nI hi (by decide), nm_r ?_ (nm_r (nI_1 i) hW)⟩⟩
    have hs : fd_s (f i) := fd_s_of (fd_H0_B h0 i) (by decide)
    have hfi : k * F' i = f i := by rw [hF]; rfl
    rw [nI_clamp (by omega), h2 i (by omega), hR i hi, fd_l_divx hs hks ⟨F' i, hfi.symm⟩, Nat.zero_add, ← hfi, Int.mul_ediv_cancel_left _ hk]
theorem ys_makePrimitive {post : SY → Prop} {f : Nat → Int} (hR : fd_R wh f) (h0 : fd_H0 f) (Hz : f = fd_z → post (cn, ot, rg, md, wh, td, yr, yq, pt, kp, dg)) (H : ∀ t F k d, fd_R t F → k ≠ 0 → f = fd_sm k F → fd_H F → fd_pr F → fd_D F d → 0 < F d → post (cn, ot, rg, md, t, td, yr, yq, pt, kp, dg)) : wpY_makePrimitive post (cn, ot, rg, md, wh, td, yr, yq, pt, kp, dg) := by
  unfold wpY_makePrimitive
  dsimp only
  refine ys_deg hR (fd_H0_B h0) (by decide) h0.2 (fun hz => br_f (by decide) (Hz hz)) (fun d hd hD => br_t (nI_pos' (by omega)) (ys_bigCommon hR h0 (fd_D_nz hD) (fun c hc => ⟨vp_in_nI hd (by decide), ?_⟩)))
  have hs : fd_s (f d) := fd_s_of (fd_H0_B h0 d) (by decide)
  have hck : fd_s (c : Int) := fd_s_lit (by have := hc.2.1; omega)
  have hle : (0 ≤ fd_l (f d)) ↔ 0 ≤ f d := by
    rw [← fd_l_0]; exact fd_l_le (fd_s_lit (by decide)) hs
  rw [nI_clamp (by omega), hR d hd]
  by_cases hsg : 0 ≤ f d
  · refine br_t (hle.mpr hsg) ?_
    obtain ⟨F, hF⟩ := fd_div_all (f := f) (m := (c : Int)) hc.2.2.1
    obtain ⟨g1, g2, g3, g4, g5⟩ := fd_cont_pr h0 hc hD (c : Int) (by rw [if_pos hsg]) F hF
    exact ys_prim32 g1 hck hR h0 hF (fun t ht => H t F _ d ht g1 hF g2 g3 g4 g5)
  · refine br_f (fun z => hsg (hle.mp z)) (nm_r (fd_l_neg _) ?_)
    obtain ⟨F, hF⟩ := fd_div_all (f := f) (m := -(c : Int)) (fun i => Int.neg_dvd.mpr (hc.2.2.1 i))
    obtain ⟨g1, g2, g3, g4, g5⟩ := fd_cont_pr h0 hc hD (-(c : Int)) (by rw [if_neg hsg]) F hF
    exact ys_prim32 g1 ⟨by have := hck.1; have := hck.2; omega, by have := hck.1; have := hck.2; omega⟩ hR h0 hF (fun t ht => H t F _ d ht g1 hF g2 g3 g4 g5)
end
theorem fd_ac1 {n : Nat} (h : n < 820) : (1 + (nI n / 41)).toInt64 = fd_l (1 + ((n / 41 : Nat) : Int)) := by
  have hk : ∀ a : Fin 820, (1 + (nI a.val / 41)).toInt64 = fd_l (1 + ((a.val / 41 : Nat) : Int)) := by decide +kernel
  exact hk ⟨n, h⟩
theorem fd_ac2 {n : Nat} (h : n < 820) : ((nI n - nI n / 41 * 41) - 20).toInt64 = fd_l (((n % 41 : Nat) : Int) - 20) := by
  have hk : ∀ a : Fin 820, ((nI a.val - nI a.val / 41 * 41) - 20).toInt64 = fd_l (((a.val % 41 : Nat) : Int) - 20) := by decide +kernel
  exact hk ⟨n, h⟩
def fd_PL (F : Nat → Int) (ac : Nat) (f : Nat → Int) (L : List (Nat → Int)) : Prop := fd_P1 F f L (1 + ((ac / 41 : Nat) : Int)) (((ac % 41 : Nat) : Int) - 20)
theorem fd_PL_next {F f : Nat → Int} {L : List (Nat → Int)} {ac : Nat} (h : fd_PL F ac f L) (hn : ¬ fd_dv (fd_q 0 (1 + ((ac / 41 : Nat) : Int)) (((ac % 41 : Nat) : Int) - 20)) f) : fd_PL F (ac + 1) f L := by
  have h1 := fd_P1_next h hn
  unfold fd_PL
  by_cases e : ac % 41 = 40
  · have e1 : (ac + 1) / 41 = ac / 41 + 1 := by omega
    have e2 : (ac + 1) % 41 = 0 := by omega
    rw [e1, e2]
    rw [e] at h1
    have h2 := fd_P1_row (a := 1 + ((ac / 41 : Nat) : Int)) h1
    have e3 : 1 + ((ac / 41 : Nat) : Int) + 1 = 1 + ((ac / 41 + 1 : Nat) : Int) := by omega
    rw [e3] at h2
    exact h2
  · have e1 : (ac + 1) / 41 = ac / 41 := by omega
    have e2 : (ac + 1) % 41 = ac % 41 + 1 := by omega
    rw [e1, e2]
    have e3 : ((ac % 41 : Nat) : Int) - 20 + 1 = ((ac % 41 + 1 : Nat) : Int) - 20 := by omega
    rw [e3] at h1
    exact h1
theorem fd_ax_no {f : Nat → Int} {a : Int} (hp : fd_pr f) (ha : 2 ≤ a) : ¬ fd_dv (fd_q 0 a 0) f := by
  intro h
  have h1 := fd_pr_dv h hp a.natAbs (fun i => ?_)
  · omega
  · rw [Int.natAbs_dvd]
    match i with
    | 0 => exact ⟨0, by rw [fd_q_0]; simp⟩
    | 1 => exact ⟨1, by rw [fd_q_1]; simp⟩
    | (k + 2) => rw [fd_q_L1 a 0 (k + 2) (by omega)]; exact ⟨0, by simp⟩
section
variable {post : SY → Prop} {ot : Int32} {rg : Nat → Int32} {md kp : Nat → Int64} {dg : Nat → Int32}
theorem ys_lin2 {F : Nat → Int} (hF : fd_H F) (hp : fd_pr F)
    (H : ∀ f L wh td yr yq pt, fd_PL F 820 f L → fd_R wh f → fd_AL pt L → post (nI L.length, ot, rg, md, wh, td, yr, yq, pt, kp, dg)) :
    ∀ (k ac : Nat) (f : Nat → Int) (L : List (Nat → Int)) (wh td yr yq pt : Nat → Int64), ac + k = 820 → fd_PL F ac f L → fd_R wh f → fd_AL pt L → wY_tryLinear_2 post (k + 1) (nI ac) (nI L.length) ot rg md wh td yr yq pt kp dg := by
  intro k
  induction k with
  | zero =>
    intro ac f L wh td yr yq pt hac hP hwh hpt
    have e : ac = 820 := by omega
    subst e
    exact br_t (nI_le (a := 820) (b := 820) (Nat.le_refl _) (by decide)) (H f L wh td yr yq pt hP hwh hpt)
  | succ k ih =>
    intro ac f L wh td yr yq pt hac hP hwh hpt
    have hst : fd_St F f L := hP.1
    have hB := fd_St_B hF hst
    have hL5 := fd_St_L5 hF.2.1 hst
    have hskip : ¬ fd_dv (fd_q 0 (1 + ((ac / 41 : Nat) : Int)) (((ac % 41 : Nat) : Int) - 20)) f → ∀ x, x = nI ac + 1 → wY_tryLinear_2 post (k + 1) x (nI L.length) ot rg md wh td yr yq pt kp dg := fun hn => nm_r (nI_1 ac) (ih (ac + 1) f L wh td yr yq pt (by omega) (fd_PL_next hP hn) hwh hpt)
    refine br_f (nI_ge (b := 820) (by omega) (by decide)) ⟨by decide, nm_r (fd_ac1 (by omega)) ⟨by decide, nm_r (fd_ac2 (by omega)) ?_⟩⟩
    have ha1 : (1 : Int) ≤ 1 + ((ac / 41 : Nat) : Int) := by omega
    have ha2 : 1 + ((ac / 41 : Nat) : Int) ≤ 20 := by omega
    have hc1 : (-20 : Int) ≤ ((ac % 41 : Nat) : Int) - 20 := by omega
    have hc2 : ((ac % 41 : Nat) : Int) - 20 ≤ 20 := by omega
    have hT : ∀ f f' L, fd_PL F ac f L → fd_F f' → fd_mul (fd_q 0 (1 + ((ac / 41 : Nat) : Int)) (((ac % 41 : Nat) : Int) - 20)) f' = f → fd_PL F ac f' (L ++ [fd_q 0 (1 + ((ac / 41 : Nat) : Int)) (((ac % 41 : Nat) : Int) - 20)]) := fun f f' L h hf' e => fd_P1_take hp h ha1 hf' e
    have hnx : ∀ f L, fd_PL F ac f L → ¬ fd_dv (fd_q 0 (1 + ((ac / 41 : Nat) : Int)) (((ac % 41 : Nat) : Int) - 20)) f → fd_PL F (ac + 1) f L := fun f L h hn => fd_PL_next h hn
    generalize hae : 1 + ((ac / 41 : Nat) : Int) = a at *
    generalize hce : ((ac % 41 : Nat) : Int) - 20 = c at *
    have has : fd_s a := fd_s_lit (by omega)
    have hcs : fd_s c := fd_s_lit (by omega)
    have haz : ¬ fd_l a = 0 := fun z => by have := (fd_l_z has).mp z; omega
    have hfs : ∀ i, fd_s (f i) := fun i => fd_s_of (hB i) (by decide)
    have hgo : wY_tryLinear_94 post (wY_tryLinear_2 post (k + 1)) (nI ac) (fd_l a) (fd_l c) (nI L.length) ot rg md wh td yr yq pt kp dg := by
      unfold wY_tryLinear_94
      refine ys_give (t := 0) (m := a) (l := c) (fun td1 htd => ?_)
      dsimp only
      refine ys_takeOut (d := 1) (t := 0) (m := a) (l := c) hF (Nat.le_refl 1) (by decide) (fd_q_D1 c (by omega)) (fd_q_B (by decide) (by omega) (by omega)) htd (fun f L => fd_PL F ac f L) (fun f L h => h.1) hT hP hwh hpt (fun f L wh yr yq pt hP hn hwh hpt => ?_)
      dsimp only
      exact nm_r (nI_1 ac) (ih (ac + 1) f L wh td1 yr yq pt (by omega) (hnx f L hP hn) hwh hpt)
    refine ys_deg hwh hB (by decide) hL5 (fun z => absurd z (fd_St_nz hst)) (fun d hd hD => ?_)
    by_cases hd1 : d < 1
    · exact br_t (nI_lt (b := 1) hd1 (by decide)) (hskip fun hdv => by have := (fd_l_lead (by omega) hD hdv).2; omega)
    · refine br_f (nI_nlt (b := 1) (by omega) (by omega)) ⟨vp_in_nI hd (by decide), haz, ?_⟩
      rw [nI_clamp (by omega), hwh d hd, hwh 0 (by decide)]
      refine br_c (fun z => ?_) (fun z => hskip fun hdv => z ((fd_l_rem0 (hfs d) has).mpr (fd_l_lead (by omega) hD hdv).1))
      by_cases hc0 : c = 0
      · refine br_t (by rw [hc0]; exact fd_l_0) (br_c (fun z0 => br_c (fun _ => hgo) (fun z1 => hskip ?_)) (fun z0 => hskip fun hdv => z0 ?_))
        · rw [hc0]
          refine fd_ax_no (fd_St_pr hp hst) ?_
          have : a ≠ 1 := fun e => z1 (by rw [e]; exact fd_l_1)
          omega
        · have h1 := fd_q_low hdv
          rw [hc0] at h1
          rw [Int.zero_dvd.mp h1]; exact fd_l_0
      · have hcz : ¬ fd_l c = 0 := fun z => hc0 ((fd_l_z hcs).mp z)
        exact br_f hcz ⟨hcz, br_c (fun _ => hgo) (fun z0 => hskip fun hdv => z0 ((fd_l_rem0 (hfs 0) hcs).mpr (fd_q_low hdv)))⟩
theorem ys_tryLinear {F : Nat → Int} {d : Nat} (hF : fd_H F) (hp : fd_pr F) (hDF : fd_D F d) (hpos : 0 < F d) {wh td yr yq pt : Nat → Int64} (hwh : fd_R wh F)
    (H : ∀ f L wh td yr yq pt, fd_St F f L → fd_LF f → List.Pairwise fd_le L → (∀ p ∈ L, fd_D p 1) → fd_R wh f → fd_AL pt L → post (nI L.length, ot, rg, md, wh, td, yr, yq, pt, kp, dg)) : wpY_tryLinear post (0, ot, rg, md, wh, td, yr, yq, pt, kp, dg) :=
  ⟨820 + 1, ys_lin2 hF hp (fun f L wh td yr yq pt hP hwh hpt => H f L wh td yr yq pt hP.1 (fd_P1_end hF hP) hP.2.1 (fun p hp => (hP.2.2.1 p hp).1) hwh hpt) 820 0 F [] wh td yr yq pt (by omega) (fd_P1_0 hDF hpos) hwh (fd_AL_nil pt)⟩
theorem ys_linZ {cn : Int32} {wh td yr yq pt : Nat → Int64} (hwh : fd_R wh fd_z) (H : post (cn, ot, rg, md, wh, td, yr, yq, pt, kp, dg)) : wpY_tryLinear post (cn, ot, rg, md, wh, td, yr, yq, pt, kp, dg) := by
  refine fd_upl (fun n x => wY_tryLinear_2 post n x cn ot rg md wh td yr yq pt kp dg) (fun _ => True) 820 (fun h n => br_t (nI_le (a := 820) (b := 820) (Nat.le_refl _) (by decide)) H) (fun n i hi h hW => ?_)
  refine br_f (nI_ge (b := 820) hi (by decide)) ⟨by decide, nm_e ⟨by decide, nm_e (ys_deg (f := fd_z) (M := 0) hwh (fun i => Nat.le_refl 0) (by decide) (fun _ _ => rfl) (fun _ => br_t (by decide) (nm_r (nI_1 i) (hW trivial))) (fun d hd hD => absurd rfl hD.1))⟩⟩
end
end
section
/-! the reference's search for factors of degree 2 -/
theorem fd_q_r {t m l : Int} {f : Nat → Int} (ht : t ≠ 0) (hL : fd_L f 5) (h : fd_dv (fd_q t m l) f) : ∃ r : Nat → Int, f 0 = l * r 0 ∧ f 1 = l * r 1 + m * r 0 ∧ f 2 = l * r 2 + m * r 1 + t * r 0 ∧ f 3 = l * r 3 + m * r 2 + t * r 1 ∧ f 4 = m * r 3 + t * r 2 ∧ f 5 = t * r 3 := by
  obtain ⟨r, hr, e⟩ := h
  have hr4 : ∀ j, 3 < j → r j = 0 := by
    by_cases hz : r = fd_z
    · intro j _; rw [hz]; rfl
    · obtain ⟨b, hb⟩ := fd_D_ex hr hz
      have h1 := fd_D_mul (fd_q_D2 m l ht) hb
      rw [e] at h1
      have := fd_D_le h1 hL
      intro j hj
      exact hb.2 j (by omega)
  refine ⟨r, by rw [← e, fd_q_mul0], by rw [← e, fd_q_mul1], by rw [← e, fd_q_mul2], by rw [← e, fd_q_mul2], ?_, ?_⟩
  · rw [← e, fd_q_mul2, hr4 4 (by omega)]; simp
  · rw [← e, fd_q_mul2, hr4 5 (by omega), hr4 4 (by omega)]; simp
theorem fd_q_up {t m l : Int} {f : Nat → Int} (ht : t ≠ 0) (hL : fd_L f 5) (h : fd_dv (fd_q t m l) f) : (t + m + l) ∣ fd_ev f 1 6 0 := by
  obtain ⟨r, h0, h1, h2, h3, h4, h5⟩ := fd_q_r ht hL h
  rw [fd_ev_1, h0, h1, h2, h3, h4, h5]
  exact ⟨r 0 + r 1 + r 2 + r 3, by grind⟩
theorem fd_q_down {t m l : Int} {f : Nat → Int} (ht : t ≠ 0) (hL : fd_L f 5) (h : fd_dv (fd_q t m l) f) : (t - m + l) ∣ fd_ev f (-1) 6 0 := by
  obtain ⟨r, h0, h1, h2, h3, h4, h5⟩ := fd_q_r ht hL h
  rw [fd_ev_m1, h0, h1, h2, h3, h4, h5]
  exact ⟨r 0 - r 1 + r 2 - r 3, by grind⟩
theorem fd_lin_mul (a c b e : Int) : fd_mul (fd_q 0 a c) (fd_q 0 b e) = fd_q (a * b) (a * e + c * b) (c * e) := by
  funext i
  match i with
  | 0 => rw [fd_q_mul0]; rfl
  | 1 => rw [fd_q_mul1, fd_q_1, fd_q_0, fd_q_1]; omega
  | 2 => rw [fd_q_mul2 0 a c _ 0]; show c * 0 + a * b + 0 * e = a * b; simp
  | (k + 3) => rw [fd_q_mul2 0 a c _ (k + 1), fd_q_L1 b e (k + 1 + 2) (by omega), fd_q_L1 b e (k + 1 + 1) (by omega), fd_q_L _ _ _ (k + 3) (by omega)]; simp
theorem fd_LF_1 {t m l : Int} {f : Nat → Int} (hl : fd_LF f) (h : fd_dv (fd_q t m l) f) : t + m + l ≠ 0 := by
  intro e
  refine hl (fd_q 0 1 (-1)) (fd_q_D1 (-1) (by decide)) (fd_dv_trans ⟨fd_q 0 t (t + m), fd_q_F _ _ _, ?_⟩ h)
  rw [fd_lin_mul]
  have e1 : 1 * t = t := by omega
  have e2 : 1 * (t + m) + -1 * t = m := by omega
  have e3 : -1 * (t + m) = l := by omega
  rw [e1, e2, e3]
theorem fd_LF_m1 {t m l : Int} {f : Nat → Int} (hl : fd_LF f) (h : fd_dv (fd_q t m l) f) : t - m + l ≠ 0 := by
  intro e
  refine hl (fd_q 0 1 1) (fd_q_D1 1 (by decide)) (fd_dv_trans ⟨fd_q 0 t (m - t), fd_q_F _ _ _, ?_⟩ h)
  rw [fd_lin_mul]
  have e1 : 1 * t = t := by omega
  have e2 : 1 * (m - t) + 1 * t = m := by omega
  have e3 : 1 * (m - t) = l := by omega
  rw [e2, e1, e3]
theorem fd_LF_0 {t m : Int} {f : Nat → Int} (hl : fd_LF f) : ¬ fd_dv (fd_q t m 0) f := by
  intro h
  refine hl (fd_q 0 1 0) (fd_q_D1 0 (by decide)) (fd_dv_trans ⟨fd_q 0 t m, fd_q_F _ _ _, ?_⟩ h)
  rw [fd_lin_mul]
  have e1 : 1 * t = t := by omega
  have e2 : 1 * m + 0 * t = m := by omega
  have e3 : 0 * m = 0 := by omega
  rw [e1, e2, e3]
theorem fd_ev_s1 {f : Nat → Int} (h : fd_B f 170000) : fd_s (fd_ev f 1 6 0) := by
  rw [fd_ev_1]
  have h0 := h 0; have h1 := h 1; have h2 := h 2; have h3 := h 3; have h4 := h 4; have h5 := h 5
  exact ⟨by omega, by omega⟩
theorem fd_ev_sm1 {f : Nat → Int} (h : fd_B f 170000) : fd_s (fd_ev f (-1) 6 0) := by
  rw [fd_ev_m1]
  have h0 := h 0; have h1 := h 1; have h2 := h 2; have h3 := h 3; have h4 := h 4; have h5 := h 5
  exact ⟨by omega, by omega⟩
section
variable {post : SY → Prop} {ot : Int32} {rg : Nat → Int32} {md kp : Nat → Int64} {dg : Nat → Int32}
theorem ys_mid19 {F : Nat → Int} {L1 : List (Nat → Int)} {a c : Int} (hF : fd_H F) (hp : fd_pr F) (ha1 : 1 ≤ a) (ha2 : a ≤ 20) (hc1 : -20 ≤ c) (hc2 : c ≤ 20)
    (H : ∀ f L wh td yr yq pt, (∃ L2, L = L1 ++ L2 ∧ fd_P3 F f L1 L2 a c 101) → fd_R wh f → fd_AL pt L → post (nI L.length, ot, rg, md, wh, td, yr, yq, pt, kp, dg)) :
    ∀ (k : Nat) (b : Int) (f : Nat → Int) (L : List (Nat → Int)) (wh td yr yq pt : Nat → Int64), k ≤ 201 → b = 101 - (k : Int) → (∃ L2, L = L1 ++ L2 ∧ fd_P3 F f L1 L2 a c b) → fd_R wh f → fd_AL pt L → wY_tryMiddle_19 post (fd_l a) (fd_l c) (k + 1) (fd_l (fd_ev f 1 6 0)) (fd_l (fd_ev f (-1) 6 0)) (fd_l b) (nI L.length) ot rg md wh td yr yq pt kp dg := by
  intro k
  induction k with
  | zero =>
    intro b f L wh td yr yq pt hk hb hP hwh hpt
    have e : b = 101 := by omega
    subst e
    exact br_t ((fd_l_lt (a := 100) (b := 101) (fd_s_lit (by decide)) (fd_s_lit (by decide))).mpr (by decide)) (H f L wh td yr yq pt hP hwh hpt)
  | succ k ih =>
    intro b f L wh td yr yq pt hk hb hP hwh hpt
    obtain ⟨L2, eL, hP3⟩ := id hP
    have hst : fd_St F f L := by rw [eL]; exact hP3.1
    have hLF : fd_LF f := hP3.2.1
    have hB := fd_St_B hF hst
    have hL5 := fd_St_L5 hF.2.1 hst
    have hbs : fd_s b := fd_s_lit (by omega)
    have e1 : ∀ z : Int, fd_l z + 1 = fd_l (z + 1) := fun z => fd_l_add z 1
    have hskip : ¬ fd_dv (fd_q a b c) f → ∀ x, x = fd_l b + 1 → wY_tryMiddle_19 post (fd_l a) (fd_l c) (k + 1) (fd_l (fd_ev f 1 6 0)) (fd_l (fd_ev f (-1) 6 0)) x (nI L.length) ot rg md wh td yr yq pt kp dg := fun hn => nm_r (e1 b) (ih (b + 1) f L wh td yr yq pt (by omega) (by omega) ⟨L2, eL, fd_P3_next hP3 hn⟩ hwh hpt)
    have hp1 : fd_s (a + b + c) := fd_s_lit (by omega)
    have hq1 : fd_s (a - b + c) := fd_s_lit (by omega)
    refine br_f (fun z => ?_) (nm_r (e' := fd_l (a + b + c)) (by rw [fd_l_add, fd_l_add]) (nm_r (e' := fd_l (a - b + c)) (by rw [fd_l_sub, fd_l_add]) ?_))
    · have := (fd_l_lt (a := 100) (b := b) (fd_s_lit (by decide)) hbs).mp z
      omega
    · refine br_c (fun z => hskip fun hdv => fd_LF_1 hLF hdv ((fd_l_z hp1).mp z)) (fun z => br_c (fun z' => hskip fun hdv => fd_LF_m1 hLF hdv ((fd_l_z hq1).mp z')) (fun z' => ⟨z, br_c (fun _ => ⟨z', br_c (fun _ => ?_) (fun w => hskip fun hdv => w ((fd_l_rem0 (fd_ev_sm1 hB) hq1).mpr (fd_q_down (by omega) hL5 hdv)))⟩) (fun w => hskip fun hdv => w ((fd_l_rem0 (fd_ev_s1 hB) hp1).mpr (fd_q_up (by omega) hL5 hdv)))⟩))
      refine ys_give (t := a) (m := b) (l := c) (fun td1 htd => ?_)
      dsimp only
      refine ys_takeOut (d := 2) (t := a) (m := b) (l := c) hF (by decide) (Nat.le_refl 2) (fd_q_D2 b c (by omega)) (fd_q_B (by omega) (by omega) (by omega)) htd (fun f L => ∃ L2, L = L1 ++ L2 ∧ fd_P3 F f L1 L2 a c b) (fun f L h => by obtain ⟨L2, e, h⟩ := h; rw [e]; exact h.1) (fun f f' L h hf' e => by obtain ⟨L2, e2, h⟩ := h; exact ⟨L2 ++ [fd_q a b c], by rw [e2, List.append_assoc], fd_P3_take hp h ha1 hf' e⟩) hP hwh hpt (fun f L wh yr yq pt hP hn hwh hpt => ?_)
      dsimp only
      refine ys_valueAt (x := 1) (fd_k_lit (by decide)) hwh (ys_valueAt (x := -1) (fd_k_lit (by decide)) hwh (nm_r (e1 b) (ih (b + 1) f L wh td1 yr yq pt (by omega) (by omega) ?_ hwh hpt)))
      obtain ⟨L2, e2, h⟩ := hP
      exact ⟨L2, e2, fd_P3_next h hn⟩
theorem ys_tryMiddle {F f : Nat → Int} {L1 L : List (Nat → Int)} {a c : Int} {wh td yr yq pt : Nat → Int64} (hF : fd_H F) (hp : fd_pr F) (ha1 : 1 ≤ a) (ha2 : a ≤ 20) (hc1 : -20 ≤ c) (hc2 : c ≤ 20) (hP : ∃ L2, L = L1 ++ L2 ∧ fd_P3 F f L1 L2 a c (-100)) (hwh : fd_R wh f) (hpt : fd_AL pt L)
    (H : ∀ f L wh td yr yq pt, (∃ L2, L = L1 ++ L2 ∧ fd_P3 F f L1 L2 a (c + 1) (-100)) → fd_R wh f → fd_AL pt L → post (nI L.length, ot, rg, md, wh, td, yr, yq, pt, kp, dg)) : wpY_tryMiddle post (nI L.length, ot, rg, md, wh, td, yr, yq, pt, kp, dg) (fd_l a) (fd_l c) := by
  unfold wpY_tryMiddle
  dsimp only
  refine ys_valueAt (x := 1) (fd_k_lit (by decide)) hwh (ys_valueAt (x := -1) (fd_k_lit (by decide)) hwh ⟨201 + 1, ?_⟩)
  exact ys_mid19 hF hp ha1 ha2 hc1 hc2 (fun f L wh td yr yq pt hP hwh hpt => H f L wh td yr yq pt (by obtain ⟨L2, e2, h⟩ := hP; exact ⟨L2, e2, fd_P3_row h⟩) hwh hpt) 201 (-100) f L wh td yr yq pt (Nat.le_refl _) (by decide) hP hwh hpt
def fd_PS (F : Nat → Int) (L1 : List (Nat → Int)) (ac : Nat) (f : Nat → Int) (L : List (Nat → Int)) : Prop := ∃ L2, L = L1 ++ L2 ∧ fd_P3 F f L1 L2 (1 + ((ac / 41 : Nat) : Int)) (((ac % 41 : Nat) : Int) - 20) (-100)
theorem fd_PS_next {F f : Nat → Int} {L1 L : List (Nat → Int)} {ac : Nat} (h : ∃ L2, L = L1 ++ L2 ∧ fd_P3 F f L1 L2 (1 + ((ac / 41 : Nat) : Int)) (((ac % 41 : Nat) : Int) - 20 + 1) (-100)) : fd_PS F L1 (ac + 1) f L := by
  obtain ⟨L2, e2, h1⟩ := h
  refine ⟨L2, e2, ?_⟩
  by_cases e : ac % 41 = 40
  · have e1 : (ac + 1) / 41 = ac / 41 + 1 := by omega
    have e2 : (ac + 1) % 41 = 0 := by omega
    rw [e1, e2]
    rw [e] at h1
    have h2 := fd_P3_top (t := 1 + ((ac / 41 : Nat) : Int)) h1
    have e3 : 1 + ((ac / 41 : Nat) : Int) + 1 = 1 + ((ac / 41 + 1 : Nat) : Int) := by omega
    rw [e3] at h2
    exact h2
  · have e1 : (ac + 1) / 41 = ac / 41 := by omega
    have e2 : (ac + 1) % 41 = ac % 41 + 1 := by omega
    rw [e1, e2]
    have e3 : ((ac % 41 : Nat) : Int) - 20 + 1 = ((ac % 41 + 1 : Nat) : Int) - 20 := by omega
    rw [e3] at h1
    exact h1
theorem ys_sq2 {F : Nat → Int} {L1 : List (Nat → Int)} (hF : fd_H F) (hp : fd_pr F)
    (H : ∀ f L wh td yr yq pt, fd_PS F L1 820 f L → fd_R wh f → fd_AL pt L → post (nI L.length, ot, rg, md, wh, td, yr, yq, pt, kp, dg)) :
    ∀ (k ac : Nat) (f : Nat → Int) (L : List (Nat → Int)) (wh td yr yq pt : Nat → Int64), ac + k = 820 → fd_PS F L1 ac f L → fd_R wh f → fd_AL pt L → wY_trySquare_2 post (k + 1) (nI ac) (nI L.length) ot rg md wh td yr yq pt kp dg := by
  intro k
  induction k with
  | zero =>
    intro ac f L wh td yr yq pt hac hP hwh hpt
    have e : ac = 820 := by omega
    subst e
    exact br_t (nI_le (a := 820) (b := 820) (Nat.le_refl _) (by decide)) (H f L wh td yr yq pt hP hwh hpt)
  | succ k ih =>
    intro ac f L wh td yr yq pt hac hP hwh hpt
    obtain ⟨L2, eL, hP3⟩ := id hP
    have hst : fd_St F f L := by rw [eL]; exact hP3.1
    have hLF : fd_LF f := hP3.2.1
    have hB := fd_St_B hF hst
    have hL5 := fd_St_L5 hF.2.1 hst
    have hskip : (∀ d, fd_D f d → 4 ≤ d → ∀ m', ¬ fd_dv (fd_q (1 + ((ac / 41 : Nat) : Int)) m' (((ac % 41 : Nat) : Int) - 20)) f) → ∀ x, x = nI ac + 1 → wY_trySquare_2 post (k + 1) x (nI L.length) ot rg md wh td yr yq pt kp dg := fun hn => nm_r (nI_1 ac) (ih (ac + 1) f L wh td yr yq pt (by omega) (fd_PS_next ⟨L2, eL, fd_P3_skip hn hP3⟩) hwh hpt)
    refine br_f (nI_ge (b := 820) (by omega) (by decide)) ⟨by decide, nm_r (fd_ac1 (by omega)) ⟨by decide, nm_r (fd_ac2 (by omega)) ?_⟩⟩
    have ha1 : (1 : Int) ≤ 1 + ((ac / 41 : Nat) : Int) := by omega
    have ha2 : 1 + ((ac / 41 : Nat) : Int) ≤ 20 := by omega
    have hc1 : (-20 : Int) ≤ ((ac % 41 : Nat) : Int) - 20 := by omega
    have hc2 : ((ac % 41 : Nat) : Int) - 20 ≤ 20 := by omega
    have hnx : ∀ f L, (∃ L2, L = L1 ++ L2 ∧ fd_P3 F f L1 L2 (1 + ((ac / 41 : Nat) : Int)) (((ac % 41 : Nat) : Int) - 20 + 1) (-100)) → fd_PS F L1 (ac + 1) f L := fun f L h => fd_PS_next h
    have hP' : ∃ L2, L = L1 ++ L2 ∧ fd_P3 F f L1 L2 (1 + ((ac / 41 : Nat) : Int)) (((ac % 41 : Nat) : Int) - 20) (-100) := hP
    clear hP3
    generalize hae : 1 + ((ac / 41 : Nat) : Int) = a at *
    generalize hce : ((ac % 41 : Nat) : Int) - 20 = c at *
    have has : fd_s a := fd_s_lit (by omega)
    have hcs : fd_s c := fd_s_lit (by omega)
    have haz : ¬ fd_l a = 0 := fun z => by have := (fd_l_z has).mp z; omega
    have hfs : ∀ i, fd_s (f i) := fun i => fd_s_of (hB i) (by decide)
    refine ys_deg hwh hB (by decide) hL5 (fun z => absurd z (fd_St_nz hst)) (fun d hd hD => ?_)
    by_cases hd4 : d < 4
    · exact br_t (nI_lt (b := 4) hd4 (by decide)) (hskip fun d' hD' h4 => by have := fd_D_u hD hD'; omega)
    · refine br_f (nI_nlt (b := 4) (by omega) (by omega)) ?_
      by_cases hc0 : c = 0
      · exact br_t (by rw [hc0]; exact fd_l_0) (hskip fun d' _ _ m' => by rw [hc0]; exact fd_LF_0 hLF)
      · have hcz : ¬ fd_l c = 0 := fun z => hc0 ((fd_l_z hcs).mp z)
        refine br_f hcz ⟨vp_in_nI hd (by decide), haz, ?_⟩
        rw [nI_clamp (by omega), hwh d hd, hwh 0 (by decide)]
        refine br_c (fun z => ⟨hcz, br_c (fun _ => ?_) (fun z0 => hskip fun d' _ _ m' hdv => z0 ((fd_l_rem0 (hfs 0) hcs).mpr (fd_q_low hdv)))⟩) (fun z => hskip fun d' _ _ m' hdv => z ((fd_l_rem0 (hfs d) has).mpr (fd_q_lead (by omega) hD hdv)))
        refine ys_tryMiddle hF hp ha1 ha2 hc1 hc2 hP' hwh hpt (fun f L wh td yr yq pt hP hwh hpt => ?_)
        dsimp only
        exact nm_r (nI_1 ac) (ih (ac + 1) f L wh td yr yq pt (by omega) (hnx f L hP) hwh hpt)
theorem ys_trySquare {F f : Nat → Int} {L1 : List (Nat → Int)} {wh td yr yq pt : Nat → Int64} (hF : fd_H F) (hp : fd_pr F) (hst : fd_St F f L1) (hl : fd_LF f) (hwh : fd_R wh f) (hpt : fd_AL pt L1)
    (H : ∀ f L L2 wh td yr yq pt, L = L1 ++ L2 → fd_P3 F f L1 L2 21 (-20) (-100) → fd_R wh f → fd_AL pt L → post (nI L.length, ot, rg, md, wh, td, yr, yq, pt, kp, dg)) : wpY_trySquare post (nI L1.length, ot, rg, md, wh, td, yr, yq, pt, kp, dg) :=
  ⟨820 + 1, ys_sq2 hF hp (fun f L wh td yr yq pt hP hwh hpt => by obtain ⟨L2, e2, h⟩ := hP; exact H f L L2 wh td yr yq pt e2 h hwh hpt) 820 0 f L1 wh td yr yq pt (by omega) ⟨[], by rw [List.append_nil], fd_P3_0 hst hl⟩ hwh hpt⟩
theorem ys_sqZ {cn : Int32} {wh td yr yq pt : Nat → Int64} (hwh : fd_R wh fd_z) (H : post (cn, ot, rg, md, wh, td, yr, yq, pt, kp, dg)) : wpY_trySquare post (cn, ot, rg, md, wh, td, yr, yq, pt, kp, dg) := by
  refine fd_upl (fun n x => wY_trySquare_2 post n x cn ot rg md wh td yr yq pt kp dg) (fun _ => True) 820 (fun h n => br_t (nI_le (a := 820) (b := 820) (Nat.le_refl _) (by decide)) H) (fun n i hi h hW => ?_)
  refine br_f (nI_ge (b := 820) hi (by decide)) ⟨by decide, nm_e ⟨by decide, nm_e (ys_deg (f := fd_z) (M := 0) hwh (fun i => Nat.le_refl 0) (by decide) (fun _ _ => rfl) (fun _ => br_t (by decide) (nm_r (nI_1 i) (hW trivial))) (fun d hd hD => absurd rfl hD.1))⟩⟩
end
end
section
/-! the reference's order and its split -/
theorem fd_getD_mem {L : List (Nat → Int)} {k : Nat} (h : k < L.length) : L.getD k fd_z ∈ L := by
  rw [List.getD_eq_getElem?_getD, List.getElem?_eq_getElem h]; exact List.getElem_mem h
theorem fd_getD_eq {L : List (Nat → Int)} {k : Nat} (h : k < L.length) : L.getD k fd_z = L[k] := by
  rw [List.getD_eq_getElem?_getD, List.getElem?_eq_getElem h]; rfl
theorem fd_pw_get {L : List (Nat → Int)} (h : List.Pairwise fd_le L) {i j : Nat} (hij : i < j) (hj : j < L.length) : fd_le (L.getD i fd_z) (L.getD j fd_z) := by
  rw [fd_getD_eq hj, fd_getD_eq (Nat.lt_trans hij hj)]
  exact List.pairwise_iff_getElem.mp h i j _ _ hij
theorem fd_le_nlt {p q : Nat → Int} (h : fd_le p q) : ¬ fd_lt q p := by
  intro h'
  rcases h with e | h
  · rw [e] at h'; exact fd_lt_as h' h'
  · exact fd_lt_as h h'
theorem fd_total {p q : Nat → Int} (hp : fd_L p 5) (hq : fd_L q 5) : fd_le p q ∨ fd_lt q p := by
  have key : ∀ n, (∀ j, n ≤ j → p j = q j) → fd_le p q ∨ fd_lt q p := by
    intro n
    induction n with
    | zero => intro h; exact Or.inl (Or.inl (funext fun j => h j (Nat.zero_le j)))
    | succ n ih =>
      intro h
      rcases Int.lt_trichotomy (p n) (q n) with h1 | h1 | h1
      · exact Or.inl (Or.inr ⟨n, h1, fun j hj => h j hj⟩)
      · refine ih fun j hj => ?_
        by_cases e : j = n
        · rw [e]; exact h1
        · exact h j (by omega)
      · exact Or.inr ⟨n, h1, fun j hj => (h j hj).symm⟩
  exact key 6 fun j hj => by rw [hp j (by omega), hq j (by omega)]
theorem fd_dv_prod {L : List (Nat → Int)} (hI : ∀ p ∈ L, fd_Irr p) {p : Nat → Int} (hp : p ∈ L) : fd_dv p (fd_prod L) := by
  induction L with
  | nil => exact absurd hp List.not_mem_nil
  | cons q L ih =>
    have hF : fd_F (fd_prod L) := fd_F_prod L fun r hr => fd_irr_F (hI r (List.mem_cons_of_mem _ hr))
    rcases List.mem_cons.mp hp with e | e
    · rw [e]; exact ⟨_, hF, rfl⟩
    · exact fd_dv_mul_l q (fd_irr_F (hI q (List.mem_cons_self ..))) (ih (fun r hr => hI r (List.mem_cons_of_mem _ hr)) e)
/-- what all lists of factors have -/
def fd_LB (L : List (Nat → Int)) : Prop := ∀ p ∈ L, fd_Irr p ∧ fd_B p 170000 ∧ fd_L p 5
theorem fd_LB_mk {F : Nat → Int} {L : List (Nat → Int)} (hF : fd_H F) (hI : ∀ p ∈ L, fd_Irr p) (hd : fd_dv (fd_prod L) F) : fd_LB L := by
  intro p hp
  obtain ⟨q, hq, e⟩ := fd_dv_trans (fd_dv_prod hI hp) hd
  obtain ⟨_, ⟨d, _, hD, _⟩, _⟩ := id (hI p hp)
  refine ⟨hI p hp, fun i => fd_bB hF (fd_irr_F (hI p hp)) hq e i, ?_⟩
  obtain ⟨d5, hd5⟩ := fd_D_ex (fd_L_F hF.2.1) hF.2.2
  obtain ⟨a, b, ha, hb, hab⟩ := fd_D_split (fd_D_F hD) hq e hd5
  have := fd_D_le hd5 hF.2.1
  exact fd_L_mono ha.2 (by omega)
theorem fd_sub6 {a b : Nat} (ha : a < 6) (hb : b < 6) : (nI a - nI b = 0 ↔ a = b) ∧ (0 ≤ nI a - nI b ↔ b ≤ a) := by
  have hk : ∀ (a b : Fin 6), (nI a.val - nI b.val = 0 ↔ a.val = b.val) ∧ (0 ≤ nI a.val - nI b.val ↔ b.val ≤ a.val) := by decide
  exact hk ⟨a, ha⟩ ⟨b, hb⟩
section
variable {cn ot : Int32} {rg : Nat → Int32} {md wh td yr yq pt kp : Nat → Int64} {dg : Nat → Int32}
theorem ys_before29 {post : Int32 → Prop} {p q : Nat → Int} {k m : Nat} (hk : k < 6) (hm : m < 6) (hp : ∀ i, i < 6 → pt (k * 6 + i) = fd_l (p i)) (hq : ∀ i, i < 6 → pt (m * 6 + i) = fd_l (q i)) (hpB : fd_B p 170000) (hqB : fd_B q 170000) (hp5 : fd_L p 5) (hq5 : fd_L q 5) (H1 : fd_lt p q → post 1) (H0 : ¬ fd_lt p q → post 0) : ∃ n, wY_before_29 post (nI k) (nI m) cn ot rg md wh td yr yq pt kp dg n 5 := by
  refine fd_downS (fun n x => wY_before_29 post (nI k) (nI m) cn ot rg md wh td yr yq pt kp dg n x) (fun j => p j = q j) 6 5 (by decide) (fun h n => ?_) (fun n i hi h hW => ?_)
  · refine br_t (by decide) (H0 fun hlt => ?_)
    obtain ⟨i, h1, _⟩ := hlt
    by_cases hi : i < 6
    · have := h i hi; omega
    · rw [hp5 i (by omega), hq5 i (by omega)] at h1; omega
  · have hz : ∀ j, i < j → p j = q j := fun j hj => by
      by_cases hj6 : j < 6
      · exact h j hj hj6
      · rw [hp5 j (by omega), hq5 j (by omega)]
    have hps : fd_s (p i) := fd_s_of (hpB i) (by decide)
    have hqs : fd_s (q i) := fd_s_of (hqB i) (by decide)
    have hik : vp_in (6 * nI k + nI i) 36 := by rw [fd_ixZ]; exact vp_in_nI (by omega) (by decide)
    have him : vp_in (6 * nI m + nI i) 36 := by rw [fd_ixZ]; exact vp_in_nI (by omega) (by decide)
    refine br_f (nI_pos (by omega)) ⟨hik, him, ?_⟩
    rw [fd_ixZ, fd_ixZ, nI_clamp (by omega), nI_clamp (by omega), hp i hi, hq i hi]
    refine br_c (fun z => nm_e (hW ((fd_l_eq hps hqs).mp z))) (fun z => ⟨by rw [← fd_ixZ]; exact hik, by rw [← fd_ixZ]; exact him, br_c (fun w => H0 ?_) (fun w => H1 ?_)⟩)
    · have h1 := (fd_l_le hqs hps).mp w
      have h2 : p i ≠ q i := fun e => z (by rw [e])
      exact fun h3 => fd_lt_as h3 ⟨i, by omega, fun j hj => (hz j hj).symm⟩
    · have h1 : ¬ q i ≤ p i := fun e => w ((fd_l_le hqs hps).mpr e)
      exact ⟨i, by omega, hz⟩
theorem ys_degPart {post : Int32 → Prop} {p : Nat → Int} {k d : Nat} (hk : k < 6) (hp : ∀ i, i < 6 → pt (k * 6 + i) = fd_l (p i)) (hpB : fd_B p 170000) (hp5 : fd_L p 5) (hD : fd_D p d) (H : post (nI d)) : wpY_degreeOfPart post (cn, ot, rg, md, wh, td, yr, yq, pt, kp, dg) (nI k) := by
  have hd5 := fd_D_le hD hp5
  have hz : ∀ i, i < 6 → (pt (k * 6 + i) = 0 ↔ p i = 0) := fun i hi => by rw [hp i hi]; exact fd_l_z (fd_s_of (hpB i) (by decide))
  refine ys_degreeOfPart hk (fun h => absurd ((hz d (by omega)).mp (h d (by omega))) hD.1) (fun d' hd' h1 h2 => ?_)
  have hD' : fd_D p d' := ⟨fun e => h1 ((hz d' hd').mpr e), fun j hj => by
    by_cases hj6 : j < 6
    · exact (hz j hj6).mp (h2 j hj hj6)
    · exact hp5 j (by omega)⟩
  rw [fd_D_u hD' hD]; exact H
theorem ys_before {post : Int32 → Prop} {L : List (Nat → Int)} (hpt : fd_AL pt L) (hLB : fd_LB L) (hlen : L.length ≤ 5) {k m : Nat} (hk : k < L.length) (hm : m < L.length) (H1 : fd_lt (L.getD k fd_z) (L.getD m fd_z) → post 1) (H0 : ¬ fd_lt (L.getD k fd_z) (L.getD m fd_z) → post 0) : wpY_before post (cn, ot, rg, md, wh, td, yr, yq, pt, kp, dg) (nI k) (nI m) := by
  unfold wpY_before
  dsimp only
  obtain ⟨hIp, hBp, h5p⟩ := hLB _ (fd_getD_mem hk)
  obtain ⟨hIq, hBq, h5q⟩ := hLB _ (fd_getD_mem hm)
  obtain ⟨_, ⟨a, _, hDa, hpa⟩, _⟩ := id hIp
  obtain ⟨_, ⟨b, _, hDb, hpb⟩, _⟩ := id hIq
  have ha5 := fd_D_le hDa h5p
  have hb5 := fd_D_le hDb h5q
  obtain ⟨s1, s2⟩ := fd_sub6 (a := a) (b := b) (by omega) (by omega)
  refine ys_degPart (by omega) (hpt k hk) hBp h5p hDa (ys_degPart (by omega) (hpt m hm) hBq h5q hDb (nm_e (br_c (fun _ => ?_) (fun z => br_c (fun w => H0 ?_) (fun w => H1 ?_)))))
  · exact ys_before29 (by omega) (by omega) (hpt k hk) (hpt m hm) hBp hBq h5p h5q H1 H0
  · have h1 : a ≠ b := fun e => z (s1.mpr e)
    have h2 := s2.mp w
    exact fun h3 => fd_lt_as h3 (fd_lt_deg hDb.2 hDa hpa (by omega))
  · have h2 : ¬ b ≤ a := fun e => w (s2.mpr e)
    exact fd_lt_deg hDa.2 hDb hpb (by omega)
end
theorem fd_km5 {n : Nat} (h : n < 25) : nI n - nI n / 5 * 5 = nI (n % 5) := by
  have hk : ∀ a : Fin 25, nI a.val - nI a.val / 5 * 5 = nI (a.val % 5) := by decide
  exact hk ⟨n, h⟩
theorem fd_ixS (k i : Nat) : 6 * nI k + 6 + nI i = nI (k * 6 + 6 + i) := by
  have e : (6 : Int32) * nI k + 6 = nI (k * 6 + 6) := fd_ixZ k 6
  rw [e]; exact nI_add _ _
section
variable {post : SY → Prop} {ot : Int32} {rg : Nat → Int32} {md wh td yr yq kp : Nat → Int64} {dg : Nat → Int32}
theorem ys_sortS {L : List (Nat → Int)} {pt : Nat → Int64} (hpt : fd_AL pt L) (hLB : fd_LB L) (hlen : L.length ≤ 5) (hs : List.Pairwise fd_le L) (H : post (nI L.length, ot, rg, md, wh, td, yr, yq, pt, kp, dg)) :
    ∀ k km, km + k = 25 → wY_sort_2 post (nI L.length) ot (k + 1) (nI km) rg md wh td yr yq pt kp dg := by
  intro k
  induction k with
  | zero =>
    intro km hk
    have e : km = 25 := by omega
    subst e
    exact br_t (nI_le (a := 25) (b := 25) (Nat.le_refl _) (by decide)) H
  | succ k ih =>
    intro km hk
    refine br_f (nI_ge (b := 25) (by omega) (by decide)) ⟨by decide, nm_r (fd_km5 (by omega)) ?_⟩
    have e1 : nI (km % 5) + 1 = nI (km % 5 + 1) := nI_1 _
    rw [e1]
    by_cases hc : L.length ≤ km % 5 + 1
    · exact br_t (nI_le hc (by omega)) (nm_r (nI_1 km) (ih (km + 1) (by omega)))
    · refine br_f (nI_ge (by omega) (by omega)) (ys_before hpt hLB hlen (by omega) (by omega) (fun h => absurd h (fd_le_nlt (fd_pw_get hs (by omega) (by omega)))) (fun _ => br_t rfl (nm_r (nI_1 km) (ih (km + 1) (by omega)))))
theorem ys_sort35 {J : Int32 → (Nat → Int32) → (Nat → Int64) → (Nat → Int64) → (Nat → Int64) → (Nat → Int64) → (Nat → Int64) → (Nat → Int64) → (Nat → Int64) → (Nat → Int32) → Prop} {x1 cn : Int32} {p : Nat} {pt : Nat → Int64} (hp : p < 5)
    (H : ∀ t, (∀ j, j < 6 → t (p * 6 + j) = pt (p * 6 + 6 + j)) → (∀ j, j < 6 → t (p * 6 + 6 + j) = pt (p * 6 + j)) → (∀ j, j < p * 6 → t j = pt j) → J (x1 + 1) rg md wh td yr yq t kp dg) : ∃ n, wY_sort_35 post J x1 (nI p) cn ot n 0 rg md wh td yr yq pt kp dg := by
  have key : ∀ (k i : Nat) (t : Nat → Int64), i + k = 6 → (∀ j, j < i → t (p * 6 + j) = pt (p * 6 + 6 + j)) → (∀ j, j < i → t (p * 6 + 6 + j) = pt (p * 6 + j)) → (∀ j, i ≤ j → j < 6 → t (p * 6 + j) = pt (p * 6 + j)) → (∀ j, i ≤ j → t (p * 6 + 6 + j) = pt (p * 6 + 6 + j)) → (∀ j, j < p * 6 → t j = pt j) → wY_sort_35 post J x1 (nI p) cn ot (k + 1) (nI i) rg md wh td yr yq t kp dg := by
    intro k
    induction k with
    | zero =>
      intro i t hi h1 h2 h3 h4 h5
      have e : i = 6 := by omega
      subst e
      exact br_t (nI_le (Nat.le_refl 6) (by decide)) (nm_e (H t h1 h2 h5))
    | succ k ih =>
      intro i t hi h1 h2 h3 h4 h5
      have hi1 : vp_in (6 * nI p + nI i) 36 := by rw [fd_ixZ]; exact vp_in_nI (by omega) (by decide)
      have hi2 : vp_in (6 * nI p + 6 + nI i) 36 := by rw [fd_ixS]; exact vp_in_nI (by omega) (by decide)
      refine br_f (nI_ge (b := 6) (by omega) (by decide)) ⟨hi1, nm_r (e' := pt (p * 6 + i)) (by rw [fd_ixZ, nI_clamp (by omega), h3 i (Nat.le_refl i) (by omega)]) ⟨hi2, hi1, nm_r (e' := vp_updL t (p * 6 + i) (pt (p * 6 + 6 + i))) (by rw [fd_ixZ, fd_ixS, nI_clamp (by omega), nI_clamp (by omega), h4 i (Nat.le_refl i)]) ⟨hi2, nm_r (e' := vp_updL (vp_updL t (p * 6 + i) (pt (p * 6 + 6 + i))) (p * 6 + 6 + i) (pt (p * 6 + i))) (by rw [fd_ixS, nI_clamp (by omega)]) (nm_r (nI_1 i) (ih (i + 1) _ (by omega) (fun j hj => ?_) (fun j hj => ?_) (fun j hj hj6 => ?_) (fun j hj => ?_) (fun j hj => ?_)))⟩⟩⟩
      · rw [fd_uLn (by omega)]
        by_cases e : j = i
        · rw [e, fd_uLs]
        · rw [fd_uLn (by omega)]; exact h1 j (by omega)
      · by_cases e : j = i
        · rw [e, fd_uLs]
        · rw [fd_uLn (by omega), fd_uLn (by omega)]; exact h2 j (by omega)
      · rw [fd_uLn (by omega), fd_uLn (by omega)]; exact h3 j (by omega) hj6
      · rw [fd_uLn (by omega), fd_uLn (by omega)]; exact h4 j (by omega)
      · rw [fd_uLn (by omega), fd_uLn (by omega)]; exact h5 j hj
  exact ⟨7, key 6 0 pt (by omega) (fun j hj => absurd hj (Nat.not_lt_zero j)) (fun j hj => absurd hj (Nat.not_lt_zero j)) (fun _ _ _ => rfl) (fun _ _ => rfl) (fun _ _ => rfl)⟩
theorem fd_getD_x (S : List (Nat → Int)) (x y : Nat → Int) : (S ++ [x, y]).getD S.length fd_z = x := by
  have e : S ++ [x, y] = (S ++ [x]) ++ [y] := by simp
  rw [e, fd_getD_l (by simp), fd_getD_r]
theorem fd_getD_y (S : List (Nat → Int)) (x y : Nat → Int) : (S ++ [x, y]).getD (S.length + 1) fd_z = y := by
  have e : S ++ [x, y] = (S ++ [x]) ++ [y] := by simp
  have h := fd_getD_r (S ++ [x]) y
  rw [List.length_append, List.length_singleton] at h
  rw [e]; exact h
theorem fd_getD_s (S : List (Nat → Int)) (x y : Nat → Int) {k : Nat} (h : k < S.length) : (S ++ [x, y]).getD k fd_z = S.getD k fd_z := by
  have e : S ++ [x, y] = (S ++ [x]) ++ [y] := by simp
  rw [e, fd_getD_l (by rw [List.length_append, List.length_singleton]; omega), fd_getD_l h]
theorem ys_sortU {S : List (Nat → Int)} {x y : Nat → Int} {pt : Nat → Int64} (hpt : fd_AL pt (S ++ [x, y])) (hLB : fd_LB (S ++ [x, y])) (hlen : S.length ≤ 3) (hs : List.Pairwise fd_le S) (hx : ∀ s ∈ S, fd_le s x) (hy : ∀ s ∈ S, fd_le s y) (hlt : fd_lt y x)
    (H : ∀ t, fd_AL t (S ++ [y, x]) → post (nI (S.length + 2), ot, rg, md, wh, td, yr, yq, t, kp, dg)) :
    ∀ k km, km + k = 25 → km ≤ S.length → wY_sort_2 post (nI (S.length + 2)) ot (k + 1) (nI km) rg md wh td yr yq pt kp dg := by
  have hl2 : (S ++ [x, y]).length = S.length + 2 := by simp
  have hl2' : (S ++ [y, x]).length = S.length + 2 := by simp
  intro k
  induction k with
  | zero => intro km hk h; omega
  | succ k ih =>
    intro km hk hkm
    refine br_f (nI_ge (b := 25) (by omega) (by decide)) ⟨by decide, nm_r (fd_km5 (by omega)) ?_⟩
    have e1 : nI (km % 5) + 1 = nI (km % 5 + 1) := nI_1 _
    have e5 : km % 5 = km := by omega
    rw [e1, e5]
    refine br_f (nI_ge (by omega) (by omega)) (ys_before hpt hLB (by omega) (by omega) (by omega) (fun h => ?_) (fun h => ?_))
    · refine br_f (by decide) ?_
      by_cases ek : km = S.length
      · subst ek
        refine ys_sort35 (by omega) (fun t h1 h2 h3 => ?_)
        rw [nI_1]
        have hAL : fd_AL t (S ++ [y, x]) := by
          intro j hj i hi
          rw [hl2'] at hj
          by_cases ej : j = S.length
          · rw [ej, fd_getD_x, h1 i hi]
            have h4 := hpt (S.length + 1) (by omega) i hi
            rw [fd_getD_y] at h4
            rw [← h4]; congr 1; omega
          · by_cases ej1 : j = S.length + 1
            · have h4 := hpt S.length (by omega) i hi
              rw [fd_getD_x] at h4
              have e6 : j * 6 + i = S.length * 6 + 6 + i := by omega
              rw [e6, h2 i hi, h4, ej1, fd_getD_y]
            · have h4 := hpt j (by omega) i hi
              rw [fd_getD_s _ _ _ (by omega)] at h4
              rw [h3 _ (by omega), h4, fd_getD_s _ _ _ (by omega)]
        have hLB' : fd_LB (S ++ [y, x]) := by
          intro p hp
          refine hLB p ?_
          simp only [List.mem_append, List.mem_cons] at hp ⊢
          rcases hp with h | h | h | h
          · exact Or.inl h
          · exact Or.inr (Or.inr (Or.inl h))
          · exact Or.inr (Or.inl h)
          · exact absurd h List.not_mem_nil
        have hsort : List.Pairwise fd_le (S ++ [y, x]) := by
          refine List.pairwise_append.mpr ⟨hs, List.pairwise_cons.mpr ⟨fun z hz => ?_, List.pairwise_singleton _ _⟩, fun s hs' z hz => ?_⟩
          · rw [List.mem_singleton.mp hz]; exact Or.inr hlt
          · rcases List.mem_cons.mp hz with e | e
            · rw [e]; exact hy s hs'
            · rw [List.mem_singleton.mp e]; exact hx s hs'
        have h6 := ys_sortS (post := post) (ot := ot) (rg := rg) (md := md) (wh := wh) (td := td) (yr := yr) (yq := yq) (kp := kp) (dg := dg) hAL hLB' (by omega) hsort (by rw [hl2']; exact H t hAL) k (S.length + 1) (by omega)
        rw [hl2'] at h6
        exact h6
      · exfalso
        have hkS : km < S.length := by omega
        rw [fd_getD_s _ _ _ hkS] at h
        by_cases ek1 : km + 1 = S.length
        · rw [ek1, fd_getD_x] at h
          exact fd_le_nlt (hx _ (fd_getD_mem hkS)) h
        · rw [fd_getD_s _ _ _ (by omega)] at h
          exact fd_le_nlt (fd_pw_get hs (Nat.lt_succ_self km) (by omega)) h
    · by_cases ek : km = S.length
      · subst ek
        rw [fd_getD_x, fd_getD_y] at h
        exact absurd hlt h
      · exact br_t rfl (nm_r (nI_1 km) (ih (km + 1) (by omega) (by omega)))
theorem ys_sort {L : List (Nat → Int)} {pt : Nat → Int64} (hpt : fd_AL pt L) (hLB : fd_LB L) (hlen : L.length ≤ 5) (hs : List.Pairwise fd_le L ∨ ∃ S x y, L = S ++ [x, y] ∧ List.Pairwise fd_le S ∧ (∀ s ∈ S, fd_le s x) ∧ (∀ s ∈ S, fd_le s y) ∧ fd_lt y x)
    (H : ∀ L' t, L'.length = L.length → fd_prod L' = fd_prod L → (∀ p ∈ L', p ∈ L) → List.Pairwise fd_le L' → fd_AL t L' → post (nI L'.length, ot, rg, md, wh, td, yr, yq, t, kp, dg)) : wpY_sort post (nI L.length, ot, rg, md, wh, td, yr, yq, pt, kp, dg) := by
  rcases hs with hs | ⟨S, x, y, eL, hS, hx, hy, hlt⟩
  · exact ⟨25 + 1, ys_sortS hpt hLB hlen hs (H L pt rfl rfl (fun _ h => h) hs hpt) 25 0 (by omega)⟩
  · subst eL
    have hl2 : (S ++ [x, y]).length = S.length + 2 := by simp
    have hl2' : (S ++ [y, x]).length = S.length + 2 := by simp
    refine ⟨25 + 1, ?_⟩
    rw [hl2]
    refine ys_sortU hpt hLB (by omega) hS hx hy hlt (fun t hAL => ?_) 25 0 (by omega) (Nat.zero_le _)
    have h := H (S ++ [y, x]) t (by rw [hl2, hl2']) ?_ (fun p hp => ?_) ?_ hAL
    · rw [hl2'] at h; exact h
    · rw [fd_prod_app, fd_prod_app]; congr 1
      simp only [fd_prod]
      rw [fd_mul_1, fd_mul_1, fd_mul_comm]
    · simp only [List.mem_append, List.mem_cons] at hp ⊢
      rcases hp with h | h | h | h
      · exact Or.inl h
      · exact Or.inr (Or.inr (Or.inl h))
      · exact Or.inr (Or.inl h)
      · exact absurd h List.not_mem_nil
    · refine List.pairwise_append.mpr ⟨hS, List.pairwise_cons.mpr ⟨fun z hz => ?_, List.pairwise_singleton _ _⟩, fun s hs' z hz => ?_⟩
      · rw [List.mem_singleton.mp hz]; exact Or.inr hlt
      · rcases List.mem_cons.mp hz with e | e
        · rw [e]; exact hy s hs'
        · rw [List.mem_singleton.mp e]; exact hx s hs'
end
/-- at most two factors of degree 2 or more stand behind those of degree 1 -/
theorem fd_len2 (T : List (Nat → Int)) (h : ∀ p ∈ T, fd_Irr p) (h2 : ∀ p ∈ T, ∃ d, 2 ≤ d ∧ fd_D p d) : ∃ s, fd_D (fd_prod T) s ∧ 2 * T.length ≤ s := by
  induction T with
  | nil => exact ⟨0, fd_D_c (by decide), Nat.le_refl 0⟩
  | cons p T ih =>
    obtain ⟨s, h3, h4⟩ := ih (fun q hq => h q (List.mem_cons_of_mem _ hq)) (fun q hq => h2 q (List.mem_cons_of_mem _ hq))
    obtain ⟨d, hd, hD⟩ := h2 p (List.mem_cons_self ..)
    exact ⟨d + s, fd_D_mul hD h3, by rw [List.length_cons]; omega⟩
theorem fd_almost {F : Nat → Int} {L1 T : List (Nat → Int)} (hF : fd_H F) (hI : ∀ p ∈ L1 ++ T, fd_Irr p) (hp : fd_prod (L1 ++ T) = F) (s1 : List.Pairwise fd_le L1) (h1 : ∀ p ∈ L1, fd_D p 1) (h2 : ∀ p ∈ T, ∃ d, 2 ≤ d ∧ fd_D p d) : List.Pairwise fd_le (L1 ++ T) ∨ ∃ S x y, L1 ++ T = S ++ [x, y] ∧ List.Pairwise fd_le S ∧ (∀ s ∈ S, fd_le s x) ∧ (∀ s ∈ S, fd_le s y) ∧ fd_lt y x := by
  have hIT : ∀ p ∈ T, fd_Irr p := fun p hpm => hI p (List.mem_append.mpr (Or.inr hpm))
  have hLB := fd_LB_mk hF hI (by rw [hp]; exact fd_dv_refl F)
  obtain ⟨s, hs, hs2⟩ := fd_len2 T hIT h2
  obtain ⟨s', hs', _, _⟩ := fd_prod_D L1 (fun p hpm => hI p (List.mem_append.mpr (Or.inl hpm)))
  have hlen : T.length ≤ 2 := by
    have h3 := fd_D_mul hs' hs
    rw [← fd_prod_app, hp] at h3
    have := fd_D_le h3 hF.2.1
    omega
  have hle : ∀ p ∈ L1, ∀ q ∈ T, fd_le p q := fun p hp1 q hq => by
    obtain ⟨d, hd, hD⟩ := h2 q hq
    exact Or.inr (fd_lt_deg (h1 p hp1).2 hD (fd_irr_pos (hIT q hq) hD) (by omega))
  match T, hlen, hle, hLB with
  | [], _, _, _ => left; rw [List.append_nil]; exact s1
  | [x], _, hle, _ => left; exact List.pairwise_append.mpr ⟨s1, List.pairwise_singleton _ _, hle⟩
  | [x, y], _, hle, hLB =>
    have hx := hLB x (by simp)
    have hy := hLB y (by simp)
    rcases fd_total hx.2.2 hy.2.2 with h | h
    · left
      refine List.pairwise_append.mpr ⟨s1, List.pairwise_cons.mpr ⟨fun z hz => ?_, List.pairwise_singleton _ _⟩, hle⟩
      rw [List.mem_singleton.mp hz]; exact h
    · right
      exact ⟨L1, x, y, rfl, s1, fun s hs => hle s hs x (by simp), fun s hs => hle s hs y (by simp), h⟩
  | (x :: y :: z :: T), hlen, _, _ => simp only [List.length_cons] at hlen; omega
section
variable {post : SY → Prop} {ot : Int32} {rg : Nat → Int32} {md kp : Nat → Int64} {dg : Nat → Int32}
theorem ys_split {cn : Int32} {wh td yr yq pt : Nat → Int64} {r : Nat} (hr : r < 4) (hok : fd_ok rg)
    (H : ∀ L wh td yr yq pt, fd_Fac (fd_reg rg r) L → fd_AL pt L → post (nI L.length, ot, rg, md, wh, td, yr, yq, pt, kp, dg)) : wpY_split post (cn, ot, rg, md, wh, td, yr, yq, pt, kp, dg) (nI r) := by
  unfold wpY_split
  dsimp only
  have h0 := fd_reg_H0 hok hr
  refine ys_take hr (fun wh1 hwh1 => ?_)
  dsimp only
  have hR := fd_reg_R hwh1
  refine ys_makePrimitive hR h0 (fun hz => ?_) (fun wh2 F k d hwh2 hk e hF hp hD hpos => ?_)
  · dsimp only
    have hRz : fd_R wh1 fd_z := by rw [← hz]; exact hR
    refine ys_linZ hRz (ys_sqZ hRz (ys_deg (f := fd_z) (M := 0) hRz (fun i => Nat.le_refl 0) (by decide) (fun _ _ => rfl) (fun _ => br_t (by decide) ?_) (fun d hd hD => absurd rfl hD.1)))
    unfold wY_split_60
    refine ys_sort (L := []) (fd_AL_nil pt) (fun p hp => absurd hp List.not_mem_nil) (Nat.zero_le _) (Or.inl List.Pairwise.nil) (fun L' t hl _ _ _ hAL => ?_)
    have eL : L' = [] := List.length_eq_zero_iff.mp hl
    subst eL
    exact H [] wh1 td yr yq t ⟨fun p hpm => absurd hpm List.not_mem_nil, List.Pairwise.nil, Nat.zero_le _, fun _ => rfl, fun hn => absurd hz hn⟩ hAL
  · dsimp only
    have hfin : ∀ (L T L1 : List (Nat → Int)) (wh td yr yq pt : Nat → Int64), L = L1 ++ T → (∀ p ∈ L, fd_Irr p) → fd_prod L = F → List.Pairwise fd_le L1 → (∀ p ∈ L1, fd_D p 1) → (∀ p ∈ T, ∃ d, 2 ≤ d ∧ fd_D p d) → fd_AL pt L → wY_split_60 post (nI L.length) ot rg md wh td yr yq pt kp dg := by
      intro L T L1 wh td yr yq pt eL hI hprod hs1 hL1 hT hAL
      unfold wY_split_60
      have hlen : L.length ≤ 5 := by
        obtain ⟨s, g1, _, g3⟩ := fd_prod_D L hI
        rw [hprod] at g1
        have := fd_D_le g1 hF.2.1
        omega
      have hal := fd_almost (L1 := L1) (T := T) hF (by rw [← eL]; exact hI) (by rw [← eL]; exact hprod) hs1 hL1 hT
      rw [← eL] at hal
      refine ys_sort hAL (fd_LB_mk hF hI (by rw [hprod]; exact fd_dv_refl F)) hlen hal (fun L' t hl hpr hmem hs' hAL' => ?_)
      exact H L' wh td yr yq t (fd_Fac_mk hk e hF (fun p hpm => hI p (hmem p hpm)) hs' (by rw [hpr, hprod])) hAL'
    refine ys_tryLinear hF hp hD hpos hwh2 (fun f L1 wh td yr yq pt hst hlf hs1 hL1 hwh hpt => ?_)
    dsimp only
    refine ys_trySquare hF hp hst hlf hwh hpt (fun f L L2 wh td yr yq pt eL hP hwh hpt => ?_)
    dsimp only
    have hst2 : fd_St F f L := by rw [eL]; exact hP.1
    refine ys_deg hwh (fd_St_B hF hst2) (by decide) (fd_St_L5 hF.2.1 hst2) (fun z => absurd z (fd_St_nz hst2)) (fun d' hd' hD' => ?_)
    have hT2 : ∀ p ∈ L2, ∃ d, 2 ≤ d ∧ fd_D p d := fun p hpm => ⟨2, Nat.le_refl 2, hP.2.2.1 p hpm⟩
    by_cases hd0 : d' = 0
    · subst hd0
      exact br_t (nI_lt (a := 0) (b := 1) (by decide) (by decide)) (hfin L L2 L1 wh td yr yq pt eL hst2.2.1 (fd_fin0 hp hst2 hD') hs1 hL1 hT2 hpt)
    · obtain ⟨g1, g2, g3⟩ := fd_fin1 hF hp hst2 hP.2.1 hD' (by omega) (fun h4 => fd_P3_end hF hP hD' h4)
      have hlen := fd_St_len hF.2.1 hst2 hD'
      refine br_f (nI_nlt (b := 1) (by omega) (by omega)) ?_
      refine fd_fill (fun n x t => wY_split_32 post (nI L.length) ot n x rg md wh t yr yq pt kp dg) 6 0 wh td (fun n td1 h1 _ => ?_) (fun n i t hi _ hW => ?_)
      · have htd : fd_R td1 f := fun i hi => by have := h1 i hi; rw [Nat.zero_add] at this; rw [this, hwh i hi]
        refine br_t (nI_le (Nat.le_refl 6) (by decide)) (ys_addPart (by omega) (fun pt1 k1 k2 => ?_))
        dsimp only
        have h := hfin (L ++ [f]) (L2 ++ [f]) L1 wh td1 yr yq pt1 (by rw [eL, List.append_assoc]) (fun p hpm => ?_) g3 hs1 hL1 (fun p hpm => ?_) (fd_AL_snoc hpt k1 k2 htd)
        · rw [List.length_append, List.length_singleton] at h
          exact h
        · rcases List.mem_append.mp hpm with h | h
          · exact hst2.2.1 p h
          · rw [List.mem_singleton.mp h]; exact g1
        · rcases List.mem_append.mp hpm with h | h
          · exact hT2 p h
          · rw [List.mem_singleton.mp h]; exact ⟨d', g2, hD'⟩
      · exact br_f (nI_ge (b := 6) hi (by decide)) ⟨vp_in_nI hi (by decide), vp_in_nI hi (by decide), nm_r (by rw [nI_clamp (by omega), Nat.zero_add]) (nm_r (nI_1 i) hW)⟩
end
end
section
/-! registers, keeping a result -/
theorem fd_fill32 (W : Nat → Int32 → (Nat → Int32) → Prop) (N o : Nat) (g a0 : Nat → Int32)
    (hx : ∀ n a, (∀ j, j < N → a (o + j) = g j) → (∀ j, (j < o ∨ o + N ≤ j) → a j = a0 j) → W (n + 1) (nI N) a)
    (hs : ∀ n i a, i < N → (∀ j, (j < o ∨ o + i ≤ j) → a j = a0 j) → W n (nI (i + 1)) (upd a (o + i) (g i)) → W (n + 1) (nI i) a) : ∃ n, W n (nI 0) a0 := by
  have key : ∀ k i a, i + k = N → (∀ j, j < i → a (o + j) = g j) → (∀ j, (j < o ∨ o + i ≤ j) → a j = a0 j) → W (k + 1) (nI i) a := by
    intro k
    induction k with
    | zero =>
      intro i a hi h1 h2
      have e : i = N := by omega
      subst e
      exact hx 0 a h1 h2
    | succ k ih =>
      intro i a hi h1 h2
      refine hs (k + 1) i a (by omega) h2 (ih (i + 1) _ (by omega) (fun j hj => ?_) (fun j hj => ?_))
      · by_cases e : j = i
        · subst e; exact fd_us
        · rw [fd_un (by omega)]; exact h1 j (by omega)
      · rw [fd_un (by omega)]; exact h2 j (by omega)
  exact ⟨N + 1, key N 0 a0 (by omega) (fun j hj => absurd hj (Nat.not_lt_zero j)) (fun j _ => rfl)⟩
theorem fd_r4 (x : Int32) : (∃ r, r < 4 ∧ x = nI r) ∨ (x < 0 ∨ 4 ≤ x) := by
  by_cases h0 : x < 0
  · exact Or.inr (Or.inl h0)
  · by_cases h4 : 4 ≤ x
    · exact Or.inr (Or.inr h4)
    · obtain ⟨j, hj, e⟩ := nI_of h0
      subst e
      refine Or.inl ⟨j, ?_, rfl⟩
      have : ¬ nI 4 ≤ nI j := h4
      rw [nI_leI (by decide) hj] at this
      omega
theorem fd_34 (x : Int32) : (3 < x) ↔ (4 ≤ x) := by
  rw [Int32.lt_iff_toInt_lt, Int32.le_iff_toInt_le]
  have h3 : (3 : Int32).toInt = 3 := by decide
  have h4 : (4 : Int32).toInt = 4 := by decide
  rw [h3, h4]; omega
theorem xs_reg {post : Int32 → Prop} {r : Nat} (hr : r < 4) (H : post 1) : wpX_isRegister post (nI r) :=
  br_f (nI_pos (by omega)) (br_f (nI_ge (b := 4) hr (by decide)) H)
theorem xs_nreg {post : Int32 → Prop} {x : Int32} (h : x < 0 ∨ 4 ≤ x) (H : post 0) : wpX_isRegister post x :=
  br_c (fun _ => H) (fun z => br_t (h.resolve_left z) H)
section
variable {cn ot : Int32} {rg : Nat → Int32} {md wh td yr yq pt kp : Nat → Int64} {dg : Nat → Int32}
theorem ys_nreg {post : Int32 → Prop} {x : Int32} (h : x < 0 ∨ 4 ≤ x) (H : post 0) : wpY_isRegister post (cn, ot, rg, md, wh, td, yr, yq, pt, kp, dg) x :=
  br_c (fun _ => H) (fun z => br_t ((fd_34 x).mpr (h.resolve_left z)) H)
end
/-- what keeping f in register d does: the answer and the registers -/
def fd_K (he : Nat → Int32) (d : Nat) (f : Nat → Int) (r : Int32) (he' : Nat → Int32) : Prop := (¬ fd_H0 f ∧ r = -1001 ∧ he' = he) ∨ (fd_H0 f ∧ (∀ i, i < 6 → he' (d * 6 + i) = fd_i (f i)) ∧ (∀ j, (j < d * 6 ∨ d * 6 + 6 ≤ j) → he' j = he j) ∧ ((f = fd_z ∧ r = -1) ∨ ∃ e, e < 6 ∧ fd_D f e ∧ r = nI e))
theorem fd_K_u {he h1 h2 : Nat → Int32} {d : Nat} {f : Nat → Int} {r1 r2 : Int32} (k1 : fd_K he d f r1 h1) (k2 : fd_K he d f r2 h2) : r2 = r1 ∧ h1 = h2 := by
  rcases k1 with ⟨a1, a2, a3⟩ | ⟨a1, a2, a3, a4⟩
  · rcases k2 with ⟨b1, b2, b3⟩ | ⟨b1, _⟩
    · exact ⟨by rw [a2, b2], by rw [a3, b3]⟩
    · exact absurd b1 a1
  · rcases k2 with ⟨b1, _⟩ | ⟨b1, b2, b3, b4⟩
    · exact absurd a1 b1
    · refine ⟨?_, funext fun j => ?_⟩
      · rcases a4 with ⟨z, e⟩ | ⟨e, _, hD, e2⟩
        · rcases b4 with ⟨_, e'⟩ | ⟨_, _, hD', _⟩
          · rw [e, e']
          · exact absurd z (fd_D_nz hD')
        · rcases b4 with ⟨z, _⟩ | ⟨e', _, hD', e2'⟩
          · exact absurd z (fd_D_nz hD)
          · rw [e2, e2', fd_D_u hD hD']
      · by_cases hj : j < d * 6 ∨ d * 6 + 6 ≤ j
        · rw [a3 j hj, b3 j hj]
        · have e : j = d * 6 + (j - d * 6) := by omega
          rw [e, a2 _ (by omega), b2 _ (by omega)]
theorem fd_K_ok {he he' : Nat → Int32} {d : Nat} {f : Nat → Int} {r : Int32} (hok : fd_ok he) (k : fd_K he d f r he') : fd_ok he' := by
  rcases k with ⟨_, _, a3⟩ | ⟨a1, a2, a3, _⟩
  · rw [a3]; exact hok
  · intro j hj
    by_cases h : j < d * 6 ∨ d * 6 + 6 ≤ j
    · rw [a3 j h]; exact hok j hj
    · have e : j = d * 6 + (j - d * 6) := by omega
      rw [e, a2 _ (by omega), fd_i_toInt (fd_k_lit (by have := a1.1 (j - d * 6); omega))]
      exact a1.1 _
theorem fd_l_m20 : fd_l (-20) = -20 := by decide
theorem xs_keepResult {post : Int32 → SX → Prop} {fc : Int32} {he : Nat → Int32} {re op qu rs wk fo : Nat → Int64} {d : Nat} {f : Nat → Int} (hd : d < 4) (hR : fd_R re f) (hB : fd_B f 4611686018427387904) (hL : fd_L f 5) (H : ∀ r he', fd_K he d f r he' → post r (fc, he', re, op, qu, rs, wk, fo)) : wpX_keepResult post (fc, he, re, op, qu, rs, wk, fo) (nI d) := by
  have hs : ∀ i, fd_s (f i) := fun i => fd_s_of (hB i) (Nat.le_refl _)
  refine fd_upl (fun n x => wX_keepResult_2 post (nI d) fc he re op qu rs wk fo n x) (fun j => -20 ≤ f j ∧ f j ≤ 20) 6 (fun h n => ?_) (fun n i hi h hW => ?_)
  · have h0 : fd_H0 f := ⟨fun i => by
      by_cases hi : i < 6
      · exact h i hi
      · rw [hL i (by omega)]; omega, hL⟩
    refine br_t (nI_le (Nat.le_refl 6) (by decide)) (fd_fill32 (fun n x t => wX_keepResult_46 post (nI d) fc n x t re op qu rs wk fo) 6 (d * 6) (fun i => fd_i (f i)) he (fun n t h1 h2 => ?_) (fun n i t hi _ hW => ?_))
    · exact br_t (nI_le (Nat.le_refl 6) (by decide)) (xs_deg_result hR hB (Nat.le_refl _) hL (fun hz => H _ t (Or.inr ⟨h0, h1, h2, Or.inl ⟨hz, rfl⟩⟩)) (fun e he hD => H _ t (Or.inr ⟨h0, h1, h2, Or.inr ⟨e, he, hD, rfl⟩⟩)))
    · exact br_f (nI_ge (b := 6) hi (by decide)) ⟨vp_in_nI hi (by decide), by rw [fd_ixX]; exact vp_in_nI (by omega) (by decide), nm_r (by rw [fd_ixX, nI_clamp (by omega), nI_clamp (by omega), hR i hi, fd_l_i]) (nm_r (nI_1 i) hW)⟩
  · have hfull : ¬ (-20 ≤ f i ∧ f i ≤ 20) → post (-1001) (fc, he, re, op, qu, rs, wk, fo) := fun hn => H _ he (Or.inl ⟨fun h0 => hn (h0.1 i), rfl, rfl⟩)
    refine br_f (nI_ge (b := 6) hi (by decide)) ⟨vp_in_nI hi (by decide), ?_⟩
    rw [nI_clamp (by omega), hR i hi]
    have l1 : (fd_l (f i) < -20) ↔ f i < -20 := by rw [← fd_l_m20]; exact fd_l_lt (b := -20) (hs i) (fd_s_lit (by decide))
    have l2 : (fd_l (f i) ≤ 20) ↔ f i ≤ 20 := fd_l_le (b := 20) (hs i) (fd_s_lit (by decide))
    refine br_c (fun z => hfull (by have := l1.mp z; omega)) (fun z => ⟨vp_in_nI hi (by decide), br_c (fun w => nm_r (nI_1 i) (hW ?_)) (fun w => hfull (by have : ¬ f i ≤ 20 := fun e => w (l2.mpr e); omega))⟩)
    have h1 : ¬ f i < -20 := fun e => z (l1.mpr e)
    have h2 := l2.mp w
    omega
/-- eleven coefficients -/
def fd_R11 (a : Nat → Int64) (f : Nat → Int) : Prop := ∀ i, i < 11 → a i = fd_l (f i)
theorem fd_56 {i : Nat} (hi : i < 11) : (nI i ≤ 5) ↔ i ≤ 5 := nI_leI (b := 5) (by omega) (by decide)
theorem fd_reg_K {he' : Nat → Int32} {d : Nat} {f : Nat → Int} (h0 : fd_H0 f) (h1 : ∀ i, i < 6 → he' (d * 6 + i) = fd_i (f i)) : fd_reg he' d = f := by
  funext i
  simp only [fd_reg]
  by_cases hi : i < 6
  · rw [if_pos hi, h1 i hi, fd_i_toInt (fd_k_lit (by have := h0.1 i; omega))]
  · rw [if_neg hi, h0.2 i (by omega)]
theorem ys_keep {post : Int32 → SY → Prop} {cn ot : Int32} {rg : Nat → Int32} {md wh td yr yq pt kp : Nat → Int64} {dg : Nat → Int32} {d : Nat} {f : Nat → Int} (hd : d < 4) (hR : fd_R11 md f) (hB : fd_B f 4611686018427387904) (hL : fd_L f 10) (H : ∀ r rg', fd_K rg d f r rg' → post r (cn, ot, rg', md, wh, td, yr, yq, pt, kp, dg)) : wpY_keep post (cn, ot, rg, md, wh, td, yr, yq, pt, kp, dg) (nI d) := by
  have hs : ∀ i, fd_s (f i) := fun i => fd_s_of (hB i) (Nat.le_refl _)
  refine fd_upl (fun n x => wY_keep_2 post (nI d) cn ot rg md wh td yr yq pt kp dg n x) (fun j => (-20 ≤ f j ∧ f j ≤ 20) ∧ (5 < j → f j = 0)) 11 (fun h n => ?_) (fun n i hi h hW => ?_)
  · have h0 : fd_H0 f := ⟨fun i => by
      by_cases hi : i < 11
      · exact (h i hi).1
      · rw [hL i (by omega)]; omega, fun j hj => by
      by_cases hj11 : j < 11
      · exact (h j hj11).2 hj
      · exact hL j (by omega)⟩
    refine br_t (nI_le (Nat.le_refl 11) (by decide)) (fd_fill32 (fun n x t => wY_keep_62 post (nI d) cn ot n x t md wh td yr yq pt kp dg) 6 (d * 6) (fun i => fd_i (f i)) rg (fun n t h1 h2 => ?_) (fun n i t hi _ hW => ?_))
    · have e := fd_reg_K h0 h1
      exact br_t (nI_le (Nat.le_refl 6) (by decide)) (ys_degree hd (fun hz => H _ t (Or.inr ⟨h0, h1, h2, Or.inl ⟨by rw [← e]; exact hz, rfl⟩⟩)) (fun e' he hD => H _ t (Or.inr ⟨h0, h1, h2, Or.inr ⟨e', he, by rw [← e]; exact hD, rfl⟩⟩)))
    · exact br_f (nI_ge (b := 6) hi (by decide)) ⟨vp_in_nI (by omega) (by decide), by rw [fd_ixZ]; exact vp_in_nI (by omega) (by decide), nm_r (by rw [fd_ixZ, nI_clamp (by omega), nI_clamp (by omega), hR i (by omega), fd_l_i]) (nm_r (nI_1 i) hW)⟩
  · have hfull : ¬ ((-20 ≤ f i ∧ f i ≤ 20) ∧ (5 < i → f i = 0)) → post (-1001) (cn, ot, rg, md, wh, td, yr, yq, pt, kp, dg) := fun hn => H _ rg (Or.inl ⟨fun h0 => hn ⟨h0.1 i, fun h5 => h0.2 i h5⟩, rfl, rfl⟩)
    refine br_f (nI_ge (b := 11) hi (by decide)) ⟨vp_in_nI hi (by decide), ?_⟩
    rw [nI_clamp (by omega), hR i hi]
    have l1 : (fd_l (f i) < -20) ↔ f i < -20 := by rw [← fd_l_m20]; exact fd_l_lt (b := -20) (hs i) (fd_s_lit (by decide))
    have l2 : (20 < fd_l (f i)) ↔ 20 < f i := fd_l_lt (a := 20) (fd_s_lit (by decide)) (hs i)
    refine br_c (fun z => hfull (by have := l1.mp z; omega)) (fun z => ⟨vp_in_nI hi (by decide), br_c (fun w => hfull (by have := l2.mp w; omega)) (fun w => ?_)⟩)
    have h1 : ¬ f i < -20 := fun e => z (l1.mpr e)
    have h2 : ¬ 20 < f i := fun e => w (l2.mpr e)
    refine br_c (fun v => nm_r (nI_1 i) (hW ⟨by omega, fun h5 => absurd ((fd_56 hi).mp v) (by omega)⟩)) (fun v => ⟨vp_in_nI hi (by decide), br_c (fun y => nm_r (nI_1 i) (hW ⟨by omega, fun _ => (fd_l_z (hs i)).mp y⟩)) (fun y => hfull fun hh => y ((fd_l_z (hs i)).mpr (hh.2 ?_)))⟩)
    have : ¬ i ≤ 5 := fun e => v ((fd_56 hi).mpr e)
    omega
/-! the relation -/
/-- both hold the same registers, and each coefficient is within -20 .. 20; all else is work space -/
def i_Rel (k : Nat) (u : SX) (v : SY) : Prop := u.2.1 = v.2.2.1 ∧ fd_ok u.2.1
theorem i_up {k : Nat} {u : SX} {v : SY} (h : i_Rel k u v) : i_Rel (k + 5) u v := h
theorem i_vc0 : wpX_init (fun u => wpY_init (fun v => i_Rel 0 u v)) := ⟨rfl, fun j _ => by
  show -20 ≤ (0 : Int32).toInt ∧ (0 : Int32).toInt ≤ 20
  decide⟩
theorem fd_r6 (x : Int32) : (∃ r, r < 6 ∧ x = nI r) ∨ (x < 0 ∨ 6 ≤ x) := by
  by_cases h0 : x < 0
  · exact Or.inr (Or.inl h0)
  · by_cases h4 : 6 ≤ x
    · exact Or.inr (Or.inr h4)
    · obtain ⟨j, hj, e⟩ := nI_of h0
      subst e
      refine Or.inl ⟨j, ?_, rfl⟩
      have : ¬ nI 6 ≤ nI j := h4
      rw [nI_leI (by decide) hj] at this
      omega
theorem fd_56x (x : Int32) : (5 < x) ↔ (6 ≤ x) := by
  rw [Int32.lt_iff_toInt_lt, Int32.le_iff_toInt_le]
  have h3 : (5 : Int32).toInt = 5 := by decide
  have h4 : (6 : Int32).toInt = 6 := by decide
  rw [h3, h4]; omega
theorem xs_pow {post : Int32 → Prop} {r : Nat} (hr : r < 6) (H : post 1) : wpX_isPower post (nI r) :=
  br_f (nI_pos (by omega)) (br_f (nI_ge (b := 6) hr (by decide)) H)
theorem xs_npow {post : Int32 → Prop} {x : Int32} (h : x < 0 ∨ 6 ≤ x) (H : post 0) : wpX_isPower post x :=
  br_c (fun _ => H) (fun z => br_t (h.resolve_left z) H)
theorem fd_in24 {r i : Nat} (hr : r < 4) (hi : i < 6) : vp_in (nI (r * 6 + i)) 24 := vp_in_nI (by omega) (by decide)
theorem i_vc_set {k : Nat} {u : SX} {v : SY} (I : i_Rel k u v) (hk : k + 5 ≤ 2560) (v1 : Int32) (v2 : Int32) (v3 : Int32) : wpX_set (fun r u' => wpY_set (fun r' v' => r' = r ∧ i_Rel (k + 5) u' v') v v1 v2 v3) u v1 v2 v3 := by
  obtain ⟨fc, he, re, op, qu, rs, wk, fo⟩ := u
  obtain ⟨cn, ot, rg, md, wh, td, yr, yq, pt, kp, dg⟩ := v
  obtain ⟨e, hok⟩ := I
  dsimp only at e hok
  subst e
  unfold wpX_set wpY_set
  dsimp only
  rcases fd_r4 v1 with ⟨r, hr, e⟩ | h1
  · subst e
    refine xs_reg hr (br_f (by decide) ?_)
    rcases fd_r6 v2 with ⟨i, hi, e⟩ | h2
    · subst e
      have h5 : ¬ (5 : Int32) < nI i := fun z => (nI_ge (b := 6) hi (by decide)) ((fd_56x _).mp z)
      have hin : vp_in (nI r * 6 + nI i) 24 := by rw [fd_ixX]; exact fd_in24 hr hi
      have hin' : vp_in (6 * nI r + nI i) 24 := by rw [fd_ixZ]; exact fd_in24 hr hi
      refine xs_pow hi (br_f (by decide) (br_c (fun z => ys_isRegister hr (br_f (by decide) (br_f (nI_pos (by omega)) (br_f h5 (br_t z ⟨rfl, rfl, hok⟩))))) (fun z => br_c (fun w => ⟨hin, fun a ea => ?_⟩) (fun w => ys_isRegister hr (br_f (by decide) (br_f (nI_pos (by omega)) (br_f h5 (br_f z (br_f w ⟨rfl, rfl, hok⟩)))))))))
      refine ys_isRegister hr (br_f (by decide) (br_f (nI_pos (by omega)) (br_f h5 (br_f z (br_t w ⟨hin', fun b eb => ⟨rfl, ?_, ?_⟩⟩)))))
      · show a = b
        rw [ea, eb, fd_ixX, fd_ixZ]
      · show fd_ok a
        intro j hj
        rw [ea, fd_ixX, nI_clamp (by omega)]
        by_cases ej : j = r * 6 + i
        · rw [ej, fd_us]
          have a1 := Int32.le_iff_toInt_le.mp w
          have a2 : ¬ v3.toInt < (-20 : Int32).toInt := fun y => z (Int32.lt_iff_toInt_lt.mpr y)
          have h3 : (20 : Int32).toInt = 20 := by decide
          have h4 : (-20 : Int32).toInt = -20 := by decide
          rw [h3] at a1
          rw [h4] at a2
          omega
        · rw [fd_un ej]; exact hok j hj
    · refine xs_npow h2 (br_t rfl (ys_isRegister hr (br_f (by decide) (br_c (fun _ => ⟨rfl, rfl, hok⟩) (fun z => br_t ((fd_56x _).mpr (h2.resolve_left z)) ⟨rfl, rfl, hok⟩)))))
  · exact xs_nreg h1 (br_t rfl (ys_nreg h1 (br_t rfl ⟨rfl, rfl, hok⟩)))
theorem i_vc_get {k : Nat} {u : SX} {v : SY} (I : i_Rel k u v) (hk : k + 5 ≤ 2560) (v1 : Int32) (v2 : Int32) : wpX_get (fun r => wpY_get (fun r' => r' = r ∧ i_Rel (k + 5) u v) v v1 v2) u v1 v2 := by
  obtain ⟨fc, he, re, op, qu, rs, wk, fo⟩ := u
  obtain ⟨cn, ot, rg, md, wh, td, yr, yq, pt, kp, dg⟩ := v
  obtain ⟨e, hok⟩ := I
  dsimp only at e hok
  subst e
  unfold wpX_get wpY_get
  dsimp only
  rcases fd_r4 v1 with ⟨r, hr, e⟩ | h1
  · subst e
    refine xs_reg hr (br_f (by decide) ?_)
    rcases fd_r6 v2 with ⟨i, hi, e⟩ | h2
    · subst e
      have h5 : ¬ (5 : Int32) < nI i := fun z => (nI_ge (b := 6) hi (by decide)) ((fd_56x _).mp z)
      refine xs_pow hi (br_f (by decide) ⟨by rw [fd_ixX]; exact fd_in24 hr hi, ys_isRegister hr (br_f (by decide) (br_f (nI_pos (by omega)) (br_f h5 ⟨by rw [fd_ixZ]; exact fd_in24 hr hi, by rw [fd_ixX, fd_ixZ], rfl, hok⟩)))⟩)
    · exact xs_npow h2 (br_t rfl (ys_isRegister hr (br_f (by decide) (br_c (fun _ => ⟨rfl, rfl, hok⟩) (fun z => br_t ((fd_56x _).mpr (h2.resolve_left z)) ⟨rfl, rfl, hok⟩)))))
  · exact xs_nreg h1 (br_t rfl (ys_nreg h1 (br_t rfl ⟨rfl, rfl, hok⟩)))
theorem i_vc_degree {k : Nat} {u : SX} {v : SY} (I : i_Rel k u v) (hk : k + 5 ≤ 2560) (v1 : Int32) : wpX_degree (fun r u' => wpY_degree (fun r' => r' = r ∧ i_Rel (k + 5) u' v) v v1) u v1 := by
  obtain ⟨fc, he, re, op, qu, rs, wk, fo⟩ := u
  obtain ⟨cn, ot, rg, md, wh, td, yr, yq, pt, kp, dg⟩ := v
  obtain ⟨e, hok⟩ := I
  dsimp only at e hok
  subst e
  unfold wpX_degree
  dsimp only
  rcases fd_r4 v1 with ⟨r, hr, e⟩ | h1
  · subst e
    refine xs_reg hr (br_f (by decide) (xs_load_result hr (fun re1 hre => ?_)))
    dsimp only
    have h0 := fd_reg_H0 hok hr
    refine xs_deg_result (fd_reg_R hre) (fd_H0_B h0) (by decide) h0.2 (fun hz => ?_) (fun d hd hD => ?_)
    · exact ys_degree hr (fun _ => ⟨rfl, rfl, hok⟩) (fun d' _ hD' => absurd hz (fd_D_nz hD'))
    · exact ys_degree hr (fun hz => absurd hz (fd_D_nz hD)) (fun d' _ hD' => ⟨by rw [fd_D_u hD hD'], rfl, hok⟩)
  · refine xs_nreg h1 (br_t rfl ?_)
    unfold wpY_degree
    dsimp only
    exact ys_nreg h1 (br_t rfl ⟨rfl, rfl, hok⟩)
end
section
/-! at, rootsModulo, content, factors, factor -/
theorem xs_valueAt {post : Int64 → Prop} {fc : Int32} {he : Nat → Int32} {re op qu rs wk fo : Nat → Int64} {r : Nat} {x : Int} (hr : r < 4) (hx : fd_k x) (H : post (fd_l (fd_ev (fd_reg he r) x 6 0))) : wpX_valueAt post (fc, he, re, op, qu, rs, wk, fo) (nI r) (fd_i x) := by
  have key : ∀ (k : Nat) (v : Int), k ≤ 6 → post (fd_l (fd_ev (fd_reg he r) x k v)) → wX_valueAt_5 post (nI r) (fd_i x) fc he re op qu rs wk fo (k + 1) (fd_l v) (nI k + (-1)) := by
    intro k
    induction k with
    | zero => intro v _ h; exact br_t (by decide) h
    | succ k ih =>
      intro v hk h
      rw [fd_m1]
      refine br_f (nI_pos (by omega)) ⟨by rw [fd_ixX]; exact vp_in_nI (by omega) (by decide), nm_r (e' := fd_l (v * x + fd_reg he r k)) ?_ (nm_e (ih _ (by omega) h))⟩
      rw [fd_ixX, nI_clamp (by omega), fd_i_l hx, fd_of32, fd_l_mul, fd_l_add]
      simp only [fd_reg]; rw [if_pos (by omega)]
  exact ⟨7, key 6 0 (Nat.le_refl 6) H⟩
theorem ys_at {post : Int64 → Prop} {cn ot : Int32} {rg : Nat → Int32} {md wh td yr yq pt kp : Nat → Int64} {dg : Nat → Int32} {r : Nat} {x : Int} (hr : r < 4) (hx1 : -1000 ≤ x) (hx2 : x ≤ 1000) (H : post (fd_l (fd_ev (fd_reg rg r) x 6 0))) : wpY_at post (cn, ot, rg, md, wh, td, yr, yq, pt, kp, dg) (nI r) (fd_i x) := by
  have hx : fd_k x := fd_k_lit (by omega)
  have key : ∀ (k : Nat) (v : Int), k ≤ 6 → post (fd_l (fd_ev (fd_reg rg r) x k v)) → wY_at_29 post (nI r) (fd_i x) cn ot rg md wh td yr yq pt kp dg (k + 1) (fd_l v) (nI k + (-1)) := by
    intro k
    induction k with
    | zero => intro v _ h; exact br_t (by decide) h
    | succ k ih =>
      intro v hk h
      rw [fd_m1]
      refine br_f (nI_pos (by omega)) ⟨by rw [fd_ixZ]; exact vp_in_nI (by omega) (by decide), nm_r (e' := fd_l (v * x + fd_reg rg r k)) ?_ (nm_e (ih _ (by omega) h))⟩
      rw [fd_ixZ, nI_clamp (by omega), fd_i_l hx, fd_of32, fd_l_mul, fd_l_add]
      simp only [fd_reg]; rw [if_pos (by omega)]
  have hm : fd_i (-1000) = -1000 := by decide
  have hp : fd_i 1000 = 1000 := by decide
  unfold wpY_at
  dsimp only
  refine ys_isRegister hr (br_f (by decide) (br_f (fun z => ?_) (br_t ?_ ⟨7, key 6 0 (Nat.le_refl 6) H⟩)))
  · rw [← hm, fd_i_lt hx (fd_k_lit (by decide))] at z; omega
  · rw [← hp, fd_i_le hx (fd_k_lit (by decide))]; exact hx2
theorem i_vc_at {k : Nat} {u : SX} {v : SY} (I : i_Rel k u v) (hk : k + 5 ≤ 2560) (v1 : Int32) (v2 : Int32) : wpX_at (fun r => wpY_at (fun r' => r' = r ∧ i_Rel (k + 5) u v) v v1 v2) u v1 v2 := by
  obtain ⟨fc, he, re, op, qu, rs, wk, fo⟩ := u
  obtain ⟨cn, ot, rg, md, wh, td, yr, yq, pt, kp, dg⟩ := v
  obtain ⟨e, hok⟩ := I
  dsimp only at e hok
  subst e
  unfold wpX_at
  dsimp only
  rcases fd_r4 v1 with ⟨r, hr, e⟩ | h1
  · subst e
    refine xs_reg hr (br_f (by decide) (br_c (fun z => ?_) (fun z => br_c (fun w => ?_) (fun w => ?_))))
    · unfold wpY_at
      dsimp only
      exact ys_isRegister hr (br_f (by decide) (br_t z ⟨rfl, rfl, hok⟩))
    · have a1 := Int32.le_iff_toInt_le.mp w
      have a2 : ¬ v2.toInt < (-1000 : Int32).toInt := fun y => z (Int32.lt_iff_toInt_lt.mpr y)
      have h3 : (1000 : Int32).toInt = 1000 := by decide
      have h4 : (-1000 : Int32).toInt = -1000 := by decide
      rw [h3] at a1
      rw [h4] at a2
      rw [← fd_i_of v2]
      exact xs_valueAt hr (fd_k_lit (by omega)) (ys_at hr (by omega) a1 ⟨rfl, rfl, hok⟩)
    · unfold wpY_at
      dsimp only
      exact ys_isRegister hr (br_f (by decide) (br_f z (br_f w ⟨rfl, rfl, hok⟩)))
  · refine xs_nreg h1 (br_t rfl ?_)
    unfold wpY_at
    dsimp only
    exact ys_nreg h1 (br_t rfl ⟨rfl, rfl, hok⟩)
theorem fd_ev_B {f : Nat → Int} (hf : fd_B f 20) {x : Int} (hx : x.natAbs ≤ 7) : ∀ (n : Nat) (v : Int) (V : Nat), v.natAbs ≤ V → (fd_ev f x n v).natAbs ≤ (V + 20 * n) * 7 ^ n := by
  intro n
  induction n with
  | zero => intro v V h; simpa [fd_ev] using h
  | succ n ih =>
    intro v V h
    rw [fd_ev]
    have h1 : (v * x).natAbs ≤ V * 7 := by rw [Int.natAbs_mul]; exact Nat.mul_le_mul h hx
    have h2 := hf n
    have h3 := ih (v * x + f n) (V * 7 + 20) (by omega)
    refine Nat.le_trans h3 ?_
    rw [Nat.pow_succ, ← Nat.mul_assoc, Nat.mul_right_comm]
    exact Nat.mul_le_mul_right _ (by omega)
def fd_cn (p : Int) (val : Nat → Int) : Nat → Nat → Nat
  | _, 0 => 0
  | x, k + 1 => (if p ∣ val x then 1 else 0) + fd_cn p val (x + 1) k
theorem fd_mod4 {post : Int32 → Prop} {x : Int32} (H1 : ∀ p : Nat, (p = 2 ∨ p = 3 ∨ p = 5 ∨ p = 7) → x = nI p → post 1) (H0 : ¬ x = 2 → ¬ x = 3 → ¬ x = 5 → ¬ x = 7 → post 0) : wpX_isModulus post x :=
  br_c (fun z => H1 2 (by omega) z) (fun z2 => br_c (fun z => H1 3 (by omega) z) (fun z3 => br_c (fun z => H1 5 (by omega) z) (fun z5 => br_c (fun z => H1 7 (by omega) z) (fun z7 => H0 z2 z3 z5 z7))))
section
variable {cn ot : Int32} {rg : Nat → Int32} {md wh td yr yq pt kp : Nat → Int64} {dg : Nat → Int32}
theorem ys_prime {post : Int32 → Prop} {p : Nat} (hp : p = 2 ∨ p = 3 ∨ p = 5 ∨ p = 7) (H : post 1) : wpY_isPrime post (cn, ot, rg, md, wh, td, yr, yq, pt, kp, dg) (nI p) :=
  br_c (fun _ => H) (fun z2 => br_c (fun _ => H) (fun z3 => br_c (fun _ => H) (fun z5 => br_c (fun _ => H) (fun z7 => by
    rcases hp with e | e | e | e
    · subst e; exact absurd rfl z2
    · subst e; exact absurd rfl z3
    · subst e; exact absurd rfl z5
    · subst e; exact absurd rfl z7))))
theorem ys_nprime {post : Int32 → Prop} {x : Int32} (h2 : ¬ x = 2) (h3 : ¬ x = 3) (h5 : ¬ x = 5) (h7 : ¬ x = 7) (H : post 0) : wpY_isPrime post (cn, ot, rg, md, wh, td, yr, yq, pt, kp, dg) x :=
  br_f h2 (br_f h3 (br_f h5 (br_f h7 H)))
end
theorem i_vc_rootsModulo {k : Nat} {u : SX} {v : SY} (I : i_Rel k u v) (hk : k + 5 ≤ 2560) (v1 : Int32) (v2 : Int32) : wpX_rootsModulo (fun r => wpY_rootsModulo (fun r' => r' = r ∧ i_Rel (k + 5) u v) v v1 v2) u v1 v2 := by
  obtain ⟨fc, he, re, op, qu, rs, wk, fo⟩ := u
  obtain ⟨cn, ot, rg, md, wh, td, yr, yq, pt, kp, dg⟩ := v
  obtain ⟨e, hok⟩ := I
  dsimp only at e hok
  subst e
  unfold wpX_rootsModulo wpY_rootsModulo
  dsimp only
  rcases fd_r4 v1 with ⟨r, hr, e⟩ | h1
  · subst e
    have h0 := fd_reg_H0 hok hr
    refine xs_reg hr (br_f (by decide) (fd_mod4 (fun p hp ep => br_f (by decide) ?_) (fun h2 h3 h5 h7 => br_t rfl (ys_isRegister hr (br_f (by decide) (ys_nprime h2 h3 h5 h7 (br_t rfl ⟨rfl, rfl, hok⟩)))))))
    subst ep
    have hp7 : p ≤ 7 := by omega
    have hp2 : 2 ≤ p := by omega
    have hps : fd_s (p : Int) := fd_s_lit (by omega)
    have hpz : ¬ fd_l (p : Int) = 0 := fun z => by have := (fd_l_z hps).mp z; omega
    have hvs : ∀ x : Nat, x < 7 → fd_s (fd_ev (fd_reg he r) (x : Int) 6 0) := fun x hx => fd_s_of (fd_ev_B (fd_H0_B h0) (by omega) 6 0 0 (by decide)) (by decide)
    have hX : ∀ (post : Int32 → Prop) (k x c : Nat), x + k = p → post (nI (c + fd_cn p (fun x => fd_ev (fd_reg he r) (x : Int) 6 0) x k)) → wX_rootsModulo_23 post (nI r) (nI p) fc he re op qu rs wk fo (k + 1) (nI c) (nI x) := by
      intro post k
      induction k with
      | zero =>
        intro x c hx h
        have e : x = p := by omega
        subst e
        exact br_t (nI_le (Nat.le_refl x) (by omega)) h
      | succ k ih =>
        intro x c hx h
        rw [fd_cn] at h
        refine br_f (nI_ge (by omega) (by omega)) ?_
        rw [← fd_i_nat x]
        refine xs_valueAt hr (fd_k_lit (by omega)) ⟨by rw [fd_l64n p (by omega)]; exact hpz, ?_⟩
        rw [fd_l64n p (by omega)]
        by_cases hdv : (p : Int) ∣ fd_ev (fd_reg he r) (x : Int) 6 0
        · rw [if_pos hdv] at h
          refine br_t ((fd_l_rem0 (hvs x (by omega)) hps).mpr hdv) (nm_r (nI_1 c) ?_)
          rw [fd_i_nat]
          refine nm_r (nI_1 x) (ih (x + 1) (c + 1) (by omega) ?_)
          rw [Nat.add_assoc]; exact h
        · rw [if_neg hdv, Nat.zero_add] at h
          refine br_f (fun z => hdv ((fd_l_rem0 (hvs x (by omega)) hps).mp z)) ?_
          rw [fd_i_nat]
          exact nm_r (nI_1 x) (ih (x + 1) c (by omega) h)
    have hY : ∀ (post : Int32 → Prop) (k x c : Nat), x + k = p → post (nI (c + fd_cn p (fun x => fd_ev (fd_reg he r) (x : Int) 6 0) x k)) → wY_rootsModulo_25 post (nI r) (nI p) cn ot he md wh td yr yq pt kp dg (k + 1) (nI c) (nI x) := by
      intro post k
      induction k with
      | zero =>
        intro x c hx h
        have e : x = p := by omega
        subst e
        exact br_t (nI_le (Nat.le_refl x) (by omega)) h
      | succ k ih =>
        intro x c hx h
        rw [fd_cn] at h
        refine br_f (nI_ge (by omega) (by omega)) ?_
        rw [← fd_i_nat x]
        refine ys_at hr (by omega) (by omega) (br_t (nI_le (a := 1) (by omega) (by omega)) ?_)
        unfold wY_rootsModulo_48
        rw [fd_l64n p (by omega)]
        refine ⟨hpz, ?_⟩
        by_cases hdv : (p : Int) ∣ fd_ev (fd_reg he r) (x : Int) 6 0
        · rw [if_pos hdv] at h
          refine br_t ((fd_l_rem0 (hvs x (by omega)) hps).mpr hdv) (nm_r (nI_1 c) ?_)
          rw [fd_i_nat]
          refine nm_r (nI_1 x) (ih (x + 1) (c + 1) (by omega) ?_)
          rw [Nat.add_assoc]; exact h
        · rw [if_neg hdv, Nat.zero_add] at h
          refine br_f (fun z => hdv ((fd_l_rem0 (hvs x (by omega)) hps).mp z)) ?_
          rw [fd_i_nat]
          exact nm_r (nI_1 x) (ih (x + 1) c (by omega) h)
    exact ⟨p + 1, hX _ p 0 0 (by omega) (ys_isRegister hr (br_f (by decide) (ys_prime hp (br_f (by decide) ⟨p + 1, hY _ p 0 0 (by omega) ⟨rfl, rfl, hok⟩⟩))))⟩
  · exact xs_nreg h1 (br_t rfl (ys_nreg h1 (br_t rfl ⟨rfl, rfl, hok⟩)))
theorem i_vc_content {k : Nat} {u : SX} {v : SY} (I : i_Rel k u v) (hk : k + 5 ≤ 2560) (v1 : Int32) : wpX_content (fun r u' => wpY_content (fun r' v' => r' = r ∧ i_Rel (k + 5) u' v') v v1) u v1 := by
  obtain ⟨fc, he, re, op, qu, rs, wk, fo⟩ := u
  obtain ⟨cn, ot, rg, md, wh, td, yr, yq, pt, kp, dg⟩ := v
  obtain ⟨e, hok⟩ := I
  dsimp only at e hok
  subst e
  unfold wpX_content wpY_content
  dsimp only
  rcases fd_r4 v1 with ⟨r, hr, e⟩ | h1
  · subst e
    have h0 := fd_reg_H0 hok hr
    refine xs_reg hr (br_f (by decide) (xs_load_result hr (fun re1 hre => ?_)))
    dsimp only
    refine xs_contentOf_result (fd_reg_R hre) h0 (fun hz => ?_) (fun c d hD hc => ?_)
    · refine ys_isRegister hr (br_f (by decide) (ys_take hr (fun wh1 hwh => ?_)))
      dsimp only
      exact ys_deg (fd_reg_R hwh) (fd_H0_B h0) (by decide) h0.2 (fun _ => br_f (by decide) ⟨rfl, rfl, hok⟩) (fun d _ hD => absurd hz (fd_D_nz hD))
    · refine ys_isRegister hr (br_f (by decide) (ys_take hr (fun wh1 hwh => ?_)))
      dsimp only
      refine ys_deg (fd_reg_R hwh) (fd_H0_B h0) (by decide) h0.2 (fun hz => absurd hz (fd_D_nz hD)) (fun d' _ _ => br_t (nI_pos' (by omega)) (ys_bigCommon (fd_reg_R hwh) h0 (fd_D_nz hD) (fun c' hc' => ⟨?_, rfl, hok⟩)))
      rw [fd_cont_u hc hc', fd_l_i, fd_i_nat]
  · exact xs_nreg h1 (br_t rfl (ys_nreg h1 (br_t rfl ⟨rfl, rfl, hok⟩)))
theorem i_vc_factors {k : Nat} {u : SX} {v : SY} (I : i_Rel k u v) (hk : k + 5 ≤ 2560) (v1 : Int32) : wpX_factors (fun r u' => wpY_factors (fun r' v' => r' = r ∧ i_Rel (k + 5) u' v') v v1) u v1 := by
  obtain ⟨fc, he, re, op, qu, rs, wk, fo⟩ := u
  obtain ⟨cn, ot, rg, md, wh, td, yr, yq, pt, kp, dg⟩ := v
  obtain ⟨e, hok⟩ := I
  dsimp only at e hok
  subst e
  unfold wpX_factors wpY_factors
  dsimp only
  rcases fd_r4 v1 with ⟨r, hr, e⟩ | h1
  · subst e
    refine xs_reg hr (br_f (by decide) (xs_findFactors hr hok (fun L op qu rs wk fo hF hfo => ?_)))
    dsimp only
    refine ys_isRegister hr (br_f (by decide) (ys_split hr hok (fun L' wh td yr yq pt hF' hpt => ?_)))
    dsimp only
    exact ⟨by rw [fd_Fac_u hF hF'], rfl, hok⟩
  · exact xs_nreg h1 (br_t rfl (ys_nreg h1 (br_t rfl ⟨rfl, rfl, hok⟩)))
/-- bounds for all of a register's factors -/
theorem fd_Fac_LB {f : Nat → Int} {L : List (Nat → Int)} (h0 : fd_H0 f) (h : fd_Fac f L) : fd_LB L := by
  by_cases hz : f = fd_z
  · rw [h.2.2.2.1 hz]; exact fun p hp => absurd hp List.not_mem_nil
  · obtain ⟨c, hc, e⟩ := h.2.2.2.2 hz
    exact fd_LB_mk ⟨h0.1, h0.2, hz⟩ h.1 ⟨fd_c c, fd_F_c c, by rw [fd_mul_c]; exact e.symm⟩
theorem fd_B_mono {f : Nat → Int} {M N : Nat} (h : fd_B f M) (hMN : M ≤ N) : fd_B f N := fun i => Nat.le_trans (h i) hMN
theorem ys_factor {post : Int32 → SY → Prop} {cn ot : Int32} {rg : Nat → Int32} {md wh td yr yq pt kp : Nat → Int64} {dg : Nat → Int32} {d r : Nat} {v3 : Int32} {L : List (Nat → Int)} (hd : d < 4) (hr : r < 4) (hok : fd_ok rg) (hF : fd_Fac (fd_reg rg r) L)
    (Hn : (v3 < 0 ∨ ¬ v3 < nI L.length) → ∀ cn ot md wh td yr yq pt kp dg, post (-1002) (cn, ot, rg, md, wh, td, yr, yq, pt, kp, dg))
    (H : ∀ j, j < L.length → v3 = nI j → ∀ r rg', fd_K rg d (L.getD j fd_z) r rg' → ∀ cn ot md wh td yr yq pt kp dg, post r (cn, ot, rg', md, wh, td, yr, yq, pt, kp, dg)) : wpY_factor post (cn, ot, rg, md, wh, td, yr, yq, pt, kp, dg) (nI d) (nI r) v3 := by
  unfold wpY_factor
  dsimp only
  refine ys_isRegister hd (br_f (by decide) (ys_isRegister hr (br_f (by decide) (ys_split hr hok (fun L' wh td yr yq pt hF' hpt => ?_)))))
  rw [← fd_Fac_u hF hF'] at hpt ⊢
  dsimp only
  refine br_c (fun z => Hn (Or.inl z) _ _ _ _ _ _ _ _ _ _) (fun z => br_c (fun w => ?_) (fun w => Hn (Or.inr w) _ _ _ _ _ _ _ _ _ _))
  obtain ⟨j, hj, e⟩ := nI_of z
  subst e
  have h0 := fd_reg_H0 hok hr
  have hlen := hF.2.2.1
  have hjL : j < L.length := (nI_ltI hj (by omega)).mp w
  obtain ⟨_, hB, h5⟩ := fd_Fac_LB h0 hF _ (fd_getD_mem hjL)
  have hB' := fd_B_mono hB (by decide : 170000 ≤ 4611686018427387904)
  refine ys_clearMade (fun md1 hmd => ?_)
  dsimp only
  refine fd_fill (fun n x t => wY_factor_48 post (nI d) (nI j) (nI L.length) ot n x rg t wh td yr yq pt kp dg) 6 0 (fun i => pt (j * 6 + i)) md1 (fun n t k1 k2 => ?_) (fun n i t hi _ hW => ?_)
  · refine br_t (nI_le (Nat.le_refl 6) (by decide)) (ys_keep hd (f := L.getD j fd_z) (fun i hi => ?_) hB' (fd_L_mono h5 (by decide)) (fun r2 he2 hK2 => H j hjL rfl r2 he2 hK2 _ _ _ _ _ _ _ _ _ _))
    by_cases h6 : i < 6
    · have := k1 i h6
      rw [Nat.zero_add] at this
      rw [this]; exact hpt j hjL i h6
    · rw [k2 i (by omega), hmd i hi, h5 i (by omega)]; exact fd_l_0.symm
  · exact br_f (nI_ge (b := 6) hi (by decide)) ⟨by rw [fd_ixZ]; exact vp_in_nI (by omega) (by decide), vp_in_nI (by omega) (by decide), nm_r (by rw [fd_ixZ, nI_clamp (by omega), nI_clamp (by omega), Nat.zero_add]) (nm_r (nI_1 i) hW)⟩
theorem i_vc_factor {k : Nat} {u : SX} {v : SY} (I : i_Rel k u v) (hk : k + 5 ≤ 2560) (v1 : Int32) (v2 : Int32) (v3 : Int32) : wpX_factor (fun r u' => wpY_factor (fun r' v' => r' = r ∧ i_Rel (k + 5) u' v') v v1 v2 v3) u v1 v2 v3 := by
  obtain ⟨fc, he, re, op, qu, rs, wk, fo⟩ := u
  obtain ⟨cn, ot, rg, md, wh, td, yr, yq, pt, kp, dg⟩ := v
  obtain ⟨e, hok⟩ := I
  dsimp only at e hok
  subst e
  unfold wpX_factor
  dsimp only
  rcases fd_r4 v1 with ⟨d, hd, e⟩ | h1
  · subst e
    refine xs_reg hd (br_f (by decide) ?_)
    rcases fd_r4 v2 with ⟨r, hr, e⟩ | h2
    · subst e
      have h0 := fd_reg_H0 hok hr
      refine xs_reg hr (br_f (by decide) (xs_findFactors hr hok (fun L op qu rs wk fo hF hfo => ?_)))
      dsimp only
      have hlen := hF.2.2.1
      have hno : (v3 < 0 ∨ ¬ v3 < nI L.length) → wpY_factor (fun r' v' => r' = -1002 ∧ i_Rel (k + 5) (nI L.length, he, re, op, qu, rs, wk, fo) v') (cn, ot, he, md, wh, td, yr, yq, pt, kp, dg) (nI d) (nI r) v3 := fun h => by
        refine ys_factor hd hr hok hF (fun _ cn ot md wh td yr yq pt kp dg => ⟨rfl, rfl, hok⟩) (fun j hj e => ?_)
        subst e
        rcases h with h | h
        · exact absurd h (nI_pos (by omega))
        · exact absurd (nI_lt hj (by omega)) h
      refine br_c (fun z => hno (Or.inl z)) (fun z => br_c (fun w => ?_) (fun w => hno (Or.inr w)))
      obtain ⟨j, hj, e⟩ := nI_of z
      subst e
      have hjL : j < L.length := (nI_ltI hj (by omega)).mp w
      obtain ⟨_, hB, h5⟩ := fd_Fac_LB h0 hF _ (fd_getD_mem hjL)
      have hB' := fd_B_mono hB (by decide : 170000 ≤ 4611686018427387904)
      refine xs_loadFound_result (by omega) (fun re1 hre => ?_)
      dsimp only
      refine xs_keepResult hd (f := L.getD j fd_z) (fun i hi => by rw [hre i hi]; exact hfo j hjL i hi) hB' h5 (fun r1 he1 hK => ?_)
      dsimp only
      refine ys_factor hd hr hok hF (fun h => ?_) (fun j' hj' e r2 he2 hK2 cn ot md wh td yr yq pt kp dg => ?_)
      · rcases h with h | h
        · exact absurd h z
        · exact absurd w h
      · have ej : j = j' := (nI_eq hj (by omega)).mp e
        subst ej
        obtain ⟨e1, e2⟩ := fd_K_u hK hK2
        exact ⟨e1, e2, fd_K_ok hok hK⟩
    · refine xs_nreg h2 (br_t rfl ?_)
      unfold wpY_factor
      dsimp only
      exact ys_isRegister hd (br_f (by decide) (ys_nreg h2 (br_t rfl ⟨rfl, rfl, hok⟩)))
  · refine xs_nreg h1 (br_t rfl ?_)
    unfold wpY_factor
    dsimp only
    exact ys_nreg h1 (br_t rfl ⟨rfl, rfl, hok⟩)
end
section
/-! derive and shift -/
def fd_der (f : Nat → Int) : Nat → Int := fun i => ((i : Int) + 1) * f (i + 1)
theorem fd_der_L {f : Nat → Int} (h : fd_L f 5) : fd_L (fd_der f) 4 := fun j hj => by
  simp only [fd_der]; rw [h (j + 1) (by omega)]; simp
theorem fd_der_B {f : Nat → Int} (h : fd_H0 f) (i : Nat) : (fd_der f i).natAbs ≤ 100 := by
  by_cases hi : i < 5
  · simp only [fd_der]
    rw [Int.natAbs_mul]
    have h1 := h.1 (i + 1)
    have h2 : ((i : Int) + 1).natAbs ≤ 5 := by omega
    have h3 : (f (i + 1)).natAbs ≤ 20 := by omega
    exact Nat.mul_le_mul h2 h3
  · rw [fd_der_L h.2 i (by omega)]; simp
theorem fd_one : (1 : Int32) = nI 0 + 1 := by decide
theorem xs_der36 {post : Int32 → SX → Prop} {fc : Int32} {he : Nat → Int32} {re op qu rs wk fo : Nat → Int64} {d : Nat} {f : Nat → Int} (hd : d < 4) (hre : ∀ i, i < 6 → re i = 0) (hop : fd_R op f) (h0 : fd_H0 f) (H : ∀ re r he', fd_K he d (fd_der f) r he' → post r (fc, he', re, op, qu, rs, wk, fo)) : ∃ n, wX_derive_36 post (nI d) fc n 1 he re op qu rs wk fo := by
  rw [fd_one]
  refine fd_fill (fun n x t => wX_derive_36 post (nI d) fc n (x + 1) he t op qu rs wk fo) 5 0 (fun i => fd_l (fd_der f i)) re (fun n t h1 h2 => ?_) (fun n i t hi _ hW => ?_)
  · refine br_t (nI_le (a := 6) (b := 6) (Nat.le_refl 6) (by decide)) (xs_keepResult hd (f := fd_der f) (fun i hi => ?_) (fun i => Nat.le_trans (fd_der_B h0 i) (by decide)) (fd_L_mono (fd_der_L h0.2) (by decide)) (fun r he' hK => H t r he' hK))
    by_cases h5 : i < 5
    · have := h1 i h5; rwa [Nat.zero_add] at this
    · rw [h2 i (by omega), hre i hi, fd_der_L h0.2 i (by omega)]; exact fd_l_0.symm
  · rw [nI_1] at hW
    rw [nI_1]
    refine br_f (nI_ge (a := i + 1) (b := 6) (by omega) (by decide)) ⟨vp_in_nI (by omega) (by decide), by rw [nI_pred]; exact vp_in_nI (by omega) (by decide), nm_r ?_ (nm_r (nI_1 (i + 1)) hW)⟩
    rw [nI_pred, nI_clamp (by omega), nI_clamp (by omega), Nat.zero_add, hop (i + 1) (by omega), fd_l64n (i + 1) (by omega), fd_l_mul]; rfl
theorem ys_der26 {post : Int32 → SY → Prop} {cn ot : Int32} {rg : Nat → Int32} {md wh td yr yq pt kp : Nat → Int64} {dg : Nat → Int32} {d a : Nat} (hd : d < 4) (ha : a < 4) (hmd : ∀ i, i < 11 → md i = 0) (h0 : fd_H0 (fd_reg rg a)) (H : ∀ md r rg', fd_K rg d (fd_der (fd_reg rg a)) r rg' → post r (cn, ot, rg', md, wh, td, yr, yq, pt, kp, dg)) : ∃ n, wY_derive_26 post (nI d) (nI a) cn ot n 1 rg md wh td yr yq pt kp dg := by
  rw [fd_one]
  refine fd_fill (fun n x t => wY_derive_26 post (nI d) (nI a) cn ot n (x + 1) rg t wh td yr yq pt kp dg) 5 0 (fun i => fd_l (fd_der (fd_reg rg a) i)) md (fun n t h1 h2 => ?_) (fun n i t hi _ hW => ?_)
  · refine br_t (nI_le (a := 6) (b := 6) (Nat.le_refl 6) (by decide)) (ys_keep hd (f := fd_der (fd_reg rg a)) (fun i hi => ?_) (fun i => Nat.le_trans (fd_der_B h0 i) (by decide)) (fd_L_mono (fd_der_L h0.2) (by decide)) (fun r he' hK => H t r he' hK))
    by_cases h5 : i < 5
    · have := h1 i h5; rwa [Nat.zero_add] at this
    · rw [h2 i (by omega), hmd i hi, fd_der_L h0.2 i (by omega)]; exact fd_l_0.symm
  · rw [nI_1] at hW
    rw [nI_1]
    refine br_f (nI_ge (a := i + 1) (b := 6) (by omega) (by decide)) ⟨by rw [fd_ixZ]; exact vp_in_nI (by omega) (by decide), by rw [nI_pred]; exact vp_in_nI (by omega) (by decide), nm_r ?_ (nm_r (nI_1 (i + 1)) hW)⟩
    rw [nI_pred, fd_ixZ, nI_clamp (by omega), nI_clamp (by omega), Nat.zero_add]
    have e : rg (a * 6 + (i + 1)) = fd_i (fd_reg rg a (i + 1)) := by
      simp only [fd_reg]; rw [if_pos (by omega), fd_i_of]
    have hb := fd_der_B h0 i
    rw [e, ← fd_i_nat, fd_i_mul]
    congr 1
    have e2 : ((i + 1 : Nat) : Int) * fd_reg rg a (i + 1) = fd_der (fd_reg rg a) i := by simp only [fd_der]; congr 1
    rw [e2, fd_i_l (fd_k_lit (by omega))]
theorem i_vc_derive {k : Nat} {u : SX} {v : SY} (I : i_Rel k u v) (hk : k + 5 ≤ 2560) (v1 : Int32) (v2 : Int32) : wpX_derive (fun r u' => wpY_derive (fun r' v' => r' = r ∧ i_Rel (k + 5) u' v') v v1 v2) u v1 v2 := by
  obtain ⟨fc, he, re, op, qu, rs, wk, fo⟩ := u
  obtain ⟨cn, ot, rg, md, wh, td, yr, yq, pt, kp, dg⟩ := v
  obtain ⟨e, hok⟩ := I
  dsimp only at e hok
  subst e
  unfold wpX_derive wpY_derive
  dsimp only
  rcases fd_r4 v1 with ⟨d, hd, e⟩ | h1
  · subst e
    refine xs_reg hd (br_f (by decide) ?_)
    rcases fd_r4 v2 with ⟨a, ha, e⟩ | h2
    · subst e
      have h0 := fd_reg_H0 hok ha
      refine xs_reg ha (br_f (by decide) (xs_load_operand ha (fun op1 hop => ?_)))
      dsimp only
      refine xs_clear_result (fun re1 hre => ?_)
      dsimp only
      refine xs_der36 hd hre (fd_reg_R hop) h0 (fun re2 r1 he1 hK => ?_)
      refine ys_isRegister hd (br_f (by decide) (ys_isRegister ha (br_f (by decide) (ys_clearMade (fun md1 hmd => ?_)))))
      dsimp only
      refine ys_der26 hd ha hmd h0 (fun md2 r2 he2 hK2 => ?_)
      obtain ⟨e1, e2⟩ := fd_K_u hK hK2
      exact ⟨e1, e2, fd_K_ok hok hK⟩
    · exact xs_nreg h2 (br_t rfl (ys_isRegister hd (br_f (by decide) (ys_nreg h2 (br_t rfl ⟨rfl, rfl, hok⟩)))))
  · exact xs_nreg h1 (br_t rfl (ys_nreg h1 (br_t rfl ⟨rfl, rfl, hok⟩)))
/-! shift -/
def fd_u1 (r : Nat → Int) (t : Int) (j : Nat) : Nat → Int := fun m => if m = j then r j + t * r (j + 1) else r m
def fd_in (t : Int) (i : Nat) : Nat → (Nat → Int) → (Nat → Int)
  | 0, r => r
  | k + 1, r => fd_in t i k (fd_u1 r t (i + k))
def fd_xo (t : Int) : Nat → Nat → (Nat → Int) → (Nat → Int)
  | _, 0, r => r
  | i, n + 1, r => fd_xo t (i + 1) n (fd_in t i (n + 1) r)
def fd_hs (m : Nat → Int) (t c : Int) : Nat → Int := fun j => if j = 0 then t * m 0 + c else m (j - 1) + t * m j
def fd_yo (t : Int) (f : Nat → Int) : Nat → (Nat → Int) → (Nat → Int)
  | 0, m => m
  | n + 1, m => fd_yo t f n (fd_hs m t (f n))
theorem fd_hs_L {m : Nat → Int} {t c : Int} {n : Nat} (h : fd_L m n) : fd_L (fd_hs m t c) (n + 1) := fun j hj => by
  simp only [fd_hs]; rw [if_neg (by omega), h (j - 1) (by omega), h j (by omega)]; simp
theorem fd_hs_B {m : Nat → Int} {t c : Int} {M : Nat} (h : fd_B m M) (ht : t.natAbs ≤ 3) (hc : c.natAbs ≤ 20) : fd_B (fd_hs m t c) (4 * M + 20) := by
  intro j
  simp only [fd_hs]
  by_cases hj : j = 0
  · rw [if_pos hj]
    have h1 : (t * m 0).natAbs ≤ 3 * M := by rw [Int.natAbs_mul]; exact Nat.mul_le_mul ht (h 0)
    omega
  · rw [if_neg hj]
    have h1 : (t * m j).natAbs ≤ 3 * M := by rw [Int.natAbs_mul]; exact Nat.mul_le_mul ht (h j)
    have h2 := h (j - 1)
    omega
theorem fd_in_ge (t : Int) (i k : Nat) : ∀ (r : Nat → Int) (m : Nat), i + k ≤ m → fd_in t i k r m = r m := by
  induction k with
  | zero => intro r m _; rfl
  | succ k ih =>
    intro r m hm
    rw [fd_in, ih _ m (by omega)]
    simp only [fd_u1]; rw [if_neg (by omega)]
theorem fd_xo_ge (t : Int) (n : Nat) : ∀ (i : Nat) (r : Nat → Int) (m : Nat), i + n ≤ 5 → 5 ≤ m → fd_xo t i n r m = r m := by
  induction n with
  | zero => intro i r m _ _; rfl
  | succ n ih =>
    intro i r m hi hm
    rw [fd_xo, ih (i + 1) _ m (by omega) hm, fd_in_ge t i (n + 1) r m (by omega)]
theorem fd_sh_Y (f : Nat → Int) (t : Int) : fd_L (fd_yo t f 6 fd_z) 5 := by
  have h0 : fd_L (fd_hs fd_z t (f 5)) 0 := fun j hj => by
    simp only [fd_hs]; rw [if_neg (by omega)]; simp [fd_z]
  exact fd_hs_L (fd_hs_L (fd_hs_L (fd_hs_L (fd_hs_L h0))))
theorem fd_sh_eq (f : Nat → Int) (t : Int) (hL : fd_L f 5) : fd_xo t 0 5 f = fd_yo t f 6 fd_z := by
  funext m
  match m with
  | 0 => simp [fd_xo, fd_in, fd_u1, fd_yo, fd_hs, fd_z]; grind
  | 1 => simp [fd_xo, fd_in, fd_u1, fd_yo, fd_hs, fd_z]; grind
  | 2 => simp [fd_xo, fd_in, fd_u1, fd_yo, fd_hs, fd_z]; grind
  | 3 => simp [fd_xo, fd_in, fd_u1, fd_yo, fd_hs, fd_z]; grind
  | 4 => simp [fd_xo, fd_in, fd_u1, fd_yo, fd_hs, fd_z]; grind
  | 5 => simp [fd_xo, fd_in, fd_u1, fd_yo, fd_hs, fd_z]
  | (n + 6) => rw [fd_sh_Y f t (n + 6) (by omega), fd_xo_ge t 5 0 f (n + 6) (by omega) (by omega), hL (n + 6) (by omega)]
theorem fd_sh_B (f : Nat → Int) (t : Int) (hf : fd_B f 20) (ht : t.natAbs ≤ 3) : fd_B (fd_yo t f 6 fd_z) 27300 := by
  have h0 : fd_B fd_z 0 := fun i => by simp [fd_z]
  exact fd_hs_B (fd_hs_B (fd_hs_B (fd_hs_B (fd_hs_B (fd_hs_B h0 ht (hf 5)) ht (hf 4)) ht (hf 3)) ht (hf 2)) ht (hf 1)) ht (hf 0)
theorem fd_lt6 {i : Nat} (hi : i < 6) : nI i + (-1) < nI i := by
  have hk : ∀ i : Fin 6, nI i.val + (-1) < nI i.val := by decide
  exact hk ⟨i, hi⟩
theorem xs_sh50 {post : Int32 → SX → Prop} {J : Int32 → (Nat → Int32) → (Nat → Int64) → (Nat → Int64) → (Nat → Int64) → (Nat → Int64) → (Nat → Int64) → (Nat → Int64) → Prop} {x1 fc : Int32} {he : Nat → Int32} {op qu rs wk fo : Nat → Int64} {t : Int} (ht : fd_k t) {i : Nat} : ∀ (k : Nat) (r : Nat → Int) (re : Nat → Int64), i + k ≤ 5 → fd_R re r → (∀ re', fd_R re' (fd_in t i k r) → J (nI (i + 1)) he re' op qu rs wk fo) → wX_shift_50 post J x1 (fd_i t) (nI i) fc (k + 1) (nI (i + k) + (-1)) he re op qu rs wk fo := by
  intro k
  induction k with
  | zero =>
    intro r re hk hR H
    exact br_t (fd_lt6 (by omega)) (nm_r (nI_1 i) (H re hR))
  | succ k ih =>
    intro r re hk hR H
    have e : i + (k + 1) = (i + k) + 1 := by omega
    rw [e, fd_m1]
    have e1 : nI (i + k) + 1 = nI (i + k + 1) := nI_1 _
    refine br_f (nI_nlt (by omega) (by omega)) ⟨vp_in_nI (by omega) (by decide), by rw [e1]; exact vp_in_nI (by omega) (by decide), vp_in_nI (by omega) (by decide), nm_r (e' := vp_updL re (i + k) (fd_l (r (i + k) + t * r (i + k + 1)))) ?_ (nm_e (ih (fd_u1 r t (i + k)) _ (by omega) (fun m hm => ?_) H))⟩
    · rw [e1, nI_clamp (by omega), nI_clamp (by omega), hR _ (by omega), hR _ (by omega), fd_i_l ht, fd_l_mul, fd_l_add]
    · simp only [fd_u1]
      by_cases hmk : m = i + k
      · rw [if_pos hmk, hmk, fd_uLs]
      · rw [if_neg hmk, fd_uLn hmk, hR m hm]
theorem xs_sh41 {post : Int32 → SX → Prop} {fc : Int32} {he : Nat → Int32} {op qu rs wk fo : Nat → Int64} {t : Int} (ht : fd_k t) {d : Nat} (hd : d < 4) {F : Nat → Int} (hB : fd_B F 4611686018427387904) (hL : fd_L F 5) (H : ∀ re r he', fd_K he d F r he' → post r (fc, he', re, op, qu, rs, wk, fo)) : ∀ (n i : Nat) (r : Nat → Int) (re : Nat → Int64), i + n = 5 → fd_R re r → fd_xo t i n r = F → wX_shift_41 post (nI d) (fd_i t) fc (n + 1) (nI i) he re op qu rs wk fo := by
  intro n
  induction n with
  | zero =>
    intro i r re hi hR e
    have e5 : i = 5 := by omega
    subst e5
    rw [fd_xo] at e
    rw [e] at hR
    exact br_t (nI_le (a := 5) (b := 5) (Nat.le_refl 5) (by decide)) (xs_keepResult hd hR hB hL (fun r he' hK => H re r he' hK))
  | succ n ih =>
    intro i r re hi hR e
    refine br_f (nI_ge (b := 5) (by omega) (by decide)) ⟨n + 1 + 1, ?_⟩
    have e4 : (4 : Int32) = nI (i + (n + 1)) + (-1) := by
      have : i + (n + 1) = 5 := by omega
      rw [this]; decide
    rw [e4]
    exact xs_sh50 ht (n + 1) r re (by omega) hR (fun re' hR' => ih (i + 1) _ re' (by omega) hR' e)
theorem ys_sh47 {post : Int32 → SY → Prop} {J : Int32 → (Nat → Int32) → (Nat → Int64) → (Nat → Int64) → (Nat → Int64) → (Nat → Int64) → (Nat → Int64) → (Nat → Int64) → (Nat → Int64) → (Nat → Int32) → Prop} {x1 cn ot : Int32} {rg : Nat → Int32} {md wh td yr yq pt kp : Nat → Int64} {dg : Nat → Int32} {t : Int} (ht : fd_k t) {a i : Nat} (ha : a < 4) (hi : i < 6) {m : Nat → Int} (hR : fd_R11 md m) (hm : fd_L m 5) (H : ∀ md', fd_R11 md' (fd_hs m t (fd_reg rg a i)) → J (nI i + (-1)) rg md' wh td yr yq pt kp dg) : ∃ n, wY_shift_47 post J x1 (nI a) (fd_i t) (nI i) cn ot n 6 rg md wh td yr yq pt kp dg := by
  have key : ∀ (j : Nat) (z : Nat → Int64), j ≤ 6 → (∀ k, j < k → k < 11 → z k = fd_l (fd_hs m t (fd_reg rg a i) k)) → (∀ k, k ≤ j → z k = fd_l (m k)) → wY_shift_47 post J x1 (nI a) (fd_i t) (nI i) cn ot (j + 1) (nI j) rg z wh td yr yq pt kp dg := by
    intro j
    induction j with
    | zero =>
      intro z hj h1 h2
      refine br_t (nI_le (a := 0) (b := 0) (Nat.le_refl 0) (by decide)) ⟨by rw [fd_ixZ]; exact vp_in_nI (by omega) (by decide), nm_r (e' := vp_updL z 0 (fd_l (fd_hs m t (fd_reg rg a i) 0))) ?_ (nm_e (H _ (fun k hk => ?_)))⟩
      · rw [fd_ixZ, nI_clamp (by omega), h2 0 (Nat.le_refl 0), fd_i_l ht, fd_of32, fd_l_mul, fd_l_add]
        simp only [fd_hs, fd_reg]; rw [if_pos trivial, if_pos hi]
      · by_cases hk0 : k = 0
        · rw [hk0, fd_uLs]
        · rw [fd_uLn hk0]; exact h1 k (by omega) hk
    | succ j ih =>
      intro z hj h1 h2
      refine br_f (nI_nle (by omega) (by omega)) ⟨by rw [nI_pred]; exact vp_in_nI (by omega) (by decide), vp_in_nI (by omega) (by decide), vp_in_nI (by omega) (by decide), nm_r (e' := vp_updL z (j + 1) (fd_l (fd_hs m t (fd_reg rg a i) (j + 1)))) ?_ (nm_r (fd_m1 j) (ih _ (by omega) (fun k hk hk2 => ?_) (fun k hk => ?_)))⟩
      · rw [nI_pred, nI_clamp (by omega), nI_clamp (by omega), h2 j (by omega), h2 (j + 1) (by omega), fd_i_l ht, fd_l_mul, fd_l_add]
        simp only [fd_hs]; rw [if_neg (by omega)]; rfl
      · by_cases hkj : k = j + 1
        · rw [hkj, fd_uLs]
        · rw [fd_uLn hkj]; exact h1 k (by omega) hk2
      · rw [fd_uLn (by omega)]; exact h2 k (by omega)
  refine ⟨7, key 6 md (Nat.le_refl 6) (fun k hk hk2 => ?_) (fun k hk => hR k (by omega))⟩
  rw [hR k hk2, fd_hs_L hm k (by omega), hm k (by omega)]
theorem ys_sh38 {post : Int32 → SY → Prop} {cn ot : Int32} {rg : Nat → Int32} {wh td yr yq pt kp : Nat → Int64} {dg : Nat → Int32} {t : Int} (ht : fd_k t) {d a : Nat} (hd : d < 4) (ha : a < 4) {F : Nat → Int} (hB : fd_B F 4611686018427387904) (hL : fd_L F 5) (H : ∀ md r rg', fd_K rg d F r rg' → post r (cn, ot, rg', md, wh, td, yr, yq, pt, kp, dg)) : ∀ (n : Nat) (m : Nat → Int) (md : Nat → Int64), n ≤ 6 → fd_R11 md m → (∀ j, 6 - n ≤ j → m j = 0) → fd_yo t (fd_reg rg a) n m = F → wY_shift_38 post (nI d) (nI a) (fd_i t) cn ot (n + 1) (nI n + (-1)) rg md wh td yr yq pt kp dg := by
  intro n
  induction n with
  | zero =>
    intro m md _ hR _ e
    rw [fd_yo] at e
    rw [e] at hR
    exact br_t (by decide) (ys_keep hd hR hB (fd_L_mono hL (by decide)) (fun r rg' hK => H md r rg' hK))
  | succ n ih =>
    intro m md hn hR hm e
    rw [fd_m1]
    refine br_f (nI_pos (by omega)) (ys_sh47 ht ha (by omega) hR (fun j hj => hm j (by omega)) (fun md' hR' => ih _ md' (by omega) hR' (fun j hj => ?_) e))
    simp only [fd_hs]
    rw [if_neg (by omega), hm (j - 1) (by omega), hm j (by omega)]; simp
theorem fd_i_3 {t : Int} (h1 : -3 ≤ t) (h2 : t ≤ 3) : ¬ fd_i t < -3 ∧ fd_i t ≤ 3 := by
  have hm : fd_i (-3) = -3 := by decide
  have hp : fd_i 3 = 3 := by decide
  constructor
  · rw [← hm, fd_i_lt (fd_k_lit (by omega)) (fd_k_lit (by decide))]; omega
  · rw [← hp, fd_i_le (fd_k_lit (by omega)) (fd_k_lit (by decide))]; exact h2
theorem xs_shift {post : Int32 → SX → Prop} {fc : Int32} {he : Nat → Int32} {re op qu rs wk fo : Nat → Int64} {d a : Nat} {t : Int} (hd : d < 4) (ha : a < 4) (hok : fd_ok he) (h1 : -3 ≤ t) (h2 : t ≤ 3) (H : ∀ re r he', fd_K he d (fd_yo t (fd_reg he a) 6 fd_z) r he' → post r (fc, he', re, op, qu, rs, wk, fo)) : wpX_shift post (fc, he, re, op, qu, rs, wk, fo) (nI d) (nI a) (fd_i t) := by
  have h0 := fd_reg_H0 hok ha
  obtain ⟨z, w⟩ := fd_i_3 h1 h2
  unfold wpX_shift
  dsimp only
  refine xs_reg hd (br_f (by decide) (xs_reg ha (br_f (by decide) (br_f z (br_t w (xs_load_result ha (fun re1 hre => ⟨5 + 1, ?_⟩)))))))
  exact xs_sh41 (fd_k_lit (by omega)) hd (fd_B_mono (fd_sh_B _ _ (fd_H0_B h0) (by omega)) (by decide)) (fd_sh_Y _ _) H 5 0 (fd_reg he a) re1 (by omega) (fd_reg_R hre) (fd_sh_eq _ _ h0.2)
theorem ys_shift {post : Int32 → SY → Prop} {cn ot : Int32} {rg : Nat → Int32} {md wh td yr yq pt kp : Nat → Int64} {dg : Nat → Int32} {d a : Nat} {t : Int} (hd : d < 4) (ha : a < 4) (hok : fd_ok rg) (h1 : -3 ≤ t) (h2 : t ≤ 3) (H : ∀ md r rg', fd_K rg d (fd_yo t (fd_reg rg a) 6 fd_z) r rg' → post r (cn, ot, rg', md, wh, td, yr, yq, pt, kp, dg)) : wpY_shift post (cn, ot, rg, md, wh, td, yr, yq, pt, kp, dg) (nI d) (nI a) (fd_i t) := by
  have h0 := fd_reg_H0 hok ha
  obtain ⟨z, w⟩ := fd_i_3 h1 h2
  unfold wpY_shift
  dsimp only
  refine ys_isRegister hd (br_f (by decide) (ys_isRegister ha (br_f (by decide) (br_f z (br_t w (ys_clearMade (fun md1 hmd => ⟨6 + 1, ?_⟩)))))))
  exact ys_sh38 (fd_k_lit (by omega)) hd ha (fd_B_mono (fd_sh_B _ _ (fd_H0_B h0) (by omega)) (by decide)) (fd_sh_Y _ _) H 6 fd_z md1 (Nat.le_refl 6) (fun i hi => by rw [hmd i hi]; exact fd_l_0.symm) (fun _ _ => rfl) rfl
theorem i_vc_shift {k : Nat} {u : SX} {v : SY} (I : i_Rel k u v) (hk : k + 5 ≤ 2560) (v1 : Int32) (v2 : Int32) (v3 : Int32) : wpX_shift (fun r u' => wpY_shift (fun r' v' => r' = r ∧ i_Rel (k + 5) u' v') v v1 v2 v3) u v1 v2 v3 := by
  obtain ⟨fc, he, re, op, qu, rs, wk, fo⟩ := u
  obtain ⟨cn, ot, rg, md, wh, td, yr, yq, pt, kp, dg⟩ := v
  obtain ⟨e, hok⟩ := I
  dsimp only at e hok
  subst e
  rcases fd_r4 v1 with ⟨d, hd, e⟩ | h1
  · subst e
    rcases fd_r4 v2 with ⟨a, ha, e⟩ | h2
    · subst e
      by_cases hb : v3 < -3 ∨ ¬ v3 ≤ 3
      · unfold wpX_shift wpY_shift
        dsimp only
        refine xs_reg hd (br_f (by decide) (xs_reg ha (br_f (by decide) ?_)))
        refine br_c (fun z => ys_isRegister hd (br_f (by decide) (ys_isRegister ha (br_f (by decide) (br_t z ⟨rfl, rfl, hok⟩))))) (fun z => br_f (hb.resolve_left z) (ys_isRegister hd (br_f (by decide) (ys_isRegister ha (br_f (by decide) (br_f z (br_f (hb.resolve_left z) ⟨rfl, rfl, hok⟩)))))))
      · have z : ¬ v3 < -3 := fun h => hb (Or.inl h)
        have w : v3 ≤ 3 := Classical.byContradiction fun h => hb (Or.inr h)
        have a1 := Int32.le_iff_toInt_le.mp w
        have a2 : ¬ v3.toInt < (-3 : Int32).toInt := fun y => z (Int32.lt_iff_toInt_lt.mpr y)
        have h3 : (3 : Int32).toInt = 3 := by decide
        have h4 : (-3 : Int32).toInt = -3 := by decide
        rw [h3] at a1
        rw [h4] at a2
        rw [← fd_i_of v3]
        refine xs_shift hd ha hok (by omega) a1 (fun re1 r1 he1 hK => ys_shift hd ha hok (by omega) a1 (fun md2 r2 he2 hK2 => ?_))
        obtain ⟨e1, e2⟩ := fd_K_u hK hK2
        exact ⟨e1, e2, fd_K_ok hok hK⟩
    · unfold wpX_shift wpY_shift
      dsimp only
      exact xs_reg hd (br_f (by decide) (xs_nreg h2 (br_t rfl (ys_isRegister hd (br_f (by decide) (ys_nreg h2 (br_t rfl ⟨rfl, rfl, hok⟩)))))))
  · unfold wpX_shift wpY_shift
    dsimp only
    exact xs_nreg h1 (br_t rfl (ys_nreg h1 (br_t rfl ⟨rfl, rfl, hok⟩)))
end
section
/-! products; simple -/
def fd_tr (n : Nat) (a : Nat → Int) : Nat → Int := fun i => if i < n then a i else 0
theorem fd_tr_0 (a b : Nat → Int) : fd_mul (fd_tr 0 a) b = fd_z := by
  have e : fd_tr 0 a = fd_z := by funext i; simp [fd_tr, fd_z]
  rw [e, fd_z_mul]
theorem fd_tr_step (n : Nat) (a b : Nat → Int) (k : Nat) : fd_mul (fd_tr (n + 1) a) b k = fd_mul (fd_tr n a) b k + (if n ≤ k then a n * b (k - n) else 0) := by
  have e : fd_tr (n + 1) a = fd_add (fd_tr n a) (fd_mo (a n) n) := by
    funext i
    simp only [fd_tr, fd_add, fd_mo]
    by_cases h : i = n
    · subst h; rw [if_pos (by omega), if_neg (by omega), if_pos rfl]; omega
    · by_cases h2 : i < n
      · rw [if_pos (by omega), if_pos h2, if_neg h]; omega
      · rw [if_neg (by omega), if_neg h2, if_neg h]; omega
  rw [e, fd_add_mul, fd_mo_mul]; rfl
theorem fd_tr_all {a : Nat → Int} {n m : Nat} (h : fd_L a n) (hm : n < m) : fd_tr m a = a := by
  funext i
  simp only [fd_tr]
  by_cases hi : i < m
  · rw [if_pos hi]
  · rw [if_neg hi, h i (by omega)]
section
variable {post : SX → Prop} {fc : Int32} {he : Nat → Int32} {re op qu rs wk fo : Nat → Int64}
theorem xs_mul28 {J : Int32 → (Nat → Int32) → (Nat → Int64) → (Nat → Int64) → (Nat → Int64) → (Nat → Int64) → (Nat → Int64) → (Nat → Int64) → Prop} {i : Nat} (hi : i < 6) (H : ∀ t, (∀ j, i + j < 6 → t (i + j) = re (i + j) + wk i * op j) → (∀ j, j < i → t j = re j) → J (nI (i + 1)) he t op qu rs wk fo) : ∃ n, wX_multiplyByOperand_28 post J (nI i) fc n 0 he re op qu rs wk fo := by
  refine fd_fill (fun n x t => wX_multiplyByOperand_28 post J (nI i) fc n x he t op qu rs wk fo) (6 - i) i (fun j => re (i + j) + wk i * op j) re (fun n t h1 h2 => ?_) (fun n j t hj h2 hW => ?_)
  · refine br_t ?_ (nm_r (nI_1 i) (H t (fun j hj => h1 j (by omega)) (fun j hj => h2 j (Or.inl hj))))
    rw [nI_add]; exact nI_le (a := 6) (by omega) (by omega)
  · have e : nI i + nI j = nI (i + j) := nI_add i j
    refine br_f (by rw [e]; exact nI_ge (b := 6) (by omega) (by decide)) ⟨by rw [e]; exact vp_in_nI (by omega) (by decide), vp_in_nI (by omega) (by decide), vp_in_nI (by omega) (by decide), by rw [e]; exact vp_in_nI (by omega) (by decide), nm_r ?_ (nm_r (nI_1 j) hW)⟩
    rw [e, nI_clamp (by omega), nI_clamp (by omega), nI_clamp (by omega), h2 (i + j) (by omega)]
theorem xs_mulOp {a b : Nat → Int} (ha : fd_R re a) (hL : fd_L a 5) (hb : fd_R op b) (H : ∀ re wk, fd_R re (fd_mul a b) → post (fc, he, re, op, qu, rs, wk, fo)) : wpX_multiplyByOperand post (fc, he, re, op, qu, rs, wk, fo) := by
  unfold wpX_multiplyByOperand
  dsimp only
  refine xs_copy_result_work (fun wk1 hwk => ?_)
  dsimp only
  refine xs_clear_result (fun re1 hre => ?_)
  dsimp only
  have key : ∀ (k i : Nat) (re : Nat → Int64), i + k = 6 → fd_R re (fd_mul (fd_tr i a) b) → wX_multiplyByOperand_20 post fc (k + 1) (nI i) he re op qu rs wk1 fo := by
    intro k
    induction k with
    | zero =>
      intro i re hi hR
      have e : i = 6 := by omega
      subst e
      rw [fd_tr_all hL (by decide)] at hR
      exact br_t (nI_le (Nat.le_refl 6) (by decide)) (H re wk1 hR)
    | succ k ih =>
      intro i re hi hR
      refine br_f (nI_ge (b := 6) (by omega) (by decide)) (xs_mul28 (by omega) (fun t h1 h2 => ih (i + 1) t (by omega) (fun m hm => ?_)))
      rw [fd_tr_step]
      by_cases hmi : i ≤ m
      · have h3 := h1 (m - i) (by omega)
        have e3 : i + (m - i) = m := by omega
        rw [e3, hR m hm, hwk i (by omega), ha i (by omega), hb (m - i) (by omega), fd_l_mul, fd_l_add] at h3
        rw [if_pos hmi]; exact h3
      · rw [if_neg hmi, h2 m (by omega), hR m hm]; congr 1; omega
  exact ⟨7, key 6 0 re1 (by omega) (fun i hi => by rw [hre i hi, fd_tr_0]; exact fd_l_0.symm)⟩
end
section
variable {cn ot : Int32} {rg : Nat → Int32} {md wh td yr yq pt kp : Nat → Int64} {dg : Nat → Int32}
theorem ys_mul12 {post : SY → Prop} {J : Int32 → (Nat → Int32) → (Nat → Int64) → (Nat → Int64) → (Nat → Int64) → (Nat → Int64) → (Nat → Int64) → (Nat → Int64) → (Nat → Int64) → (Nat → Int32) → Prop} {k i : Nat} {a b : Nat → Int} (hk : k < 6) (hi : i < 11) (ha : ∀ j, j ≤ i → md j = fd_l (a j)) (hb : ∀ j, j < 6 → kp (k * 6 + j) = fd_l (b j)) (hL : fd_L b 5) (H : ∀ t, t = vp_updL md i (fd_l (fd_mul b a i)) → J (nI i + (-1)) rg t wh td yr yq pt kp dg) : ∃ n, wY_multiply_12 post J (nI k) (nI i) cn ot rg md wh td yr yq pt kp dg n 0 0 := by
  have key : ∀ (n j : Nat), j + n = 6 → wY_multiply_12 post J (nI k) (nI i) cn ot rg md wh td yr yq pt kp dg (n + 1) (fd_l (fd_mul (fd_tr j b) a i)) (nI j) := by
    intro n
    induction n with
    | zero =>
      intro j hj
      have e : j = 6 := by omega
      subst e
      rw [fd_tr_all hL (by decide)]
      refine br_t (nI_le (Nat.le_refl 6) (by decide)) ⟨vp_in_nI hi (by decide), fun t et => nm_e (H t ?_)⟩
      rw [et, nI_clamp (by omega)]
    | succ n ih =>
      intro j hj
      have h := ih (j + 1) (by omega)
      rw [fd_tr_step] at h
      refine br_f (nI_ge (b := 6) (by omega) (by decide)) ?_
      by_cases hij : i < j
      · rw [if_neg (by omega)] at h
        refine br_t (nI_lt hij (by omega)) (nm_r (nI_1 j) ?_)
        have e : fd_mul (fd_tr j b) a i + 0 = fd_mul (fd_tr j b) a i := by omega
        rw [e] at h
        exact h
      · rw [if_pos (by omega)] at h
        have e : nI i - nI j = nI (i - j) := fd_isub (by omega)
        refine br_f (nI_nlt (by omega) (by omega)) ⟨by rw [e]; exact vp_in_nI (by omega) (by decide), by rw [fd_ixZ]; exact vp_in_nI (by omega) (by decide), nm_r ?_ (nm_r (nI_1 j) h)⟩
        rw [e, fd_ixZ, nI_clamp (by omega), nI_clamp (by omega), ha (i - j) (by omega), hb j (by omega), fd_l_mul, fd_l_add, Int.mul_comm]
  have h0 := key 6 0 (by omega)
  rw [fd_tr_0] at h0
  exact ⟨7, h0⟩
theorem ys_multiply {post : SY → Prop} {k : Nat} {a b : Nat → Int} (hk : k < 6) (ha : fd_R11 md a) (hb : ∀ j, j < 6 → kp (k * 6 + j) = fd_l (b j)) (hL : fd_L b 5) (H : ∀ md, fd_R11 md (fd_mul a b) → post (cn, ot, rg, md, wh, td, yr, yq, pt, kp, dg)) : wpY_multiply post (cn, ot, rg, md, wh, td, yr, yq, pt, kp, dg) (nI k) := by
  have key : ∀ (i : Nat) (t : Nat → Int64), i ≤ 11 → (∀ j, j < i → t j = fd_l (a j)) → (∀ j, i ≤ j → j < 11 → t j = fd_l (fd_mul a b j)) → wY_multiply_3 post (nI k) cn ot (i + 1) (nI i + (-1)) rg t wh td yr yq pt kp dg := by
    intro i
    induction i with
    | zero =>
      intro t _ _ h2
      exact br_t (by decide) (H t (fun j hj => h2 j (Nat.zero_le j) hj))
    | succ i ih =>
      intro t hi h1 h2
      rw [fd_m1]
      refine br_f (nI_pos (by omega)) (ys_mul12 hk (by omega) (fun j hj => h1 j (by omega)) hb hL (fun t' et => ih t' (by omega) (fun j hj => ?_) (fun j hj hj2 => ?_)))
      · rw [et, fd_uLn (by omega)]; exact h1 j (by omega)
      · by_cases e : j = i
        · rw [e, et, fd_uLs, fd_mul_comm]
        · rw [et, fd_uLn e]; exact h2 j (by omega) hj2
  exact ⟨12, key 11 md (Nat.le_refl _) (fun j hj => ha j hj) (fun j h1 h2 => absurd h1 (by omega))⟩
theorem ys_equals {post : Int32 → Prop} {k m : Nat} {p q : Nat → Int} (hk : k < 6) (hm : m < 6) (hp : ∀ j, j < 6 → kp (k * 6 + j) = fd_l (p j)) (hq : ∀ j, j < 6 → pt (m * 6 + j) = fd_l (q j)) (hpB : fd_B p 170000) (hqB : fd_B q 170000) (hp5 : fd_L p 5) (hq5 : fd_L q 5) (H1 : p = q → post 1) (H0 : p ≠ q → post 0) : wpY_equals post (cn, ot, rg, md, wh, td, yr, yq, pt, kp, dg) (nI k) (nI m) := by
  refine fd_upl (fun n x => wY_equals_2 post (nI k) (nI m) cn ot rg md wh td yr yq pt kp dg n x) (fun j => p j = q j) 6 (fun h n => ?_) (fun n i hi h hW => ?_)
  · refine br_t (nI_le (Nat.le_refl 6) (by decide)) (H1 (funext fun j => ?_))
    by_cases hj : j < 6
    · exact h j hj
    · rw [hp5 j (by omega), hq5 j (by omega)]
  · refine br_f (nI_ge (b := 6) hi (by decide)) ⟨by rw [fd_ixZ]; exact vp_in_nI (by omega) (by decide), by rw [fd_ixZ]; exact vp_in_nI (by omega) (by decide), ?_⟩
    rw [fd_ixZ, fd_ixZ, nI_clamp (by omega), nI_clamp (by omega), hp i hi, hq i hi]
    have hps : fd_s (p i) := fd_s_of (hpB i) (by decide)
    have hqs : fd_s (q i) := fd_s_of (hqB i) (by decide)
    exact br_c (fun z => nm_r (nI_1 i) (hW ((fd_l_eq hps hqs).mp z))) (fun z => H0 (fun e => z (by rw [e])))
theorem ys_keepParts {post : SY → Prop} (H : ∀ kp, (∀ j, j < 36 → kp j = pt j) → post (cn, cn, rg, md, wh, td, yr, yq, pt, kp, dg)) : wpY_keepParts post (cn, ot, rg, md, wh, td, yr, yq, pt, kp, dg) := by
  refine fd_fill (fun n x t => wY_keepParts_10 post cn cn n x rg md wh td yr yq pt t dg) 36 0 pt kp (fun n t h1 _ => ?_) (fun n i t hi _ hW => ?_)
  · exact br_t (nI_le (Nat.le_refl 36) (by decide)) (H t (fun i hi => by have := h1 i hi; rwa [Nat.zero_add] at this))
  · exact br_f (nI_ge (b := 36) hi (by decide)) ⟨vp_in_nI hi (by decide), vp_in_nI hi (by decide), nm_r (by rw [nI_clamp (by omega), Nat.zero_add]) (nm_r (nI_1 i) hW)⟩
end
theorem fd_AL_copy {a b : Nat → Int64} {L : List (Nat → Int)} (h : fd_AL a L) (hlen : L.length ≤ 5) (hab : ∀ j, j < 36 → b j = a j) : fd_AL b L := fun k hk i hi => by
  rw [hab _ (by omega)]; exact h k hk i hi
noncomputable def fd_ite (c : Prop) (a b : Nat → Int) : Nat → Int := @ite _ c (Classical.propDecidable c) a b
theorem fd_ite_t {c : Prop} {a b : Nat → Int} (h : c) : fd_ite c a b = a := if_pos h
theorem fd_ite_f {c : Prop} {a b : Nat → Int} (h : ¬ c) : fd_ite c a b = b := if_neg h
/-- the product of those that differ from the one before -/
noncomputable def fd_dp (L : List (Nat → Int)) : Nat → (Nat → Int)
  | 0 => fd_c 1
  | k + 1 => fd_ite (1 ≤ k ∧ L.getD k fd_z = L.getD (k - 1) fd_z) (fd_dp L k) (fd_mul (fd_dp L k) (L.getD k fd_z))
theorem fd_take_succ {L : List (Nat → Int)} {k : Nat} (hk : k < L.length) : fd_prod (L.take (k + 1)) = fd_mul (fd_prod (L.take k)) (L.getD k fd_z) := by
  rw [fd_getD_eq hk, List.take_succ_eq_append_getElem hk, fd_prod_snoc]
theorem fd_dp_dv {L : List (Nat → Int)} (hI : ∀ p ∈ L, fd_Irr p) : ∀ k, k ≤ L.length → fd_dv (fd_dp L k) (fd_prod (L.take k)) := by
  intro k
  induction k with
  | zero => intro _; rw [List.take_zero, fd_prod]; exact fd_dv_refl _
  | succ k ih =>
    intro hk
    have hF : fd_F (L.getD k fd_z) := fd_irr_F (hI _ (fd_getD_mem (by omega)))
    obtain ⟨q, hq, e⟩ := ih (by omega)
    rw [fd_take_succ (by omega), fd_dp]
    by_cases hc : 1 ≤ k ∧ L.getD k fd_z = L.getD (k - 1) fd_z
    · rw [fd_ite_t hc, ← e]
      exact fd_dv_mul_r _ hF ⟨q, hq, rfl⟩
    · rw [fd_ite_f hc, ← e]
      refine ⟨q, hq, ?_⟩
      rw [fd_mul_assoc, fd_mul_comm _ q, ← fd_mul_assoc]
theorem fd_take_dv {L : List (Nat → Int)} (hI : ∀ p ∈ L, fd_Irr p) (k : Nat) : fd_dv (fd_prod (L.take k)) (fd_prod L) := by
  refine ⟨fd_prod (L.drop k), fd_F_prod _ fun p hp => fd_irr_F (hI p (List.mem_of_mem_drop hp)), ?_⟩
  rw [← fd_prod_app, List.take_append_drop]
theorem fd_dv_bL {F g : Nat → Int} (hF : fd_H F) (hg : fd_F g) (h : fd_dv g F) : fd_B g 170000 ∧ fd_L g 5 := by
  obtain ⟨q, hq, e⟩ := h
  refine ⟨fun i => fd_bB hF hg hq e i, ?_⟩
  obtain ⟨d, hd⟩ := fd_D_ex (fd_L_F hF.2.1) hF.2.2
  obtain ⟨a, b, ha, hb, hab⟩ := fd_D_split hg hq e hd
  have := fd_D_le hd hF.2.1
  exact fd_L_mono ha.2 (by omega)
theorem fd_dp_F {L : List (Nat → Int)} (hI : ∀ p ∈ L, fd_Irr p) : ∀ k, k ≤ L.length → fd_F (fd_dp L k) := by
  intro k
  induction k with
  | zero => intro _; exact fd_F_c 1
  | succ k ih =>
    intro hk
    rw [fd_dp]
    by_cases hc : 1 ≤ k ∧ L.getD k fd_z = L.getD (k - 1) fd_z
    · rw [fd_ite_t hc]; exact ih (by omega)
    · rw [fd_ite_f hc]
      exact fd_F_mul (ih (by omega)) (fd_irr_F (hI _ (fd_getD_mem (by omega))))
theorem fd_dp_b {f : Nat → Int} {L : List (Nat → Int)} (h0 : fd_H0 f) (hz : f ≠ fd_z) (h : fd_Fac f L) {k : Nat} (hk : k ≤ L.length) : fd_B (fd_dp L k) 170000 ∧ fd_L (fd_dp L k) 5 := by
  obtain ⟨c, hc, e⟩ := h.2.2.2.2 hz
  refine fd_dv_bL ⟨h0.1, h0.2, hz⟩ (fd_dp_F h.1 k hk) (fd_dv_trans (fd_dp_dv h.1 k hk) (fd_dv_trans (fd_take_dv h.1 k) ?_))
  rw [e]; exact fd_dv_sm c (fd_dv_refl _)
theorem xs_isFoundBefore {post : Int32 → Prop} {fc : Int32} {he : Nat → Int32} {re op qu rs wk fo : Nat → Int64} {L : List (Nat → Int)} {k : Nat} (hLB : fd_LB L) (hlen : L.length ≤ 5) (hfo : fd_AL fo L) (hk : k < L.length) (H1 : 1 ≤ k ∧ L.getD k fd_z = L.getD (k - 1) fd_z → post 1) (H0 : ¬ (1 ≤ k ∧ L.getD k fd_z = L.getD (k - 1) fd_z) → post 0) : wpX_isFoundBefore post (fc, he, re, op, qu, rs, wk, fo) (nI k) := by
  by_cases hk1 : 1 ≤ k
  · obtain ⟨_, hpB, hp5⟩ := hLB _ (fd_getD_mem hk)
    obtain ⟨_, hqB, hq5⟩ := hLB _ (fd_getD_mem (by omega : k - 1 < L.length))
    have e1 : nI k - 1 = nI (k - 1) := fd_isub (b := 1) hk1
    refine br_t (nI_le (a := 1) hk1 (by omega)) (fd_upl (fun n x => wX_isFoundBefore_9 post (nI k) fc he re op qu rs wk fo n x) (fun j => L.getD k fd_z j = L.getD (k - 1) fd_z j) 6 (fun h n => ?_) (fun n i hi h hW => ?_))
    · refine br_t (nI_le (Nat.le_refl 6) (by decide)) (H1 ⟨hk1, funext fun j => ?_⟩)
      by_cases hj : j < 6
      · exact h j hj
      · rw [hp5 j (by omega), hq5 j (by omega)]
    · refine br_f (nI_ge (b := 6) hi (by decide)) ⟨by rw [fd_ixX]; exact vp_in_nI (by omega) (by decide), by rw [e1, fd_ixX]; exact vp_in_nI (by omega) (by decide), ?_⟩
      rw [e1, fd_ixX, fd_ixX, nI_clamp (by omega), nI_clamp (by omega), hfo k hk i hi, hfo (k - 1) (by omega) i hi]
      have hps : fd_s (L.getD k fd_z i) := fd_s_of (hpB i) (by decide)
      have hqs : fd_s (L.getD (k - 1) fd_z i) := fd_s_of (hqB i) (by decide)
      exact br_c (fun z => nm_r (nI_1 i) (hW ((fd_l_eq hps hqs).mp z))) (fun z => H0 (fun e => z (by rw [e.2])))
  · exact br_f (nI_ge (a := k) (b := 1) (by omega) (by decide)) (H0 (fun e => hk1 e.1))
theorem xs_prodDiff {post : SX → Prop} {he : Nat → Int32} {re op qu rs wk fo : Nat → Int64} {L : List (Nat → Int)} {f : Nat → Int} (h0 : fd_H0 f) (hz : f ≠ fd_z) (hF : fd_Fac f L) (hfo : fd_AL fo L) (H : ∀ re op wk, fd_R re (fd_dp L L.length) → post (nI L.length, he, re, op, qu, rs, wk, fo)) : wpX_makeProductOfDifferent post (nI L.length, he, re, op, qu, rs, wk, fo) := by
  unfold wpX_makeProductOfDifferent
  dsimp only
  have hlen := hF.2.2.1
  have hLB := fd_Fac_LB h0 hF
  refine xs_clear_result (fun re1 hre => ?_)
  dsimp only
  have key : ∀ (n k : Nat) (re op wk : Nat → Int64), k + n = L.length → fd_R re (fd_dp L k) → wX_makeProductOfDifferent_16 post (n + 1) (nI k) (nI L.length) he re op qu rs wk fo := by
    intro n
    induction n with
    | zero =>
      intro k re op wk hk hR
      have e : k = L.length := by omega
      subst e
      exact br_t (nI_le (Nat.le_refl _) (by omega)) (H re op wk hR)
    | succ n ih =>
      intro k re op wk hk hR
      refine br_f (nI_ge (by omega) (by omega)) (xs_isFoundBefore hLB hlen hfo (by omega) (fun hc => br_f (by decide) (nm_r (nI_1 k) (ih (k + 1) re op wk (by omega) ?_))) (fun hc => br_t rfl (xs_loadFound_operand (by omega) (fun op1 hop => ?_))))
      · rw [fd_dp, fd_ite_t hc]; exact hR
      · dsimp only
        refine xs_mulOp (b := L.getD k fd_z) hR (fd_dp_b h0 hz hF (by omega)).2 (fun i hi => by rw [hop i hi]; exact hfo k (by omega) i hi) (fun re2 wk2 hR2 => ?_)
        dsimp only
        refine nm_r (nI_1 k) (ih (k + 1) re2 op1 wk2 (by omega) ?_)
        rw [fd_dp, fd_ite_f hc]; exact hR2
  refine nm_e ⟨L.length + 1, key L.length 0 _ op wk (by omega) (fun i hi => ?_)⟩
  rw [fd_dp]
  by_cases hi0 : i = 0
  · rw [hi0, fd_uLs]; decide
  · rw [fd_uLn hi0, hre i hi]; simp only [fd_c]; rw [if_neg hi0]; exact fd_l_0.symm
theorem ys_simple50 {post : Int32 → SY → Prop} {ot : Int32} {rg : Nat → Int32} {wh td yr yq pt kp : Nat → Int64} {dg : Nat → Int32} {d : Nat} {L : List (Nat → Int)} {f : Nat → Int} (hd : d < 4) (h0 : fd_H0 f) (hz : f ≠ fd_z) (hF : fd_Fac f L) (hpt : fd_AL pt L) (hkp : fd_AL kp L) (H : ∀ md r rg', fd_K rg d (fd_dp L L.length) r rg' → post r (nI L.length, ot, rg', md, wh, td, yr, yq, pt, kp, dg)) : ∀ (n k : Nat) (md : Nat → Int64), k + n = L.length → fd_R11 md (fd_dp L k) → wY_simple_50 post (nI d) (n + 1) (nI k) (nI L.length) ot rg md wh td yr yq pt kp dg := by
  have hlen := hF.2.2.1
  have hLB := fd_Fac_LB h0 hF
  intro n
  induction n with
  | zero =>
    intro k md hk hR
    have e : k = L.length := by omega
    subst e
    obtain ⟨hB, hL5⟩ := fd_dp_b h0 hz hF (Nat.le_refl L.length)
    exact br_t (nI_le (Nat.le_refl _) (by omega)) (ys_keep hd hR (fd_B_mono hB (by decide)) (fd_L_mono hL5 (by decide)) (fun r rg' hK => H md r rg' hK))
  | succ n ih =>
    intro k md hk hR
    obtain ⟨_, hpB, hp5⟩ := hLB _ (fd_getD_mem (by omega : k < L.length))
    have hgo : ¬ (1 ≤ k ∧ L.getD k fd_z = L.getD (k - 1) fd_z) → wY_simple_73 post (wY_simple_50 post (nI d) (n + 1)) (nI d) (nI k) (nI L.length) ot rg md wh td yr yq pt kp dg := fun hc => by
      unfold wY_simple_73
      refine ys_multiply (by omega) hR (hkp k (by omega)) hp5 (fun md2 hR2 => ?_)
      dsimp only
      refine nm_r (nI_1 k) (ih (k + 1) md2 (by omega) ?_)
      rw [fd_dp, fd_ite_f hc]; exact hR2
    refine br_f (nI_ge (by omega) (by omega)) ?_
    by_cases hk0 : k = 0
    · subst hk0
      exact br_t rfl (hgo (fun hc => absurd hc.1 (by decide)))
    · obtain ⟨_, hqB, hq5⟩ := hLB _ (fd_getD_mem (by omega : k - 1 < L.length))
      have e1 : nI k - 1 = nI (k - 1) := fd_isub (b := 1) (by omega)
      refine br_f (nI_ne0 (by omega) (by omega)) ?_
      rw [e1]
      refine ys_equals (by omega) (by omega) (hkp k (by omega)) (hpt (k - 1) (by omega)) hpB hqB hp5 hq5 (fun e => br_f (by decide) (nm_r (nI_1 k) (ih (k + 1) md (by omega) ?_))) (fun e => br_t rfl (hgo (fun hc => e hc.2)))
      rw [fd_dp, fd_ite_t ⟨by omega, e⟩]; exact hR
theorem i_vc_simple {k : Nat} {u : SX} {v : SY} (I : i_Rel k u v) (hk : k + 5 ≤ 2560) (v1 : Int32) (v2 : Int32) : wpX_simple (fun r u' => wpY_simple (fun r' v' => r' = r ∧ i_Rel (k + 5) u' v') v v1 v2) u v1 v2 := by
  obtain ⟨fc, he, re, op, qu, rs, wk, fo⟩ := u
  obtain ⟨cn, ot, rg, md, wh, td, yr, yq, pt, kp, dg⟩ := v
  obtain ⟨e, hok⟩ := I
  dsimp only at e hok
  subst e
  unfold wpX_simple
  dsimp only
  rcases fd_r4 v1 with ⟨d, hd, e⟩ | h1
  · subst e
    refine xs_reg hd (br_f (by decide) ?_)
    rcases fd_r4 v2 with ⟨r, hr, e⟩ | h2
    · subst e
      have h0 := fd_reg_H0 hok hr
      refine xs_reg hr (br_f (by decide) (xs_load_result hr (fun re1 hre => ?_)))
      dsimp only
      refine xs_deg_result (fd_reg_R hre) (fd_H0_B h0) (by decide) h0.2 (fun hz => br_t (by decide) ?_) (fun dd hdd hD => br_f (nI_pos (by omega)) ?_)
      · -- the zero polynomial
        unfold wX_simple_46
        refine xs_keepResult hd (fd_reg_R hre) (fd_B_mono (fd_H0_B h0) (by decide)) h0.2 (fun r1 he1 hK => ?_)
        dsimp only
        unfold wpY_simple
        dsimp only
        refine ys_isRegister hd (br_f (by decide) (ys_isRegister hr (br_f (by decide) (ys_split hr hok (fun L wh td yr yq pt hF hpt => ?_)))))
        have eL := hF.2.2.2.1 hz
        subst eL
        dsimp only
        refine ys_keepParts (fun kp1 hkp => ?_)
        dsimp only
        refine ys_clearMade (fun md1 hmd => ?_)
        dsimp only
        refine ys_degree hr (fun _ => br_t (by decide) ⟨1, ?_⟩) (fun d' _ hD' => absurd hz (fd_D_nz hD'))
        refine br_t (nI_le (a := 0) (b := 0) (Nat.le_refl 0) (by decide)) (ys_keep hd (f := fd_reg he r) (fun i hi => by rw [hmd i hi, hz]; exact fd_l_0.symm) (fd_B_mono (fd_H0_B h0) (by decide)) (fd_L_mono h0.2 (by decide)) (fun r2 he2 hK2 => ?_))
        dsimp only
        obtain ⟨e1, e2⟩ := fd_K_u hK hK2
        exact ⟨e1, e2, fd_K_ok hok hK⟩
      · have hz := fd_D_nz hD
        refine xs_findFactors hr hok (fun L op qu rs wk fo hF hfo => ?_)
        dsimp only
        refine xs_prodDiff h0 hz hF hfo (fun re2 op2 wk2 hR => ?_)
        dsimp only
        unfold wX_simple_46
        obtain ⟨hB, hL5⟩ := fd_dp_b h0 hz hF (Nat.le_refl L.length)
        refine xs_keepResult hd hR (fd_B_mono hB (by decide)) hL5 (fun r1 he1 hK => ?_)
        dsimp only
        unfold wpY_simple
        dsimp only
        refine ys_isRegister hd (br_f (by decide) (ys_isRegister hr (br_f (by decide) (ys_split hr hok (fun L' wh td yr yq pt hF' hpt => ?_)))))
        rw [← fd_Fac_u hF hF'] at hpt ⊢
        dsimp only
        refine ys_keepParts (fun kp1 hkp => ?_)
        dsimp only
        refine ys_clearMade (fun md1 hmd => ?_)
        dsimp only
        refine ys_degree hr (fun z => absurd z hz) (fun d' hd' hD' => br_f (nI_pos (by omega)) (nm_e ⟨L.length + 1, ?_⟩))
        refine ys_simple50 hd h0 hz hF hpt (fd_AL_copy hpt hF.2.2.1 hkp) (fun md2 r2 he2 hK2 => ?_) L.length 0 _ (by omega) (fun i hi => ?_)
        · obtain ⟨e1, e2⟩ := fd_K_u hK hK2
          exact ⟨e1, e2, fd_K_ok hok hK⟩
        · rw [fd_dp]
          by_cases hi0 : i = 0
          · rw [hi0, fd_uLs]; decide
          · rw [fd_uLn hi0, hmd i hi]; simp only [fd_c]; rw [if_neg hi0]; exact fd_l_0.symm
    · refine xs_nreg h2 (br_t rfl ?_)
      unfold wpY_simple
      dsimp only
      exact ys_isRegister hd (br_f (by decide) (ys_nreg h2 (br_t rfl ⟨rfl, rfl, hok⟩)))
  · refine xs_nreg h1 (br_t rfl ?_)
    unfold wpY_simple
    dsimp only
    exact ys_nreg h1 (br_t rfl ⟨rfl, rfl, hok⟩)
end
section
/-! common divisors -/
theorem fd_pr_nz {a : Nat → Int} (h : fd_pr a) : a ≠ fd_z := by
  intro e
  have := h 0 (fun i => by rw [e]; exact ⟨0, by simp [fd_z]⟩)
  omega
theorem fd_pr_mul {a b : Nat → Int} (ha : fd_pr a) (hb : fd_pr b) (hFa : fd_F a) (hFb : fd_F b) : fd_pr (fd_mul a b) := by
  intro m hm
  rcases Nat.lt_trichotomy m 1 with h | h | h
  · have e : m = 0 := by omega
    subst e
    rcases fd_dom hFa hFb (funext fun i => Int.zero_dvd.mp (hm i)) with h1 | h1
    · exact absurd h1 (fd_pr_nz ha)
    · exact absurd h1 (fd_pr_nz hb)
  · exact h
  · obtain ⟨q, hq, hqm⟩ := fd_prime_ex m h
    have hall : ∀ i, (q : Int) ∣ fd_mul a b i := fun i => Int.dvd_trans (Int.ofNat_dvd.mpr hqm) (hm i)
    rcases fd_gauss hq a b hall with h1 | h1
    · have := ha q h1
      have := hq.1
      omega
    · have := hb q h1
      have := hq.1
      omega
theorem fd_pr_prod {L : List (Nat → Int)} (hI : ∀ p ∈ L, fd_Irr p) : fd_pr (fd_prod L) := by
  induction L with
  | nil =>
    intro m hm
    have h1 := hm 0
    rw [fd_prod, Int.ofNat_dvd_left] at h1
    exact Nat.dvd_one.mp h1
  | cons p L ih =>
    exact fd_pr_mul (hI p (List.mem_cons_self ..)).1 (ih fun q hq => hI q (List.mem_cons_of_mem _ hq)) (fd_irr_F (hI p (List.mem_cons_self ..))) (fd_F_prod L fun q hq => fd_irr_F (hI q (List.mem_cons_of_mem _ hq)))
theorem fd_prim_dvd {P Q : Nat → Int} {c k : Int} (hP : fd_pr P) (hk : k ≠ 0) (e : fd_sm c P = fd_sm k Q) : k ∣ c := by
  obtain ⟨w', h1, _⟩ := fd_cancel_int _ k P Q (fd_c c) rfl hk hP (by rw [fd_mul_c]; exact e.symm)
  have h2 := congrFun h1 0
  simp only [fd_c, fd_sm] at h2
  exact ⟨w' 0, by simpa using h2⟩
theorem fd_prim_u {P Q : Nat → Int} {c k : Int} {d e : Nat} (hP : fd_pr P) (hQ : fd_pr Q) (hc : c ≠ 0) (hk : k ≠ 0) (h : fd_sm c P = fd_sm k Q) (hD : fd_D P d) (hD' : fd_D Q e) (h1 : 0 < P d) (h2 : 0 < Q e) : P = Q := by
  have a1 := fd_prim_dvd hP hk h
  have a2 := fd_prim_dvd hQ hc h.symm
  have a3 : c.natAbs = k.natAbs := Nat.dvd_antisymm (Int.natAbs_dvd_natAbs.mpr a2) (Int.natAbs_dvd_natAbs.mpr a1)
  have hde : d = e := fd_D_u (fd_D_sm hc hD) (by rw [h]; exact fd_D_sm hk hD')
  subst hde
  have h3 := congrFun h d
  simp only [fd_sm] at h3
  have a4 : c = k := by
    rcases Int.natAbs_eq_natAbs_iff.mp a3 with e | e
    · exact e
    · exfalso
      rw [e] at h3
      rcases Int.lt_or_gt_of_ne hk with hn | hp
      · have b1 : 0 < -k * P d := Int.mul_pos (by omega) h1
        have b2 : k * Q d < 0 := Int.mul_neg_of_neg_of_pos hn h2
        omega
      · have b1 : -k * P d < 0 := Int.mul_neg_of_neg_of_pos (by omega) h1
        have b2 : 0 < k * Q d := Int.mul_pos hp h2
        omega
  rw [a4] at h
  exact fd_sm_inj hk h
/-- the exact quotient -/
noncomputable def fd_xq (p f : Nat → Int) : Nat → Int := Classical.epsilon fun q => fd_F q ∧ fd_mul p q = f
theorem fd_xq_eq {p f q : Nat → Int} (hp : fd_F p) (hz : p ≠ fd_z) (hq : fd_F q) (e : fd_mul p q = f) : fd_xq p f = q := by
  have h : fd_F (fd_xq p f) ∧ fd_mul p (fd_xq p f) = f := Classical.epsilon_spec (p := fun q => fd_F q ∧ fd_mul p q = f) ⟨q, hq, e⟩
  exact fd_cancel hp hz h.1 hq (by rw [h.2, e])
noncomputable def fd_gs (L : List (Nat → Int)) (g : Nat → Int) : Nat → (Nat → Int) × (Nat → Int)
  | 0 => (g, fd_c 1)
  | k + 1 => (fd_ite (fd_dv (L.getD k fd_z) (fd_gs L g k).1) (fd_xq (L.getD k fd_z) (fd_gs L g k).1) (fd_gs L g k).1, fd_ite (fd_dv (L.getD k fd_z) (fd_gs L g k).1) (fd_mul (fd_gs L g k).2 (L.getD k fd_z)) (fd_gs L g k).2)
theorem fd_gs_yes {L : List (Nat → Int)} {g q : Nat → Int} {k : Nat} (hI : ∀ p ∈ L, fd_Irr p) (hk : k < L.length) (hq : fd_F q) (e : fd_mul (L.getD k fd_z) q = (fd_gs L g k).1) : fd_gs L g (k + 1) = (q, fd_mul (fd_gs L g k).2 (L.getD k fd_z)) := by
  have hp := hI _ (fd_getD_mem hk)
  have hdv : fd_dv (L.getD k fd_z) (fd_gs L g k).1 := ⟨q, hq, e⟩
  rw [fd_gs, fd_ite_t hdv, fd_ite_t hdv, fd_xq_eq (fd_irr_F hp) (fd_irr_nz hp) hq e]
theorem fd_gs_no {L : List (Nat → Int)} {g : Nat → Int} {k : Nat} (h : ¬ fd_dv (L.getD k fd_z) (fd_gs L g k).1) : fd_gs L g (k + 1) = fd_gs L g k := by
  rw [fd_gs, fd_ite_f h, fd_ite_f h]
/-- G so far divides the product of the factors looked at; the rest divides g -/
theorem fd_gs_inv {L : List (Nat → Int)} {g : Nat → Int} (hI : ∀ p ∈ L, fd_Irr p) (hg : fd_F g) : ∀ k, k ≤ L.length → fd_F (fd_gs L g k).1 ∧ fd_F (fd_gs L g k).2 ∧ fd_dv (fd_gs L g k).2 (fd_prod (L.take k)) ∧ fd_mul (fd_gs L g k).2 (fd_gs L g k).1 = g := by
  intro k
  induction k with
  | zero => intro _; exact ⟨hg, fd_F_c 1, by rw [List.take_zero, fd_prod]; exact fd_dv_refl _, fd_1_mul g⟩
  | succ k ih =>
    intro hk
    obtain ⟨h1, h2, h3, h4⟩ := ih (by omega)
    have hF : fd_F (L.getD k fd_z) := fd_irr_F (hI _ (fd_getD_mem (by omega)))
    rw [fd_take_succ (by omega)]
    by_cases hd : fd_dv (L.getD k fd_z) (fd_gs L g k).1
    · obtain ⟨q, hq, e⟩ := hd
      rw [fd_gs_yes hI (by omega) hq e]
      refine ⟨hq, fd_F_mul h2 hF, ?_, ?_⟩
      · obtain ⟨r, hr, e'⟩ := h3
        refine ⟨r, hr, ?_⟩
        show fd_mul (fd_mul (fd_gs L g k).2 (L.getD k fd_z)) r = _
        rw [← e', fd_mul_assoc, fd_mul_comm _ r, ← fd_mul_assoc]
      · show fd_mul (fd_mul (fd_gs L g k).2 (L.getD k fd_z)) q = g
        rw [fd_mul_assoc, e, h4]
    · rw [fd_gs_no hd]
      exact ⟨h1, h2, fd_dv_mul_r _ hF h3, h4⟩
theorem fd_gs_z {L : List (Nat → Int)} (hI : ∀ p ∈ L, fd_Irr p) : ∀ k, k ≤ L.length → fd_gs L fd_z k = (fd_z, fd_prod (L.take k)) := by
  intro k
  induction k with
  | zero => intro _; rw [fd_gs, List.take_zero, fd_prod]
  | succ k ih =>
    intro hk
    have h := ih (by omega)
    have h1 : fd_mul (L.getD k fd_z) fd_z = (fd_gs L fd_z k).1 := by rw [h, fd_mul_z]
    rw [fd_gs_yes hI (by omega) fd_F_z h1, h, fd_take_succ (by omega)]
theorem fd_drop_prod {L : List (Nat → Int)} {k : Nat} (hk : k < L.length) : fd_prod (L.drop k) = fd_mul (L.getD k fd_z) (fd_prod (L.drop (k + 1))) := by
  rw [fd_getD_eq hk, List.drop_eq_getElem_cons hk, fd_prod]
theorem fd_gs_self {L : List (Nat → Int)} (hI : ∀ p ∈ L, fd_Irr p) : ∀ k, k ≤ L.length → fd_gs L (fd_prod L) k = (fd_prod (L.drop k), fd_prod (L.take k)) := by
  intro k
  induction k with
  | zero => intro _; rw [fd_gs, List.take_zero, fd_prod, List.drop_zero]
  | succ k ih =>
    intro hk
    have h := ih (by omega)
    have h1 : fd_mul (L.getD k fd_z) (fd_prod (L.drop (k + 1))) = (fd_gs L (fd_prod L) k).1 := by rw [h, ← fd_drop_prod (by omega)]
    rw [fd_gs_yes hI (by omega) (fd_F_prod _ fun p hp => fd_irr_F (hI p (List.mem_of_mem_drop hp))) h1, h, fd_take_succ (by omega)]
/-! the reference's marks -/
def fd_ul : List (Nat → Int) → Nat → List (Nat → Int)
  | [], _ => []
  | p :: L, u => if u % 2 = 0 then p :: fd_ul L (u / 2) else fd_ul L (u / 2)
theorem fd_ul_0 (L : List (Nat → Int)) : fd_ul L 0 = L := by
  induction L with
  | nil => rfl
  | cons p L ih => rw [fd_ul, if_pos rfl, show 0 / 2 = 0 from rfl, ih]
theorem fd_ul_sub {L : List (Nat → Int)} : ∀ (u : Nat) (p : Nat → Int), p ∈ fd_ul L u → p ∈ L := by
  induction L with
  | nil => intro u p h; exact h
  | cons q L ih =>
    intro u p h
    rw [fd_ul] at h
    by_cases hu : u % 2 = 0
    · rw [if_pos hu] at h
      rcases List.mem_cons.mp h with e | e
      · rw [e]; exact List.mem_cons_self ..
      · exact List.mem_cons_of_mem _ (ih _ p e)
    · rw [if_neg hu] at h
      exact List.mem_cons_of_mem _ (ih _ p h)
theorem fd_ul_mem {L : List (Nat → Int)} : ∀ (u : Nat) (p : Nat → Int), p ∈ fd_ul L u → ∃ m, m < L.length ∧ u / 2 ^ m % 2 = 0 ∧ L.getD m fd_z = p := by
  induction L with
  | nil => intro u p h; exact absurd h List.not_mem_nil
  | cons q L ih =>
    intro u p h
    rw [fd_ul] at h
    have rest : p ∈ fd_ul L (u / 2) → ∃ m, m < (q :: L).length ∧ u / 2 ^ m % 2 = 0 ∧ (q :: L).getD m fd_z = p := by
      intro h
      obtain ⟨m, h1, h2, h3⟩ := ih _ p h
      refine ⟨m + 1, by rw [List.length_cons]; omega, ?_, ?_⟩
      · rw [Nat.pow_succ, Nat.mul_comm, ← Nat.div_div_eq_div_mul]; exact h2
      · rw [List.getD_cons_succ]; exact h3
    by_cases hu : u % 2 = 0
    · rw [if_pos hu] at h
      rcases List.mem_cons.mp h with e | e
      · exact ⟨0, by rw [List.length_cons]; omega, by simpa using hu, by rw [List.getD_cons_zero]; exact e.symm⟩
      · exact rest e
    · rw [if_neg hu] at h
      exact rest h
theorem fd_ul_take {L : List (Nat → Int)} : ∀ (u m : Nat), m < L.length → u / 2 ^ m % 2 = 0 → fd_prod (fd_ul L u) = fd_mul (L.getD m fd_z) (fd_prod (fd_ul L (u + 2 ^ m))) := by
  induction L with
  | nil => intro u m h; exact absurd h (Nat.not_lt_zero m)
  | cons q L ih =>
    intro u m hm h
    cases m with
    | zero =>
      have hu : u % 2 = 0 := by simpa using h
      have h1 : ¬ (u + 2 ^ 0) % 2 = 0 := by rw [Nat.pow_zero]; omega
      have h2 : (u + 2 ^ 0) / 2 = u / 2 := by rw [Nat.pow_zero]; omega
      rw [fd_ul, fd_ul, if_pos hu, if_neg h1, h2, fd_prod, List.getD_cons_zero]
    | succ m =>
      rw [List.length_cons] at hm
      have h' : u / 2 / 2 ^ m % 2 = 0 := by
        rw [Nat.div_div_eq_div_mul, Nat.mul_comm, ← Nat.pow_succ]; exact h
      have h1 : (u + 2 ^ (m + 1)) % 2 = u % 2 := by rw [Nat.pow_succ]; omega
      have h2 : (u + 2 ^ (m + 1)) / 2 = u / 2 + 2 ^ m := by rw [Nat.pow_succ]; omega
      have h3 := ih (u / 2) m (by omega) h'
      rw [fd_ul, fd_ul, h1, h2, List.getD_cons_succ]
      by_cases hu : u % 2 = 0
      · rw [if_pos hu, if_pos hu, fd_prod, fd_prod, h3, fd_mul_left]
      · rw [if_neg hu, if_neg hu, h3]
theorem fd_mask {u m : Nat} (hu : u < 32) (hm : m < 5) : (((nI u >>> (nI m &&& 31)) &&& 1) = 0 ↔ u / 2 ^ m % 2 = 0) ∧ (u / 2 ^ m % 2 = 0 → nI u ||| ((1 : Int32) <<< (nI m &&& 31)) = nI (u + 2 ^ m)) := by
  have hk : ∀ (u : Fin 32) (m : Fin 5), (((nI u.val >>> (nI m.val &&& 31)) &&& 1) = 0 ↔ u.val / 2 ^ m.val % 2 = 0) ∧ (u.val / 2 ^ m.val % 2 = 0 → nI u.val ||| ((1 : Int32) <<< (nI m.val &&& 31)) = nI (u.val + 2 ^ m.val)) := by decide +kernel
  exact hk ⟨u, hu⟩ ⟨m, hm⟩
theorem fd_mask_lt {u m n : Nat} (hu : u < 2 ^ n) (hm : m < n) (h : u / 2 ^ m % 2 = 0) : u + 2 ^ m < 2 ^ n := by
  have e : n = m + 1 + (n - m - 1) := by omega
  have e1 : 2 ^ n = 2 ^ m * (2 * 2 ^ (n - m - 1)) := by
    rw [← Nat.mul_assoc, ← Nat.pow_succ, ← Nat.pow_add]; exact congrArg _ e
  have h1 : u / 2 ^ m < 2 * 2 ^ (n - m - 1) := by
    rw [Nat.div_lt_iff_lt_mul (Nat.pow_pos (by decide)), Nat.mul_comm, ← e1]; exact hu
  have h2 : u / 2 ^ m + 1 < 2 * 2 ^ (n - m - 1) := by omega
  have h3 : u < 2 ^ m * (u / 2 ^ m + 1) := by
    have := Nat.lt_mul_div_succ u (Nat.pow_pos (a := 2) (n := m) (by decide))
    exact this
  have h4 : 2 ^ m * (u / 2 ^ m + 1 + 1) ≤ 2 ^ m * (2 * 2 ^ (n - m - 1)) := Nat.mul_le_mul_left _ h2
  rw [e1]
  rw [Nat.mul_add, Nat.mul_one] at h4
  omega
end
section
/-! GCD on both sides -/
def fd_GC (f g G : Nat → Int) : Prop := (f = fd_z ∧ g = fd_z ∧ G = fd_z) ∨ (f = fd_z ∧ g ≠ fd_z ∧ ∃ k d, k ≠ 0 ∧ g = fd_sm k G ∧ fd_pr G ∧ fd_D G d ∧ 0 < G d) ∨ (f ≠ fd_z ∧ g = fd_z ∧ ∃ L, fd_Fac f L ∧ G = fd_prod L) ∨ (f ≠ fd_z ∧ g ≠ fd_z ∧ ∃ L, fd_Fac f L ∧ G = (fd_gs L g L.length).2)
theorem fd_GC_u {f g G G' : Nat → Int} (h : fd_GC f g G) (h' : fd_GC f g G') : G = G' := by
  rcases h with ⟨a1, a2, a3⟩ | ⟨a1, a2, k, d, a3, a4, a5, a6, a7⟩ | ⟨a1, a2, L, a3, a4⟩ | ⟨a1, a2, L, a3, a4⟩
  · rcases h' with ⟨b1, b2, b3⟩ | ⟨b1, b2, _⟩ | ⟨b1, b2, _⟩ | ⟨b1, b2, _⟩
    · rw [a3, b3]
    · exact absurd a2 b2
    · exact absurd a1 b1
    · exact absurd a1 b1
  · rcases h' with ⟨b1, b2, b3⟩ | ⟨b1, b2, k', d', b3, b4, b5, b6, b7⟩ | ⟨b1, b2, _⟩ | ⟨b1, b2, _⟩
    · exact absurd b2 a2
    · exact fd_prim_u a5 b5 a3 b3 (by rw [← a4, ← b4]) a6 b6 a7 b7
    · exact absurd a1 b1
    · exact absurd a1 b1
  · rcases h' with ⟨b1, b2, b3⟩ | ⟨b1, b2, _⟩ | ⟨b1, b2, L', b3, b4⟩ | ⟨b1, b2, _⟩
    · exact absurd b1 a1
    · exact absurd b1 a1
    · rw [a4, b4, fd_Fac_u a3 b3]
    · exact absurd a2 b2
  · rcases h' with ⟨b1, b2, b3⟩ | ⟨b1, b2, _⟩ | ⟨b1, b2, _⟩ | ⟨b1, b2, L', b3, b4⟩
    · exact absurd b1 a1
    · exact absurd b1 a1
    · exact absurd b2 a2
    · rw [a4, b4, fd_Fac_u a3 b3]
theorem fd_Fac_dv {f : Nat → Int} {L : List (Nat → Int)} (hz : f ≠ fd_z) (h : fd_Fac f L) : fd_dv (fd_prod L) f := by
  obtain ⟨c, hc, e⟩ := h.2.2.2.2 hz
  rw [e]; exact fd_dv_sm c (fd_dv_refl _)
theorem fd_Fac_pF {f : Nat → Int} {L : List (Nat → Int)} (h : fd_Fac f L) : fd_F (fd_prod L) := fd_F_prod L fun p hp => fd_irr_F (h.1 p hp)
/-- bounds of G as it grows -/
theorem fd_gs_b {f g : Nat → Int} {L : List (Nat → Int)} (h0 : fd_H0 f) (hz : f ≠ fd_z) (hF : fd_Fac f L) (hg : fd_F g) {k : Nat} (hk : k ≤ L.length) : fd_B (fd_gs L g k).2 170000 ∧ fd_L (fd_gs L g k).2 5 := by
  obtain ⟨_, h2, h3, _⟩ := fd_gs_inv hF.1 hg k hk
  exact fd_dv_bL ⟨h0.1, h0.2, hz⟩ h2 (fd_dv_trans h3 (fd_dv_trans (fd_take_dv hF.1 k) (fd_Fac_dv hz hF)))
theorem fd_GC_b {f g G : Nat → Int} (hf : fd_H0 f) (hg : fd_H0 g) (h : fd_GC f g G) : fd_B G 170000 ∧ fd_L G 5 := by
  rcases h with ⟨a1, a2, a3⟩ | ⟨a1, a2, k, d, a3, a4, a5, a6, a7⟩ | ⟨a1, a2, L, a3, a4⟩ | ⟨a1, a2, L, a3, a4⟩
  · rw [a3]; exact ⟨fun i => by simp [fd_z], fun _ _ => rfl⟩
  · exact fd_dv_bL ⟨hg.1, hg.2, a2⟩ (fd_D_F a6) (by rw [a4]; exact fd_dv_sm k (fd_dv_refl G))
  · rw [a4]; exact fd_dv_bL ⟨hf.1, hf.2, a1⟩ (fd_Fac_pF a3) (fd_Fac_dv a1 a3)
  · rw [a4]; exact fd_gs_b hf a1 a3 (fd_L_F hg.2) (Nat.le_refl _)
theorem fd_gcd_bd {f g p w : Nat → Int} {d : Nat} (hf : fd_H0 f) (hfz : f ≠ fd_z) (hp : fd_dv p f) (hD : fd_D p d) (hd1 : 1 ≤ d) (hg : fd_H0 g) (hwF : fd_F w) (hw : w = fd_z ∨ (g ≠ fd_z ∧ fd_dv w g)) : ∃ G M tt, fd_B p G ∧ G ≤ 4611686018427387904 ∧ fd_B w M ∧ (∀ j, tt + d ≤ j → w j = 0) ∧ M * (1 + G) ^ (min (6 - d) tt) ≤ 4611686018427387904 ∧ fd_L w 5 := by
  obtain ⟨hpB, hp5⟩ := fd_dv_bL ⟨hf.1, hf.2, hfz⟩ (fd_D_F hD) hp
  rcases hw with e | ⟨hgz, hdv⟩
  · refine ⟨170000, 0, 0, hpB, by decide, fun i => by rw [e]; simp [fd_z], fun j _ => by rw [e]; rfl, by simp, fun j _ => by rw [e]; rfl⟩
  · obtain ⟨hwB, hw5⟩ := fd_dv_bL ⟨hg.1, hg.2, hgz⟩ hwF hdv
    obtain ⟨q, hq, eq'⟩ := hp
    by_cases h1 : d = 1
    · subst h1
      obtain ⟨b1, b0⟩ := fd_b1 ⟨hf.1, hf.2, hfz⟩ hD hq eq'
      refine ⟨20, 170000, 6, fun i => ?_, by decide, hwB, fun j hj => hw5 j (by omega), by decide, hw5⟩
      match i with
      | 0 => omega
      | 1 => omega
      | (n + 2) => rw [hD.2 (n + 2) (by omega)]; simp
    · by_cases h2 : d = 2
      · subst h2
        obtain ⟨b2, b1, b0⟩ := fd_b2 ⟨hf.1, hf.2, hfz⟩ hD hq eq'
        refine ⟨60, 170000, 6, fun i => ?_, by decide, hwB, fun j hj => hw5 j (by omega), by decide, hw5⟩
        match i with
        | 0 => omega
        | 1 => omega
        | 2 => omega
        | (n + 3) => rw [hD.2 (n + 3) (by omega)]; simp
      · by_cases h5 : ∃ j, 5 ≤ j ∧ w j ≠ 0
        · -- w is g up to a number
          obtain ⟨j, hj, hjz⟩ := h5
          have hj5 : j = 5 := by
            rcases Nat.lt_or_ge 5 j with h | h
            · exact absurd (hw5 j h) hjz
            · omega
          subst hj5
          have hDw : fd_D w 5 := ⟨hjz, hw5⟩
          obtain ⟨r, hr, er⟩ := hdv
          obtain ⟨dg, hdg⟩ := fd_D_ex (fd_L_F hg.2) hgz
          obtain ⟨a, b, ha, hb, hab⟩ := fd_D_split hwF hr er hdg
          have e1 := fd_D_u ha hDw
          have e2 := fd_D_le hdg hg.2
          have hb0 : b = 0 := by omega
          subst hb0
          have hB20 : fd_B w 20 := fun i => by
            rw [fd_L0_c hb.2, fd_mul_c] at er
            have h1 : r 0 * w i = g i := congrFun er i
            have := fd_n1 (x := w i) (y := r 0) (by rw [Int.mul_comm]; exact h1) hb.1 (hg.1 i)
            omega
          refine ⟨170000, 20, 3, hpB, by decide, hB20, fun j hj => hw5 j (by omega), ?_, hw5⟩
          have h3 : (1 + 170000) ^ (min (6 - d) 3) ≤ (1 + 170000) ^ 3 := Nat.pow_le_pow_right (by decide) (by omega)
          exact Nat.le_trans (Nat.mul_le_mul_left _ h3) (by decide)
        · have hz : ∀ j, 5 ≤ j → w j = 0 := fun j hj => Classical.byContradiction fun hn => h5 ⟨j, hj, hn⟩
          refine ⟨170000, 170000, 2, hpB, by decide, hwB, fun j hj => hz j (by omega), ?_, hw5⟩
          have h3 : (1 + 170000) ^ (min (6 - d) 2) ≤ (1 + 170000) ^ 2 := Nat.pow_le_pow_right (by decide) (by omega)
          exact Nat.le_trans (Nat.mul_le_mul_left _ h3) (by decide)
theorem xs_com57 {post : SX → Prop} {he : Nat → Int32} {fo : Nat → Int64} {f g : Nat → Int} {L : List (Nat → Int)} (hf : fd_H0 f) (hfz : f ≠ fd_z) (hF : fd_Fac f L) (hg : fd_H0 g) (hfo : fd_AL fo L) (H : ∀ re op qu rs wk, fd_R re (fd_gs L g L.length).2 → post (nI L.length, he, re, op, qu, rs, wk, fo)) : ∀ (n k : Nat) (re op qu rs wk : Nat → Int64), k + n = L.length → fd_R re (fd_gs L g k).2 → fd_R rs (fd_gs L g k).1 → wX_makeCommonDivisor_57 post (n + 1) (nI k) (nI L.length) he re op qu rs wk fo := by
  have hlen := hF.2.2.1
  have hLB := fd_Fac_LB hf hF
  intro n
  induction n with
  | zero =>
    intro k re op qu rs wk hk hR hrs
    have e : k = L.length := by omega
    subst e
    exact br_t (nI_le (Nat.le_refl _) (by omega)) (H re op qu rs wk hR)
  | succ n ih =>
    intro k re op qu rs wk hk hR hrs
    obtain ⟨hI, hpB, hp5⟩ := hLB _ (fd_getD_mem (by omega : k < L.length))
    obtain ⟨_, ⟨d, hd1, hD, _⟩, _⟩ := id hI
    have hd5 := fd_D_le hD hp5
    obtain ⟨i1, i2, i3, i4⟩ := fd_gs_inv hF.1 (fd_L_F hg.2) k (by omega)
    have hw : (fd_gs L g k).1 = fd_z ∨ (g ≠ fd_z ∧ fd_dv (fd_gs L g k).1 g) := by
      by_cases hgz : g = fd_z
      · left; rw [hgz, fd_gs_z hF.1 k (by omega)]
      · right; exact ⟨hgz, ⟨_, i2, by rw [fd_mul_comm]; exact i4⟩⟩
    obtain ⟨G, M, tt, b1, b2, b3, b4, b5, b6⟩ := fd_gcd_bd hf hfz (fd_dv_trans (fd_dv_prod hF.1 (fd_getD_mem (by omega : k < L.length))) (fd_Fac_dv hfz hF)) hD hd1 hg i1 hw
    refine br_f (nI_ge (by omega) (by omega)) (xs_loadFound_operand (by omega) (fun op1 hop => ?_))
    dsimp only
    have hop' : fd_R op1 (L.getD k fd_z) := fun i hi => by rw [hop i hi]; exact hfo k (by omega) i hi
    refine xs_deg_operand hop' hpB (by decide) hp5 (fun z => absurd z (fd_irr_nz hI)) (fun d' hd' hD' => ?_)
    have e := fd_D_u hD' hD
    subst e
    refine xs_divideRest hD' hd' hop' b1 b2 hrs b6 b4 b3 b5 (fun qu1 rs1 wk1 f' hf' hL' e => ?_) (fun hn qu1 wk1 => ?_)
    · dsimp only
      have hy := fd_gs_yes (g := g) hF.1 (by omega : k < L.length) (fd_L_F hL') e
      refine br_f (by decide) (xs_mulOp hR (fd_gs_b hf hfz hF (fd_L_F hg.2) (by omega)).2 hop' (fun re2 wk2 hR2 => ?_))
      dsimp only
      refine nm_r (nI_1 k) (ih (k + 1) re2 op1 qu1 rs1 wk2 (by omega) ?_ ?_)
      · rw [hy]; exact hR2
      · rw [hy]; exact hf'
    · dsimp only
      refine br_t rfl (nm_r (nI_1 k) (ih (k + 1) re op1 qu1 rs wk1 (by omega) ?_ ?_))
      · rw [fd_gs_no hn]; exact hR
      · rw [fd_gs_no hn]; exact hrs
theorem xs_common {post : SX → Prop} {fc : Int32} {he : Nat → Int32} {re op qu rs wk fo : Nat → Int64} {a b : Nat} (ha : a < 4) (hb : b < 4) (hok : fd_ok he) (hre : fd_R re (fd_reg he a)) (H : ∀ G, fd_GC (fd_reg he a) (fd_reg he b) G → ∀ fc re op qu rs wk fo, fd_R re G → post (fc, he, re, op, qu, rs, wk, fo)) : wpX_makeCommonDivisor post (fc, he, re, op, qu, rs, wk, fo) (nI a) (nI b) := by
  unfold wpX_makeCommonDivisor
  dsimp only
  have hf := fd_reg_H0 hok ha
  have hg := fd_reg_H0 hok hb
  refine xs_deg_result hre (fd_H0_B hf) (by decide) hf.2 (fun hz => br_f (by decide) ?_) (fun d hd hD => br_t (nI_pos' (by omega)) ?_)
  · refine xs_load_result hb (fun re1 hre1 => ?_)
    dsimp only
    have hR1 := fd_reg_R hre1
    refine xs_makePrimitive_result hR1 hg (fun hgz => ?_) (fun re2 F k d hR2 hk e hF hp hD hpos => ?_)
    · exact H fd_z (Or.inl ⟨hz, hgz, rfl⟩) _ _ _ _ _ _ _ (by rw [← hgz]; exact hR1)
    · have hgz : fd_reg he b ≠ fd_z := by rw [e]; exact fd_D_nz (fd_D_sm hk hD)
      exact H F (Or.inr (Or.inl ⟨hz, hgz, k, d, hk, e, hp, hD, hpos⟩)) _ _ _ _ _ _ _ hR2
  · have hfz := fd_D_nz hD
    refine xs_findFactors ha hok (fun L op qu rs wk fo hF hfo => ?_)
    dsimp only
    refine xs_load_rest hb (fun rs1 hrs1 => ?_)
    dsimp only
    refine xs_clear_result (fun re1 hre1 => ?_)
    dsimp only
    refine nm_e ⟨L.length + 1, ?_⟩
    refine xs_com57 hf hfz hF hg hfo (fun re op qu rs wk hR => ?_) L.length 0 _ op qu rs1 wk (by omega) (fun i hi => ?_) (fd_reg_R hrs1)
    · by_cases hgz : fd_reg he b = fd_z
      · refine H _ (Or.inr (Or.inr (Or.inl ⟨hfz, hgz, L, hF, rfl⟩))) _ _ _ _ _ _ _ ?_
        rw [hgz, fd_gs_z hF.1 _ (Nat.le_refl _), List.take_length] at hR
        exact hR
      · exact H _ (Or.inr (Or.inr (Or.inr ⟨hfz, hgz, L, hF, rfl⟩))) _ _ _ _ _ _ _ hR
    · show vp_updL re1 0 1 i = fd_l (fd_c 1 i)
      by_cases hi0 : i = 0
      · rw [hi0, fd_uLs]; decide
      · rw [fd_uLn hi0, hre1 i hi]; simp only [fd_c]; rw [if_neg hi0]; exact fd_l_0.symm
end
section
/-! GCD in the reference -/
section
variable {post : Int32 → SY → Prop} {J : Int32 → Int32 → Int32 → Int32 → (Nat → Int32) → (Nat → Int64) → (Nat → Int64) → (Nat → Int64) → (Nat → Int64) → (Nat → Int64) → (Nat → Int64) → (Nat → Int64) → (Nat → Int32) → Prop} {x1 ot : Int32} {rg : Nat → Int32} {md wh td yr yq pt kp : Nat → Int64} {dg : Nat → Int32} {L1 L2 : List (Nat → Int)} {k : Nat} {G : Nat → Int}
theorem ys_com88b (hk : k < L1.length) (h1 : L1.length ≤ 5) (h2 : L2.length ≤ 5) (hB1 : fd_LB L1) (hkp : fd_AL kp L1) (hmd : fd_R11 md G) {u : Nat}
    (H : ∀ md, fd_R11 md (fd_mul G (L1.getD k fd_z)) → J (nI u) (nI (k + 1)) (nI L2.length) ot rg md wh td yr yq pt kp dg) : ∀ j m, m + j = L2.length → wY_common_88 post J x1 (nI k) (nI L2.length) ot rg md wh td yr yq pt kp dg (j + 1) (nI u) 1 (nI m) := by
  intro j
  induction j with
  | zero =>
    intro m hm
    have e : m = L2.length := by omega
    subst e
    refine br_t (nI_le (Nat.le_refl _) (by omega)) (br_f (by decide) (ys_multiply (by omega) hmd (hkp k hk) (hB1 _ (fd_getD_mem hk)).2.2 (fun md2 hR2 => ?_)))
    dsimp only
    exact nm_r (nI_1 k) (H md2 hR2)
  | succ j ih =>
    intro m hm
    exact br_f (nI_ge (by omega) (by omega)) (br_f (by decide) (nm_r (nI_1 m) (ih (m + 1) (by omega))))
theorem ys_com88 (hk : k < L1.length) (h1 : L1.length ≤ 5) (h2 : L2.length ≤ 5) (hB1 : fd_LB L1) (hB2 : fd_LB L2) (hkp : fd_AL kp L1) (hpt : fd_AL pt L2) (hmd : fd_R11 md G) {u : Nat} (hu : u < 2 ^ L2.length)
    (H1 : ∀ m, m < L2.length → u / 2 ^ m % 2 = 0 → L1.getD k fd_z = L2.getD m fd_z → ∀ md, fd_R11 md (fd_mul G (L1.getD k fd_z)) → J (nI (u + 2 ^ m)) (nI (k + 1)) (nI L2.length) ot rg md wh td yr yq pt kp dg)
    (H0 : (∀ m, m < L2.length → u / 2 ^ m % 2 = 0 → L1.getD k fd_z ≠ L2.getD m fd_z) → J (nI u) (nI (k + 1)) (nI L2.length) ot rg md wh td yr yq pt kp dg) : ∀ j m, m + j = L2.length → (∀ m', m' < m → u / 2 ^ m' % 2 = 0 → L1.getD k fd_z ≠ L2.getD m' fd_z) → wY_common_88 post J x1 (nI k) (nI L2.length) ot rg md wh td yr yq pt kp dg (j + 1) (nI u) 0 (nI m) := by
  have hu32 : u < 32 := by
    have : 2 ^ L2.length ≤ 2 ^ 5 := Nat.pow_le_pow_right (by decide) h2
    omega
  intro j
  induction j with
  | zero =>
    intro m hm hno
    have e : m = L2.length := by omega
    subst e
    exact br_t (nI_le (Nat.le_refl _) (by omega)) (br_t rfl (nm_r (nI_1 k) (H0 hno)))
  | succ j ih =>
    intro m hm hno
    obtain ⟨k1, k2⟩ := fd_mask (u := u) (m := m) hu32 (by omega)
    have hnext : (u / 2 ^ m % 2 = 0 → L1.getD k fd_z ≠ L2.getD m fd_z) → wY_common_88 post J x1 (nI k) (nI L2.length) ot rg md wh td yr yq pt kp dg (j + 1) (nI u) 0 (nI (m + 1)) := fun hn => by
      refine ih (m + 1) (by omega) (fun m' hm' hb => ?_)
      by_cases e : m' = m
      · rw [e] at hb ⊢; exact hn hb
      · exact hno m' (by omega) hb
    refine br_f (nI_ge (by omega) (by omega)) (br_t rfl (br_c (fun z => ?_) (fun z => nm_r (nI_1 m) (hnext (fun hb => absurd (k1.mpr hb) z)))))
    have hb := k1.mp z
    obtain ⟨_, hpB, hp5⟩ := hB1 _ (fd_getD_mem hk)
    obtain ⟨_, hqB, hq5⟩ := hB2 _ (fd_getD_mem (by omega : m < L2.length))
    refine ys_equals (by omega) (by omega) (hkp k hk) (hpt m (by omega)) hpB hqB hp5 hq5 (fun e => br_f (by decide) (nm_r (k2 hb) (nm_r (nI_1 m) ?_))) (fun e => br_t rfl (nm_r (nI_1 m) (hnext (fun _ => e))))
    exact ys_com88b hk h1 h2 hB1 hkp hmd (H1 m (by omega) hb e) j (m + 1) (by omega)
end
theorem ys_com73 {post : Int32 → SY → Prop} {rg : Nat → Int32} {wh td yr yq pt kp : Nat → Int64} {dg : Nat → Int32} {L1 L2 : List (Nat → Int)} {R0 G : Nat → Int} {c : Int} {d : Nat} (hd : d < 4) (hc : c ≠ 0) (h1 : L1.length ≤ 5) (h2 : L2.length ≤ 5) (hB1 : fd_LB L1) (hB2 : fd_LB L2) (hkp : fd_AL kp L1) (hpt : fd_AL pt L2) (hG : (fd_gs L1 R0 L1.length).2 = G) (hGB : fd_B G 170000) (hG5 : fd_L G 5)
    (H : ∀ md r rg', fd_K rg d G r rg' → post r (nI L2.length, nI L1.length, rg', md, wh, td, yr, yq, pt, kp, dg)) : ∀ (n k u : Nat) (md : Nat → Int64), k + n = L1.length → u < 2 ^ L2.length → fd_R11 md (fd_gs L1 R0 k).2 → (fd_gs L1 R0 k).1 = fd_sm c (fd_prod (fd_ul L2 u)) → wY_common_73 post (nI d) (n + 1) (nI u) (nI k) (nI L2.length) (nI L1.length) rg md wh td yr yq pt kp dg := by
  have hI1 : ∀ p ∈ L1, fd_Irr p := fun p hp => (hB1 p hp).1
  have hI2 : ∀ p ∈ L2, fd_Irr p := fun p hp => (hB2 p hp).1
  intro n
  induction n with
  | zero =>
    intro k u md hk hu hmd _
    have e : k = L1.length := by omega
    subst e
    rw [hG] at hmd
    exact br_t (nI_le (Nat.le_refl _) (by omega)) (ys_keep hd hmd (fd_B_mono hGB (by decide)) (fd_L_mono hG5 (by decide)) (fun r rg' hK => H md r rg' hK))
  | succ n ih =>
    intro k u md hk hu hmd hs
    refine br_f (nI_ge (by omega) (by omega)) ⟨L2.length + 1, ?_⟩
    refine ys_com88 (by omega) h1 h2 hB1 hB2 hkp hpt hmd hu (fun m hm hb e md2 hmd2 => ?_) (fun hno => ?_) L2.length 0 (by omega) (fun m' hm' => absurd hm' (Nat.not_lt_zero m'))
    · have hF : fd_F (fd_sm c (fd_prod (fd_ul L2 (u + 2 ^ m)))) := fd_F_sm _ (fd_F_prod _ fun p hp => fd_irr_F (hI2 p (fd_ul_sub _ p hp)))
      have hy := fd_gs_yes (g := R0) (q := fd_sm c (fd_prod (fd_ul L2 (u + 2 ^ m)))) hI1 (by omega : k < L1.length) hF (by rw [hs, fd_ul_take u m hm hb, fd_mul_sm, e])
      refine ih (k + 1) (u + 2 ^ m) md2 (by omega) (fd_mask_lt hu hm hb) ?_ ?_
      · rw [hy]; exact hmd2
      · rw [hy]
    · have hn : ¬ fd_dv (L1.getD k fd_z) (fd_gs L1 R0 k).1 := fun hdv => by
        rw [hs] at hdv
        have hmem := fd_mem (hI1 _ (fd_getD_mem (by omega : k < L1.length))) c hc _ (fun p hp => hI2 p (fd_ul_sub _ p hp)) hdv
        obtain ⟨m, m1, m2, m3⟩ := fd_ul_mem u _ hmem
        exact hno m m1 m2 m3.symm
      refine ih (k + 1) u md (by omega) hu ?_ ?_
      · rw [fd_gs_no hn]; exact hmd
      · rw [fd_gs_no hn]; exact hs
section
variable {post : Int32 → SY → Prop} {cn ot : Int32} {rg : Nat → Int32} {md wh td yr yq pt kp : Nat → Int64} {dg : Nat → Int32}
/-- both lists found, the products begun at 1 -/
theorem ys_com60 {L1 L2 : List (Nat → Int)} {R0 G : Nat → Int} {c : Int} {d : Nat} (hd : d < 4) (hc : c ≠ 0) (h1 : L1.length ≤ 5) (h2 : L2.length ≤ 5) (hB1 : fd_LB L1) (hB2 : fd_LB L2) (hkp : fd_AL kp L1) (hpt : fd_AL pt L2) (hR0 : R0 = fd_sm c (fd_prod L2)) (hG : (fd_gs L1 R0 L1.length).2 = G) (hGB : fd_B G 170000) (hG5 : fd_L G 5) (hmd : ∀ i, i < 11 → md i = 0)
    (H : ∀ md r rg', fd_K rg d G r rg' → post r (nI L2.length, nI L1.length, rg', md, wh, td, yr, yq, pt, kp, dg)) : wY_common_60 post (nI d) (nI L2.length) (nI L1.length) rg md wh td yr yq pt kp dg := by
  unfold wY_common_60
  refine nm_e ⟨L1.length + 1, ?_⟩
  refine ys_com73 hd hc h1 h2 hB1 hB2 hkp hpt hG hGB hG5 H L1.length 0 0 _ (by omega) (Nat.pow_pos (by decide)) (fun i hi => ?_) ?_
  · show vp_updL md 0 1 i = fd_l (fd_c 1 i)
    by_cases hi0 : i = 0
    · rw [hi0, fd_uLs]; decide
    · rw [fd_uLn hi0, hmd i hi]; simp only [fd_c]; rw [if_neg hi0]; exact fd_l_0.symm
  · show R0 = fd_sm c (fd_prod (fd_ul L2 0))
    rw [fd_ul_0]; exact hR0
theorem ys_common {d a b : Nat} (hd : d < 4) (ha : a < 4) (hb : b < 4) (hok : fd_ok rg) (H : ∀ G r rg', fd_GC (fd_reg rg a) (fd_reg rg b) G → fd_K rg d G r rg' → ∀ cn ot md wh td yr yq pt kp dg, post r (cn, ot, rg', md, wh, td, yr, yq, pt, kp, dg)) : wpY_common post (cn, ot, rg, md, wh, td, yr, yq, pt, kp, dg) (nI d) (nI a) (nI b) := by
  have hf := fd_reg_H0 hok ha
  have hg := fd_reg_H0 hok hb
  unfold wpY_common
  dsimp only
  refine ys_degree ha (fun hfz => ?_) (fun e1 he1 hD1 => ?_)
  · refine ys_degree hb (fun hgz => br_f (by decide) ?_) (fun e2 he2 hD2 => br_f (by decide) ?_)
    · -- both are 0
      unfold wY_common_25
      refine ys_split hb hok (fun L1 wh td yr yq pt hF1 hpt1 => ?_)
      have eL1 := hF1.2.2.2.1 hgz
      subst eL1
      dsimp only
      refine ys_keepParts (fun kp1 hkp1 => ?_)
      dsimp only
      refine br_f (by decide) ?_
      unfold wY_common_43
      refine ys_split ha hok (fun L2 wh td yr yq pt hF2 hpt2 => ?_)
      dsimp only
      refine ys_clearMade (fun md1 hmd => ?_)
      dsimp only
      refine br_f (by decide) (br_t (by decide) ⟨1, ?_⟩)
      refine br_t (nI_le (a := 0) (b := 0) (Nat.le_refl 0) (by decide)) (ys_keep hd (f := fd_z) (fun i hi => by rw [hmd i hi]; exact fd_l_0.symm) (fun i => by simp [fd_z]) (fun _ _ => rfl) (fun r rg' hK => H fd_z r rg' (Or.inl ⟨hfz, hgz, rfl⟩) hK _ _ _ _ _ _ _ _ _ _))
    · -- a is 0, b is not
      have hgz := fd_D_nz hD2
      unfold wY_common_25
      refine ys_split hb hok (fun L1 wh td yr yq pt hF1 hpt1 => ?_)
      dsimp only
      refine ys_keepParts (fun kp1 hkp1 => ?_)
      dsimp only
      refine br_t (nI_pos' (by omega)) ?_
      unfold wY_common_43
      refine ys_split hb hok (fun L2 wh td yr yq pt hF2 hpt2 => ?_)
      have eL := fd_Fac_u hF1 hF2
      subst eL
      dsimp only
      refine ys_clearMade (fun md1 hmd => ?_)
      dsimp only
      refine br_f (by decide) (br_f (nI_pos (by omega)) ?_)
      have hLB := fd_Fac_LB hg hF1
      have hG : (fd_gs L1 (fd_prod L1) L1.length).2 = fd_prod L1 := by rw [fd_gs_self hF1.1 _ (Nat.le_refl _), List.take_length]
      obtain ⟨c, hc, ec⟩ := hF1.2.2.2.2 hgz
      obtain ⟨s, hs1, hs2, _⟩ := fd_prod_D L1 hF1.1
      have hGC : fd_GC (fd_reg rg a) (fd_reg rg b) (fd_prod L1) := Or.inr (Or.inl ⟨hfz, hgz, c, s, hc, ec, fd_pr_prod hF1.1, hs1, hs2⟩)
      obtain ⟨b1, b2⟩ := fd_GC_b hf hg hGC
      exact ys_com60 (c := 1) hd (by decide) hF1.2.2.1 hF1.2.2.1 hLB hLB (fd_AL_copy hpt1 hF1.2.2.1 hkp1) hpt2 (fd_sm_1 _).symm hG b1 b2 hmd (fun md r rg' hK => H _ r rg' hGC hK _ _ _ _ _ _ _ _ _ _)
  · have hfz := fd_D_nz hD1
    refine ys_degree hb (fun hgz => br_t (nI_pos' (by omega)) ?_) (fun e2 he2 hD2 => br_t (nI_pos' (by omega)) ?_)
    · -- b is 0, a is not
      unfold wY_common_25
      refine ys_split ha hok (fun L1 wh td yr yq pt hF1 hpt1 => ?_)
      dsimp only
      refine ys_keepParts (fun kp1 hkp1 => ?_)
      dsimp only
      refine br_f (by decide) ?_
      unfold wY_common_43
      refine ys_split ha hok (fun L2 wh td yr yq pt hF2 hpt2 => ?_)
      have eL := fd_Fac_u hF1 hF2
      subst eL
      dsimp only
      refine ys_clearMade (fun md1 hmd => ?_)
      dsimp only
      refine br_t (nI_pos' (by omega)) ?_
      have hLB := fd_Fac_LB hf hF1
      have hG : (fd_gs L1 (fd_prod L1) L1.length).2 = fd_prod L1 := by rw [fd_gs_self hF1.1 _ (Nat.le_refl _), List.take_length]
      have hGC : fd_GC (fd_reg rg a) (fd_reg rg b) (fd_prod L1) := Or.inr (Or.inr (Or.inl ⟨hfz, hgz, L1, hF1, rfl⟩))
      obtain ⟨b1, b2⟩ := fd_GC_b hf hg hGC
      exact ys_com60 (c := 1) hd (by decide) hF1.2.2.1 hF1.2.2.1 hLB hLB (fd_AL_copy hpt1 hF1.2.2.1 hkp1) hpt2 (fd_sm_1 _).symm hG b1 b2 hmd (fun md r rg' hK => H _ r rg' hGC hK _ _ _ _ _ _ _ _ _ _)
    · have hgz := fd_D_nz hD2
      unfold wY_common_25
      refine ys_split ha hok (fun L1 wh td yr yq pt hF1 hpt1 => ?_)
      dsimp only
      refine ys_keepParts (fun kp1 hkp1 => ?_)
      dsimp only
      refine br_t (nI_pos' (by omega)) ?_
      unfold wY_common_43
      refine ys_split hb hok (fun L2 wh td yr yq pt hF2 hpt2 => ?_)
      dsimp only
      refine ys_clearMade (fun md1 hmd => ?_)
      dsimp only
      refine br_t (nI_pos' (by omega)) ?_
      obtain ⟨c, hc, ec⟩ := hF2.2.2.2.2 hgz
      have hGC : fd_GC (fd_reg rg a) (fd_reg rg b) (fd_gs L1 (fd_reg rg b) L1.length).2 := Or.inr (Or.inr (Or.inr ⟨hfz, hgz, L1, hF1, rfl⟩))
      obtain ⟨b1, b2⟩ := fd_GC_b hf hg hGC
      exact ys_com60 hd hc hF1.2.2.1 hF2.2.2.1 (fd_Fac_LB hf hF1) (fd_Fac_LB hg hF2) (fd_AL_copy hpt1 hF1.2.2.1 hkp1) hpt2 ec rfl b1 b2 hmd (fun md r rg' hK => H _ r rg' hGC hK _ _ _ _ _ _ _ _ _ _)
end
end
section
/-! apply -/
theorem fd_mul_Bn {f g : Nat → Int} {A C : Nat} (hg : fd_B g C) (n : Nat) : ∀ f : Nat → Int, fd_B f A → (fd_mul f g n).natAbs ≤ (n + 1) * (A * C) := by
  induction n with
  | zero =>
    intro f hf
    rw [fd_mul, Int.natAbs_mul]
    have := Nat.mul_le_mul (hf 0) (hg 0)
    omega
  | succ n ih =>
    intro f hf
    rw [fd_mul]
    have h1 : (f 0 * g (n + 1)).natAbs ≤ A * C := by rw [Int.natAbs_mul]; exact Nat.mul_le_mul (hf 0) (hg (n + 1))
    have h2 := ih (fun i => f (i + 1)) (fun i => hf (i + 1))
    have e : (n + 1 + 1) * (A * C) = (n + 1) * (A * C) + A * C := by rw [Nat.add_mul (n + 1) 1, Nat.one_mul]
    rw [e]
    omega
theorem fd_mul_H {f g : Nat → Int} (hf : fd_H0 f) (hg : fd_H0 g) : fd_B (fd_mul f g) 4611686018427387904 ∧ fd_L (fd_mul f g) 10 := by
  have hL := (fd_top 5 5 f g hf.2 hg.2).2
  refine ⟨fun i => ?_, hL⟩
  by_cases hi : i ≤ 10
  · have h1 := fd_mul_Bn (f := f) (A := 20) (C := 20) (fd_H0_B hg) i f (fd_H0_B hf)
    have h2 : (i + 1) * (20 * 20) ≤ 11 * (20 * 20) := Nat.mul_le_mul_right _ (by omega)
    omega
  · rw [hL i (by omega)]; simp
theorem fd_DI_u {f g w q w' q' : Nat → Int} {d : Nat} (hg : fd_D g d) (h : fd_DI f g w q d 0) (h' : fd_DI f g w' q' d 0) : w = w' := by
  have e : fd_sub w w' = fd_mul g (fd_sub q' q) := by
    rw [fd_mul_sub]; funext i
    have a1 := congrFun h.1 i
    have a2 := congrFun h'.1 i
    simp only [fd_sub, fd_add] at *
    omega
  have hF : fd_F (fd_sub q' q) := fd_F_sub (fd_L_F h'.2.2) (fd_L_F h.2.2)
  by_cases hz : fd_sub q' q = fd_z
  · rw [hz, fd_mul_z] at e
    exact fd_sub_z e
  · obtain ⟨b, hb⟩ := fd_D_ex hF hz
    have h5 := fd_D_mul hg hb
    rw [← e] at h5
    exact absurd (by simp only [fd_sub]; rw [h.2.1 (d + b) (by omega), h'.2.1 (d + b) (by omega)]; rfl) h5.1
theorem fd_quo_b {f g q : Nat → Int} (hf : fd_H0 f) (hg : fd_F g) (hz : g ≠ fd_z) (hq : fd_F q) (e : fd_mul g q = f) : fd_B q 4611686018427387904 ∧ fd_L q 5 := by
  by_cases hfz : f = fd_z
  · rw [hfz] at e
    have hqz : q = fd_z := (fd_dom hg hq e).resolve_left hz
    rw [hqz]; exact ⟨fun i => by simp [fd_z], fun _ _ => rfl⟩
  · obtain ⟨h1, h2⟩ := fd_dv_bL ⟨hf.1, hf.2, hfz⟩ hq ⟨g, hg, by rw [fd_mul_comm]; exact e⟩
    exact ⟨fd_B_mono h1 (by decide), h2⟩
def fd_AO (o : Nat) (he : Nat → Int32) (d : Nat) (f g : Nat → Int) (r : Int32) (he' : Nat → Int32) : Prop :=
  match o with
  | 0 => fd_K he d (fd_add f g) r he'
  | 1 => fd_K he d (fd_sub f g) r he'
  | 2 => fd_K he d (fd_mul f g) r he'
  | 3 => ∃ G, fd_GC f g G ∧ fd_K he d G r he'
  | 4 => ((g = fd_z ∨ ¬ fd_dv g f) ∧ r = -1002 ∧ he' = he) ∨ (g ≠ fd_z ∧ ∃ q, fd_F q ∧ fd_mul g q = f ∧ fd_K he d q r he')
  | _ => ((¬ ∃ e, fd_D g e ∧ (g e = 1 ∨ g e = -1)) ∧ r = -1002 ∧ he' = he) ∨ (∃ e w q, fd_D g e ∧ (g e = 1 ∨ g e = -1) ∧ fd_DI f g w q e 0 ∧ fd_K he d w r he')
theorem fd_AO_u {o : Nat} {he h1 h2 : Nat → Int32} {d : Nat} {f g : Nat → Int} {r1 r2 : Int32} (hg : fd_F g) (a : fd_AO o he d f g r1 h1) (b : fd_AO o he d f g r2 h2) : r2 = r1 ∧ h1 = h2 := by
  match o, a, b with
  | 0, a, b => exact fd_K_u a b
  | 1, a, b => exact fd_K_u a b
  | 2, a, b => exact fd_K_u a b
  | 3, ⟨G, x1, x2⟩, ⟨G', y1, y2⟩ =>
    rw [← fd_GC_u x1 y1] at y2
    exact fd_K_u x2 y2
  | 4, a, b =>
    rcases a with ⟨x1, x2, x3⟩ | ⟨x1, q, x2, x3, x4⟩
    · rcases b with ⟨y1, y2, y3⟩ | ⟨y1, q', y2, y3, y4⟩
      · exact ⟨by rw [x2, y2], by rw [x3, y3]⟩
      · rcases x1 with x1 | x1
        · exact absurd x1 y1
        · exact absurd ⟨q', y2, y3⟩ x1
    · rcases b with ⟨y1, y2, y3⟩ | ⟨y1, q', y2, y3, y4⟩
      · rcases y1 with y1 | y1
        · exact absurd y1 x1
        · exact absurd ⟨q, x2, x3⟩ y1
      · rw [← fd_cancel hg x1 x2 y2 (by rw [x3, y3])] at y4
        exact fd_K_u x4 y4
  | (n + 5), a, b =>
    rcases a with ⟨x1, x2, x3⟩ | ⟨e, w, q, x1, x2, x3, x4⟩
    · rcases b with ⟨y1, y2, y3⟩ | ⟨e', w', q', y1, y2, y3, y4⟩
      · exact ⟨by rw [x2, y2], by rw [x3, y3]⟩
      · exact absurd ⟨e', y1, y2⟩ x1
    · rcases b with ⟨y1, y2, y3⟩ | ⟨e', w', q', y1, y2, y3, y4⟩
      · exact absurd ⟨e, x1, x2⟩ y1
      · have ee := fd_D_u x1 y1
        subst ee
        rw [← fd_DI_u x1 x3 y3] at y4
        exact fd_K_u x4 y4
theorem fd_AO_ok {o : Nat} {he h1 : Nat → Int32} {d : Nat} {f g : Nat → Int} {r1 : Int32} (hok : fd_ok he) (a : fd_AO o he d f g r1 h1) : fd_ok h1 := by
  match o, a with
  | 0, a => exact fd_K_ok hok a
  | 1, a => exact fd_K_ok hok a
  | 2, a => exact fd_K_ok hok a
  | 3, ⟨G, x1, x2⟩ => exact fd_K_ok hok x2
  | 4, a =>
    rcases a with ⟨x1, x2, x3⟩ | ⟨x1, q, x2, x3, x4⟩
    · rw [x3]; exact hok
    · exact fd_K_ok hok x4
  | (n + 5), a =>
    rcases a with ⟨x1, x2, x3⟩ | ⟨e, w, q, x1, x2, x3, x4⟩
    · rw [x3]; exact hok
    · exact fd_K_ok hok x4
section
variable {fc : Int32} {he : Nat → Int32} {re op qu rs wk fo : Nat → Int64}
theorem xs_addTimes {post : SX → Prop} {f g : Nat → Int} {s : Int} {x : Int32} (hx : x.toInt64 = fd_l s) (hf : fd_R re f) (hg : fd_R op g) (H : ∀ re, fd_R re (fun i => f i + s * g i) → post (fc, he, re, op, qu, rs, wk, fo)) : wpX_addOperandTimes post (fc, he, re, op, qu, rs, wk, fo) x := by
  refine fd_fill (fun n y t => wX_addOperandTimes_2 post x fc n y he t op qu rs wk fo) 6 0 (fun i => fd_l (f i + s * g i)) re (fun n t h1 _ => ?_) (fun n i t hi h2 hW => ?_)
  · exact br_t (nI_le (Nat.le_refl 6) (by decide)) (H t (fun i hi => by have := h1 i hi; rwa [Nat.zero_add] at this))
  · refine br_f (nI_ge (b := 6) hi (by decide)) ⟨vp_in_nI hi (by decide), vp_in_nI hi (by decide), vp_in_nI hi (by decide), nm_r ?_ (nm_r (nI_1 i) hW)⟩
    rw [nI_clamp (by omega), h2 i (by omega), hf i hi, hg i hi, hx, fd_l_mul, fd_l_add, Nat.zero_add]
theorem xs_ap166 {post : Int32 → SX → Prop} {d : Nat} {f : Nat → Int} (hd : d < 4) (hR : fd_R re f) (hB : fd_B f 4611686018427387904) (hL : fd_L f 5) (H : ∀ r he', fd_K he d f r he' → post r (fc, he', re, op, qu, rs, wk, fo)) : wX_apply_166 post (nI d) fc he re op qu rs wk fo := by
  unfold wX_apply_166
  exact xs_keepResult hd hR hB hL H
theorem xs_makeQuotient {post : Int32 → SX → Prop} {f g : Nat → Int} (hf : fd_H0 f) (hg : fd_H0 g) (hre : fd_R re f) (hop : fd_R op g) (H0 : (g = fd_z ∨ ¬ fd_dv g f) → ∀ re qu, post 0 (fc, he, re, op, qu, rs, wk, fo)) (H1 : g ≠ fd_z → ∀ q re qu, fd_F q → fd_mul g q = f → fd_R re q → post 1 (fc, he, re, op, qu, rs, wk, fo)) : wpX_makeQuotient post (fc, he, re, op, qu, rs, wk, fo) := by
  unfold wpX_makeQuotient
  dsimp only
  refine xs_deg_operand hop (fd_H0_B hg) (by decide) hg.2 (fun hz => ?_) (fun d hd hD => ?_)
  · refine xs_divide_neg_result ?_
    dsimp only
    exact br_t rfl (H0 (Or.inl hz) re qu)
  · have hM : 20 * (1 + 20) ^ (min (6 - d) 6) ≤ 4611686018427387904 := by
      have h3 : (1 + 20) ^ (min (6 - d) 6) ≤ (1 + 20) ^ 6 := Nat.pow_le_pow_right (by decide) (by omega)
      exact Nat.le_trans (Nat.mul_le_mul_left _ h3) (by decide)
    refine xs_divide_result hD hd hop (fd_H0_B hg) (by decide) hre hf.2 (tt := 6) (fun j hj => hf.2 j (by omega)) (fd_H0_B hf) hM (fun T qu1 w q hT hq hDI hw _ => ?_) (fun hn _ T qu1 => ?_)
    · dsimp only
      refine br_f (by decide) (xs_deg_result hT hw (Nat.le_refl _) (fun j hj => hDI.2.1 j (by omega)) (fun hz => br_t (by decide) ?_) (fun d' hd' hD' => br_f (nI_pos (by omega)) (H0 (Or.inr (fd_DI_end hD hDI (fd_D_nz hD'))) T qu1)))
      refine xs_copy_quotient_result (fun re1 hre1 => ?_)
      dsimp only
      rw [hz] at hDI
      exact H1 (fd_D_nz hD) q re1 qu1 (fd_L_F hDI.2.2) (fd_DI_0 hDI) (fun i hi => by rw [hre1 i hi, hq i hi])
    · dsimp only
      exact br_t rfl (H0 (Or.inr hn) T qu1)
theorem xs_rest24 {post : Int32 → SX → Prop} {f g : Nat → Int} {e : Nat} (hf : fd_H0 f) (hg : fd_H0 g) (hre : fd_R re f) (hop : fd_R op g) (hD : fd_D g e) (hu : g e = 1 ∨ g e = -1) (H1 : ∀ w q re qu, fd_DI f g w q e 0 → fd_B w 4611686018427387904 → fd_R re w → post 1 (fc, he, re, op, qu, rs, wk, fo)) : wX_makeRest_24 post fc he re op qu rs wk fo := by
  unfold wX_makeRest_24
  refine xs_deg_operand hop (fd_H0_B hg) (by decide) hg.2 (fun hz => absurd hz (fd_D_nz hD)) (fun d hd hD' => ?_)
  have ee := fd_D_u hD' hD
  subst ee
  have hM : 20 * (1 + 20) ^ (min (6 - d) 6) ≤ 4611686018427387904 := by
    have h3 : (1 + 20) ^ (min (6 - d) 6) ≤ (1 + 20) ^ 6 := Nat.pow_le_pow_right (by decide) (by omega)
    exact Nat.le_trans (Nat.mul_le_mul_left _ h3) (by decide)
  refine xs_divide_result hD hd hop (fd_H0_B hg) (by decide) hre hf.2 (tt := 6) (fun j hj => hf.2 j (by omega)) (fd_H0_B hf) hM (fun T qu1 w q hT hq hDI hw _ => ?_) (fun _ hn T qu1 => ?_)
  · dsimp only
    exact ⟨rfl, H1 w q T qu1 hDI hw hT⟩
  · obtain ⟨z, hz⟩ := hn
    exfalso
    rcases hu with h | h
    · exact hz (by rw [h]; exact ⟨z, by simp⟩)
    · exact hz (by rw [h]; exact ⟨-z, by simp⟩)
theorem fd_l_m1 : fd_l (-1) = -1 := by decide
theorem xs_makeRest {post : Int32 → SX → Prop} {f g : Nat → Int} (hf : fd_H0 f) (hg : fd_H0 g) (hre : fd_R re f) (hop : fd_R op g) (H0 : (¬ ∃ e, fd_D g e ∧ (g e = 1 ∨ g e = -1)) → ∀ re qu, post 0 (fc, he, re, op, qu, rs, wk, fo)) (H1 : ∀ e w q re qu, fd_D g e → (g e = 1 ∨ g e = -1) → fd_DI f g w q e 0 → fd_B w 4611686018427387904 → fd_R re w → post 1 (fc, he, re, op, qu, rs, wk, fo)) : wpX_makeRest post (fc, he, re, op, qu, rs, wk, fo) := by
  unfold wpX_makeRest
  dsimp only
  refine xs_leadOf_operand hop (fd_H0_B hg) (by decide) hg.2 (fun hz => ?_) (fun e he' hD => ?_)
  · refine br_f (by decide) (br_f (by decide) (H0 (fun h => ?_) re qu))
    obtain ⟨e, hD, _⟩ := h
    exact fd_D_nz hD hz
  · have hs : fd_s (g e) := fd_s_of (fd_H0_B hg e) (by decide)
    have l1 : fd_l (g e) = 1 ↔ g e = 1 := by rw [← fd_l_1]; exact fd_l_eq hs (fd_s_lit (by decide))
    have l2 : fd_l (g e) = -1 ↔ g e = -1 := by rw [← fd_l_m1]; exact fd_l_eq hs (fd_s_lit (by decide))
    refine br_c (fun z => xs_rest24 hf hg hre hop hD (Or.inl (l1.mp z)) (fun w q re qu => H1 e w q re qu hD (Or.inl (l1.mp z)))) (fun z => br_c (fun y => xs_rest24 hf hg hre hop hD (Or.inr (l2.mp y)) (fun w q re qu => H1 e w q re qu hD (Or.inr (l2.mp y)))) (fun y => H0 (fun h => ?_) re qu))
    obtain ⟨e', hD', hu⟩ := h
    rw [fd_D_u hD' hD] at hu
    rcases hu with h | h
    · exact z (l1.mpr h)
    · exact y (l2.mpr h)
theorem fd_m1_le5 {d : Nat} (hd : d < 6) : (-1 : Int32) + nI d ≤ 5 ∧ nI d + (-1 : Int32) ≤ 5 := by
  have hk : ∀ d : Fin 6, (-1 : Int32) + nI d.val ≤ 5 ∧ nI d.val + (-1 : Int32) ≤ 5 := by decide
  exact hk ⟨d, hd⟩
theorem xs_apply {post : Int32 → SX → Prop} {o d a b : Nat} (ho : o < 6) (hd : d < 4) (ha : a < 4) (hb : b < 4) (hok : fd_ok he) (H : ∀ r he', fd_AO o he d (fd_reg he a) (fd_reg he b) r he' → ∀ fc re op qu rs wk fo, post r (fc, he', re, op, qu, rs, wk, fo)) : wpX_apply post (fc, he, re, op, qu, rs, wk, fo) (nI o) (nI d) (nI a) (nI b) := by
  have hf := fd_reg_H0 hok ha
  have hg := fd_reg_H0 hok hb
  unfold wpX_apply
  dsimp only
  refine br_f (nI_pos (by omega)) (br_f (nI_nlt (b := o) (a := 5) (by omega) (by omega)) (xs_reg hd (br_f (by decide) (xs_reg ha (br_f (by decide) (xs_reg hb (br_f (by decide) (xs_load_result ha (fun re1 hre1 => ?_)))))))))
  dsimp only
  refine xs_load_operand hb (fun op1 hop1 => ?_)
  dsimp only
  have hre := fd_reg_R hre1
  have hop := fd_reg_R hop1
  refine br_f (nI_pos (by omega)) ?_
  match o, ho, H with
  | 0, _, H =>
    refine br_f (by decide) (br_t (by decide) (xs_addTimes (s := 1) (by decide) hre hop (fun re2 hR => ?_)))
    dsimp only
    have e : (fun i => fd_reg he a i + 1 * fd_reg he b i) = fd_add (fd_reg he a) (fd_reg he b) := by funext i; simp [fd_add]
    rw [e] at hR
    exact xs_ap166 hd hR (fun i => by have := hf.1 i; have := hg.1 i; simp only [fd_add]; omega) (fun j hj => by simp only [fd_add]; rw [hf.2 j hj, hg.2 j hj]; rfl) (fun r he' hK => H r he' hK _ _ _ _ _ _ _)
  | 1, _, H =>
    refine br_f (by decide) (br_f (by decide) (br_t (by decide) (xs_addTimes (s := -1) (by decide) hre hop (fun re2 hR => ?_))))
    dsimp only
    have e : (fun i => fd_reg he a i + -1 * fd_reg he b i) = fd_sub (fd_reg he a) (fd_reg he b) := by funext i; simp only [fd_sub]; omega
    rw [e] at hR
    exact xs_ap166 hd hR (fun i => by have := hf.1 i; have := hg.1 i; simp only [fd_sub]; omega) (fun j hj => by simp only [fd_sub]; rw [hf.2 j hj, hg.2 j hj]; rfl) (fun r he' hK => H r he' hK _ _ _ _ _ _ _)
  | 2, _, H =>
    refine br_f (by decide) (br_f (by decide) (br_f (by decide) (br_t (by decide) ?_)))
    obtain ⟨hB, hL10⟩ := fd_mul_H hf hg
    have hgo : fd_L (fd_mul (fd_reg he a) (fd_reg he b)) 5 → wpX_multiplyByOperand (fun u => match u with | (f1, f2, f3, f4, f5, f6, f7, f8) => (wX_apply_166 post (nI d) f1 f2 f3 f4 f5 f6 f7 f8)) (fc, he, re1, op1, qu, rs, wk, fo) := fun h5 => by
      refine xs_mulOp hre hf.2 hop (fun re2 wk2 hR => ?_)
      dsimp only
      exact xs_ap166 hd hR hB h5 (fun r he' hK => H r he' hK _ _ _ _ _ _ _)
    refine xs_deg_result hre (fd_H0_B hf) (by decide) hf.2 (fun hz => ?_) (fun d1 hd1 hD1 => ?_)
    · have h5 : fd_L (fd_mul (fd_reg he a) (fd_reg he b)) 5 := by rw [hz, fd_z_mul]; exact fun _ _ => rfl
      exact xs_deg_operand hop (fd_H0_B hg) (by decide) hg.2 (fun _ => br_t (by decide) (hgo h5)) (fun d2 hd2 _ => br_t (fd_m1_le5 hd2).1 (hgo h5))
    · refine xs_deg_operand hop (fd_H0_B hg) (by decide) hg.2 (fun hz => br_t (fd_m1_le5 hd1).2 (hgo (by rw [hz, fd_mul_z]; exact fun _ _ => rfl))) (fun d2 hd2 hD2 => ?_)
      have hD := fd_D_mul hD1 hD2
      rw [nI_add]
      by_cases hs : d1 + d2 ≤ 5
      · exact br_t (nI_le (b := 5) hs (by decide)) (hgo (fd_L_mono hD.2 hs))
      · exact br_f (nI_ge (a := 5) (by omega) (by omega)) (H _ he (Or.inl ⟨fun h0 => hs (fd_D_le hD h0.2), rfl, rfl⟩) _ _ _ _ _ _ _)
  | 3, _, H =>
    refine br_f (by decide) (br_f (by decide) (br_f (by decide) (br_f (by decide) (br_t (by decide) (xs_common ha hb hok hre (fun G hGC fc re op qu rs wk fo hR => ?_))))))
    dsimp only
    obtain ⟨hB, h5⟩ := fd_GC_b hf hg hGC
    exact xs_ap166 hd hR (fd_B_mono hB (by decide)) h5 (fun r he' hK => H r he' ⟨G, hGC, hK⟩ _ _ _ _ _ _ _)
  | 4, _, H =>
    refine br_f (by decide) (br_f (by decide) (br_f (by decide) (br_f (by decide) (br_f (by decide) (br_t (by decide) (xs_makeQuotient hf hg hre hop (fun hn re qu => ?_) (fun hz q re qu hq e hR => ?_)))))))
    · dsimp only
      exact br_t rfl (H _ he (Or.inl ⟨hn, rfl, rfl⟩) _ _ _ _ _ _ _)
    · dsimp only
      obtain ⟨hB, h5⟩ := fd_quo_b hf (fd_L_F hg.2) hz hq e
      exact br_f (by decide) (xs_ap166 hd hR hB h5 (fun r he' hK => H r he' (Or.inr ⟨hz, q, hq, e, hK⟩) _ _ _ _ _ _ _))
  | 5, _, H =>
    refine br_t (by decide) (xs_makeRest hf hg hre hop (fun hn re qu => ?_) (fun e w q re qu hD hu hDI hB hR => ?_))
    · dsimp only
      exact br_t rfl (H _ he (Or.inl ⟨hn, rfl, rfl⟩) _ _ _ _ _ _ _)
    · dsimp only
      have he5 : e ≤ 5 := fd_D_le hD hg.2
      exact br_f (by decide) (xs_ap166 hd hR hB (fun j hj => hDI.2.1 j (by omega)) (fun r he' hK => H r he' (Or.inr ⟨e, w, q, hD, hu, hDI, hK⟩) _ _ _ _ _ _ _))
end
end
section
/-! apply in the reference -/
theorem fd_regX (he : Nat → Int32) (a : Nat) {i : Nat} (hi : i < 6) : he (a * 6 + i) = fd_i (fd_reg he a i) := by
  simp only [fd_reg]; rw [if_pos hi, fd_i_of]
section
variable {post : Int32 → SY → Prop} {cn ot : Int32} {rg : Nat → Int32} {md wh td yr yq pt kp : Nat → Int64} {dg : Nat → Int32}
theorem ys_ap157s {J : Int32 → (Nat → Int32) → (Nat → Int64) → (Nat → Int64) → (Nat → Int64) → (Nat → Int64) → (Nat → Int64) → (Nat → Int64) → (Nat → Int64) → (Nat → Int32) → Prop} {x1 x2 x3 x4 : Int32} {i : Nat} (h : ¬ x1 = 2) (H : J (nI (i + 1)) rg md wh td yr yq pt kp dg) : ∃ n, wY_apply_157 post J x1 x2 x3 x4 (nI i) cn ot n 0 rg md wh td yr yq pt kp dg := by
  refine fd_upl (fun n x => wY_apply_157 post J x1 x2 x3 x4 (nI i) cn ot n x rg md wh td yr yq pt kp dg) (fun _ => True) 6 (fun _ n => br_t (nI_le (Nat.le_refl 6) (by decide)) (nm_r (nI_1 i) H)) (fun n j hj _ hW => ?_)
  exact br_f (nI_ge (b := 6) hj (by decide)) (br_f h (nm_r (nI_1 j) (hW trivial)))
theorem ys_ap157m {J : Int32 → (Nat → Int32) → (Nat → Int64) → (Nat → Int64) → (Nat → Int64) → (Nat → Int64) → (Nat → Int64) → (Nat → Int64) → (Nat → Int64) → (Nat → Int32) → Prop} {x2 : Int32} {i a b : Nat} (hi : i < 6) (ha : a < 4) (hb : b < 4) (hok : fd_ok rg) (H : ∀ t, (∀ j, j < 6 → t (i + j) = md (i + j) + fd_l (fd_reg rg a i * fd_reg rg b j)) → (∀ j, (j < i ∨ i + 6 ≤ j) → t j = md j) → J (nI (i + 1)) rg t wh td yr yq pt kp dg) : ∃ n, wY_apply_157 post J 2 x2 (nI a) (nI b) (nI i) cn ot n 0 rg md wh td yr yq pt kp dg := by
  refine fd_fill (fun n x t => wY_apply_157 post J 2 x2 (nI a) (nI b) (nI i) cn ot n x rg t wh td yr yq pt kp dg) 6 i (fun j => md (i + j) + fd_l (fd_reg rg a i * fd_reg rg b j)) md (fun n t h1 h2 => ?_) (fun n j t hj h2 hW => ?_)
  · exact br_t (nI_le (Nat.le_refl 6) (by decide)) (nm_r (nI_1 i) (H t h1 h2))
  · have e : nI i + nI j = nI (i + j) := nI_add i j
    refine br_f (nI_ge (b := 6) hj (by decide)) (br_t rfl ⟨by rw [e]; exact vp_in_nI (by omega) (by decide), by rw [fd_ixZ]; exact vp_in_nI (by omega) (by decide), by rw [fd_ixZ]; exact vp_in_nI (by omega) (by decide), by rw [e]; exact vp_in_nI (by omega) (by decide), nm_r ?_ (nm_r (nI_1 j) hW)⟩)
    have hk : fd_k (fd_reg rg a i * fd_reg rg b j) := by
      have h1 := (fd_reg_H0 hok ha).1 i
      have h3 := (fd_reg_H0 hok hb).1 j
      refine fd_k_lit ?_
      rw [Int.natAbs_mul]
      have : (fd_reg rg a i).natAbs * (fd_reg rg b j).natAbs ≤ 20 * 20 := Nat.mul_le_mul (by omega) (by omega)
      omega
    rw [e, fd_ixZ, fd_ixZ, nI_clamp (by omega), nI_clamp (by omega), nI_clamp (by omega), h2 (i + j) (by omega), fd_regX rg a hi, fd_regX rg b hj, fd_i_mul, fd_i_l hk]
theorem ys_ap87m {a b d : Nat} (hd : d < 4) (ha : a < 4) (hb : b < 4) (hok : fd_ok rg) (H : ∀ md r rg', fd_K rg d (fd_mul (fd_reg rg a) (fd_reg rg b)) r rg' → post r (cn, ot, rg', md, wh, td, yr, yq, pt, kp, dg)) : ∀ (n i : Nat) (md : Nat → Int64), i + n = 6 → fd_R11 md (fd_mul (fd_tr i (fd_reg rg a)) (fd_reg rg b)) → wY_apply_87 post 2 (nI d) (nI a) (nI b) cn ot (n + 1) (nI i) rg md wh td yr yq pt kp dg := by
  have hf := fd_reg_H0 hok ha
  have hg := fd_reg_H0 hok hb
  intro n
  induction n with
  | zero =>
    intro i md hi hR
    have e : i = 6 := by omega
    subst e
    rw [fd_tr_all hf.2 (by decide)] at hR
    obtain ⟨hB, hL10⟩ := fd_mul_H hf hg
    exact br_t (nI_le (Nat.le_refl 6) (by decide)) (ys_keep hd hR hB hL10 (fun r rg' hK => H md r rg' hK))
  | succ n ih =>
    intro i md hi hR
    refine br_f (nI_ge (b := 6) (by omega) (by decide)) (br_t rfl (ys_ap157m (by omega) ha hb hok (fun t h1 h2 => ih (i + 1) t (by omega) (fun m hm => ?_))))
    rw [fd_tr_step]
    by_cases hmi : i ≤ m
    · rw [if_pos hmi]
      by_cases hm6 : m < i + 6
      · have h3 := h1 (m - i) (by omega)
        have e3 : i + (m - i) = m := by omega
        rw [e3, hR m hm, fd_l_add] at h3
        exact h3
      · rw [h2 m (by omega), hR m hm, hg.2 (m - i) (by omega)]; congr 1; simp
    · rw [if_neg hmi, h2 m (by omega), hR m hm]; congr 1; omega
theorem ys_ap87a {x1 : Int32} {F : Nat → Int} {a b d : Nat} (hd : d < 4) (ha : a < 4) (hb : b < 4) (h2 : ¬ x1 = 2) (hFB : fd_B F 4611686018427387904) (hF5 : fd_L F 5) (h0 : ∀ i, i < 6 → (x1 = 0 → (rg (a * 6 + i) + rg (b * 6 + i)).toInt64 = fd_l (F i)) ∧ (¬ x1 = 0 → (rg (a * 6 + i) + -rg (b * 6 + i)).toInt64 = fd_l (F i))) (hmd : ∀ i, i < 11 → md i = 0) (H : ∀ md r rg', fd_K rg d F r rg' → post r (cn, ot, rg', md, wh, td, yr, yq, pt, kp, dg)) : ∃ n, wY_apply_87 post x1 (nI d) (nI a) (nI b) cn ot n 0 rg md wh td yr yq pt kp dg := by
  refine fd_fill (fun n x t => wY_apply_87 post x1 (nI d) (nI a) (nI b) cn ot n x rg t wh td yr yq pt kp dg) 6 0 (fun i => fd_l (F i)) md (fun n t h1 h3 => ?_) (fun n i t hi _ hW => ?_)
  · refine br_t (nI_le (Nat.le_refl 6) (by decide)) (ys_keep hd (f := F) (fun i hi => ?_) hFB (fd_L_mono hF5 (by decide)) (fun r rg' hK => H t r rg' hK))
    by_cases h6 : i < 6
    · have := h1 i h6; rwa [Nat.zero_add] at this
    · rw [h3 i (by omega), hmd i hi, hF5 i (by omega)]; exact fd_l_0.symm
  · have ia : vp_in (6 * nI a + nI i) 24 := by rw [fd_ixZ]; exact vp_in_nI (by omega) (by decide)
    have ib : vp_in (6 * nI b + nI i) 24 := by rw [fd_ixZ]; exact vp_in_nI (by omega) (by decide)
    refine br_f (nI_ge (b := 6) hi (by decide)) (br_f h2 ⟨ia, br_c (fun z => ⟨ib, vp_in_nI (by omega) (by decide), nm_r ?_ (ys_ap157s h2 hW)⟩) (fun z => ⟨ib, vp_in_nI (by omega) (by decide), nm_r ?_ (ys_ap157s h2 hW)⟩)⟩)
    · rw [fd_ixZ, fd_ixZ, nI_clamp (by omega), nI_clamp (by omega), nI_clamp (by omega), (h0 i hi).1 z, Nat.zero_add]
    · rw [fd_ixZ, fd_ixZ, nI_clamp (by omega), nI_clamp (by omega), nI_clamp (by omega), (h0 i hi).2 z, Nat.zero_add]
theorem fd_M21 (d e : Nat) (he : e ≤ 5) : 20 * (1 + 20) ^ (e + 1 - d) ≤ 4611686018427387904 := by
  have h3 : (1 + 20) ^ (e + 1 - d) ≤ (1 + 20) ^ 6 := Nat.pow_le_pow_right (by decide) (by omega)
  exact Nat.le_trans (Nat.mul_le_mul_left _ h3) (by decide)
theorem ys_quotientOf {a b d : Nat} (hd : d < 4) (ha : a < 4) (hb : b < 4) (hok : fd_ok rg) (H0 : (fd_reg rg b = fd_z ∨ ¬ fd_dv (fd_reg rg b) (fd_reg rg a)) → ∀ wh td yr yq, post (-1002) (cn, ot, rg, md, wh, td, yr, yq, pt, kp, dg)) (H1 : fd_reg rg b ≠ fd_z → ∀ q, fd_F q → fd_mul (fd_reg rg b) q = fd_reg rg a → ∀ r rg', fd_K rg d q r rg' → ∀ md wh td yr yq, post r (cn, ot, rg', md, wh, td, yr, yq, pt, kp, dg)) : wpY_quotientOf post (cn, ot, rg, md, wh, td, yr, yq, pt, kp, dg) (nI d) (nI a) (nI b) := by
  have hf := fd_reg_H0 hok ha
  have hg := fd_reg_H0 hok hb
  unfold wpY_quotientOf
  dsimp only
  refine ys_degree hb (fun hz => br_f (by decide) (H0 (Or.inl hz) wh td yr yq)) (fun e he hD => br_t (nI_pos' (by omega)) ?_)
  refine ys_take ha (fun wh1 hwh1 => ?_)
  dsimp only
  refine fd_fill (fun n x t => wY_quotientOf_24 post (nI d) (nI b) (nI e) cn ot n x rg md wh1 t yr yq pt kp dg) 6 0 (fun i => (rg (b * 6 + i)).toInt64) td (fun n t h1 _ => ?_) (fun n i t hi _ hW => ?_)
  · have htd : fd_R t (fd_reg rg b) := fd_reg_R (fun i hi => by have := h1 i hi; rwa [Nat.zero_add] at this)
    refine br_t (nI_le (Nat.le_refl 6) (by decide)) (ys_divides hD he htd (fd_H0_B hg) (by decide) (fd_reg_R hwh1) hf.2 (fd_H0_B hf) (by decide) (fun e' he' => fd_M21 e e' (fd_D_le he' hf.2)) (fun yr1 yq1 q hq hqL eq' => ?_) (fun hn yr1 yq1 _ => ?_))
    · dsimp only
      refine br_f (by decide) (ys_clearMade (fun md1 hmd => ?_))
      dsimp only
      obtain ⟨hB, h5⟩ := fd_quo_b hf (fd_L_F hg.2) (fd_D_nz hD) (fd_L_F hqL) eq'
      refine fd_fill (fun n x z => wY_quotientOf_77 post (nI d) cn ot n x rg z wh1 t yr1 yq1 pt kp dg) 6 0 (fun i => fd_l (q i)) md1 (fun n z k1 k2 => ?_) (fun n i z hi _ hW => ?_)
      · refine br_t (nI_le (Nat.le_refl 6) (by decide)) (ys_keep hd (f := q) (fun i hi => ?_) hB (fd_L_mono h5 (by decide)) (fun r rg' hK => H1 (fd_D_nz hD) q (fd_L_F hqL) eq' r rg' hK _ _ _ _ _))
        by_cases h6 : i < 6
        · have := k1 i h6; rwa [Nat.zero_add] at this
        · rw [k2 i (by omega), hmd i hi, h5 i (by omega)]; exact fd_l_0.symm
      · exact br_f (nI_ge (b := 6) hi (by decide)) ⟨vp_in_nI hi (by decide), vp_in_nI (by omega) (by decide), nm_r (by rw [nI_clamp (by omega), hq i hi, Nat.zero_add]) (nm_r (nI_1 i) hW)⟩
    · dsimp only
      exact br_t rfl (H0 (Or.inr hn) wh1 t yr1 yq1)
  · exact br_f (nI_ge (b := 6) hi (by decide)) ⟨by rw [fd_ixZ]; exact vp_in_nI (by omega) (by decide), vp_in_nI hi (by decide), nm_r (by rw [fd_ixZ, nI_clamp (by omega), nI_clamp (by omega), Nat.zero_add]) (nm_r (nI_1 i) hW)⟩
theorem ys_rest104 {d : Nat} {w : Nat → Int} {x5 : Int32} (hd : d < 4) (hmd : ∀ i, i < 11 → md i = 0) (hw5 : fd_L w 5) (hwB : fd_B w 4611686018427387904) (hr : (x5 = 0 ∧ fd_R yr w) ∨ (¬ x5 = 0 ∧ w = fd_z)) (H : ∀ md r rg', fd_K rg d w r rg' → post r (cn, ot, rg', md, wh, td, yr, yq, pt, kp, dg)) : ∃ n, wY_restOf_104 post (nI d) x5 cn ot n 0 rg md wh td yr yq pt kp dg := by
  refine fd_fill (fun n x z => wY_restOf_104 post (nI d) x5 cn ot n x rg z wh td yr yq pt kp dg) 6 0 (fun i => fd_l (w i)) md (fun n z k1 k2 => ?_) (fun n i z hi _ hW => ?_)
  · refine br_t (nI_le (Nat.le_refl 6) (by decide)) (ys_keep hd (f := w) (fun i hi => ?_) hwB (fd_L_mono hw5 (by decide)) (fun r rg' hK => H z r rg' hK))
    by_cases h6 : i < 6
    · have := k1 i h6; rwa [Nat.zero_add] at this
    · rw [k2 i (by omega), hmd i hi, hw5 i (by omega)]; exact fd_l_0.symm
  · refine br_f (nI_ge (b := 6) hi (by decide)) ?_
    rcases hr with ⟨h1, h2⟩ | ⟨h1, h2⟩
    · exact br_t h1 ⟨vp_in_nI hi (by decide), vp_in_nI (by omega) (by decide), nm_r (by rw [nI_clamp (by omega), h2 i hi, Nat.zero_add]) (nm_r (nI_1 i) hW)⟩
    · exact br_f h1 ⟨vp_in_nI (by omega) (by decide), nm_r (by rw [nI_clamp (by omega), h2, Nat.zero_add]; rfl) (nm_r (nI_1 i) hW)⟩
theorem ys_rest48 {a b d e : Nat} (hd : d < 4) (ha : a < 4) (hb : b < 4) (hok : fd_ok rg) (he : e < 6) (hD : fd_D (fd_reg rg b) e) (hu : fd_reg rg b e = 1 ∨ fd_reg rg b e = -1) (H1 : ∀ w q, fd_DI (fd_reg rg a) (fd_reg rg b) w q e 0 → ∀ r rg', fd_K rg d w r rg' → ∀ md wh td yr yq, post r (cn, ot, rg', md, wh, td, yr, yq, pt, kp, dg)) : wY_restOf_48 post (nI d) (nI a) (nI b) (nI e) cn ot rg md wh td yr yq pt kp dg := by
  have hf := fd_reg_H0 hok ha
  have hg := fd_reg_H0 hok hb
  unfold wY_restOf_48
  refine ys_take ha (fun wh1 hwh1 => ?_)
  dsimp only
  refine fd_fill (fun n x t => wY_restOf_56 post (nI d) (nI b) (nI e) cn ot n x rg md wh1 t yr yq pt kp dg) 6 0 (fun i => (rg (b * 6 + i)).toInt64) td (fun n t h1 _ => ?_) (fun n i t hi _ hW => ?_)
  · have htd : fd_R t (fd_reg rg b) := fd_reg_R (fun i hi => by have := h1 i hi; rwa [Nat.zero_add] at this)
    refine br_t (nI_le (Nat.le_refl 6) (by decide)) (ys_divides hD he htd (fd_H0_B hg) (by decide) (fd_reg_R hwh1) hf.2 (fd_H0_B hf) (by decide) (fun e' he' => fd_M21 e e' (fd_D_le he' hf.2)) (fun yr1 yq1 q hq hqL eq' => ?_) (fun hn yr1 yq1 hor => ?_))
    · dsimp only
      refine ys_clearMade (fun md1 hmd => ?_)
      dsimp only
      have hDI : fd_DI (fd_reg rg a) (fd_reg rg b) fd_z q e 0 := ⟨by rw [eq']; funext i; simp [fd_add, fd_z], fun _ _ => rfl, hqL⟩
      exact ys_rest104 hd hmd (fun _ _ => rfl) (fun i => by simp [fd_z]) (Or.inr ⟨by decide, rfl⟩) (fun md r rg' hK => H1 fd_z q hDI r rg' hK _ _ _ _ _)
    · dsimp only
      refine ys_clearMade (fun md1 hmd => ?_)
      dsimp only
      rcases hor with ⟨z, hz⟩ | ⟨w, q, hw, hDI, hB⟩
      · exfalso
        rcases hu with h | h
        · exact hz (by rw [h]; exact ⟨z, by simp⟩)
        · exact hz (by rw [h]; exact ⟨-z, by simp⟩)
      · exact ys_rest104 hd hmd (fun j hj => hDI.2.1 j (by omega)) hB (Or.inl ⟨rfl, hw⟩) (fun md r rg' hK => H1 w q hDI r rg' hK _ _ _ _ _)
  · exact br_f (nI_ge (b := 6) hi (by decide)) ⟨by rw [fd_ixZ]; exact vp_in_nI (by omega) (by decide), vp_in_nI hi (by decide), nm_r (by rw [fd_ixZ, nI_clamp (by omega), nI_clamp (by omega), Nat.zero_add]) (nm_r (nI_1 i) hW)⟩
theorem fd_i_m1 : fd_i (-1) = -1 := by decide
theorem fd_i_p1 : fd_i 1 = 1 := by decide
theorem ys_restOf {a b d : Nat} (hd : d < 4) (ha : a < 4) (hb : b < 4) (hok : fd_ok rg) (H0 : (¬ ∃ e, fd_D (fd_reg rg b) e ∧ (fd_reg rg b e = 1 ∨ fd_reg rg b e = -1)) → post (-1002) (cn, ot, rg, md, wh, td, yr, yq, pt, kp, dg)) (H1 : ∀ e w q, fd_D (fd_reg rg b) e → (fd_reg rg b e = 1 ∨ fd_reg rg b e = -1) → fd_DI (fd_reg rg a) (fd_reg rg b) w q e 0 → ∀ r rg', fd_K rg d w r rg' → ∀ md wh td yr yq, post r (cn, ot, rg', md, wh, td, yr, yq, pt, kp, dg)) : wpY_restOf post (cn, ot, rg, md, wh, td, yr, yq, pt, kp, dg) (nI d) (nI a) (nI b) := by
  have hg := fd_reg_H0 hok hb
  unfold wpY_restOf
  dsimp only
  refine ys_degree hb (fun hz => br_t (by decide) (H0 (fun h => ?_))) (fun e he hD => br_f (nI_pos (by omega)) ?_)
  · obtain ⟨e, hD, _⟩ := h
    exact fd_D_nz hD hz
  · have hk : fd_k (fd_reg rg b e) := fd_k_lit (by have := hg.1 e; omega)
    have l1 : fd_i (fd_reg rg b e) = 1 ↔ fd_reg rg b e = 1 := by rw [← fd_i_p1]; exact fd_i_eq hk (fd_k_lit (by decide))
    have l2 : fd_i (fd_reg rg b e) = -1 ↔ fd_reg rg b e = -1 := by rw [← fd_i_m1]; exact fd_i_eq hk (fd_k_lit (by decide))
    have hin : vp_in (6 * nI b + nI e) 24 := by rw [fd_ixZ]; exact vp_in_nI (by omega) (by decide)
    refine ⟨hin, ?_⟩
    have er : rg (6 * nI b + nI e).toNatClampNeg = fd_i (fd_reg rg b e) := by rw [fd_ixZ, nI_clamp (by omega), fd_regX rg b he]
    rw [er]
    refine br_c (fun z => ys_rest48 hd ha hb hok he hD (Or.inl (l1.mp z)) (fun w q hDI => H1 e w q hD (Or.inl (l1.mp z)) hDI)) (fun z => ⟨hin, br_c (fun y => ys_rest48 hd ha hb hok he hD (Or.inr (l2.mp y)) (fun w q hDI => H1 e w q hD (Or.inr (l2.mp y)) hDI)) (fun y => H0 (fun h => ?_))⟩)
    obtain ⟨e', hD', hu⟩ := h
    rw [fd_D_u hD' hD] at hu
    rcases hu with h | h
    · exact z (l1.mpr h)
    · exact y (l2.mpr h)
theorem ys_apply {o d a b : Nat} (ho : o < 6) (hd : d < 4) (ha : a < 4) (hb : b < 4) (hok : fd_ok rg) (H : ∀ r rg', fd_AO o rg d (fd_reg rg a) (fd_reg rg b) r rg' → ∀ cn ot md wh td yr yq pt kp dg, post r (cn, ot, rg', md, wh, td, yr, yq, pt, kp, dg)) : wpY_apply post (cn, ot, rg, md, wh, td, yr, yq, pt, kp, dg) (nI o) (nI d) (nI a) (nI b) := by
  have hf := fd_reg_H0 hok ha
  have hg := fd_reg_H0 hok hb
  unfold wpY_apply
  dsimp only
  refine br_f (nI_pos (by omega)) (br_f (nI_nlt (b := o) (a := 5) (by omega) (by omega)) (ys_isRegister hd (br_f (by decide) (ys_isRegister ha (br_f (by decide) (ys_isRegister hb (br_f (by decide) ?_)))))))
  match o, ho, H with
  | 0, _, H =>
    refine br_f (by decide) (br_f (by decide) (br_f (by decide) (ys_clearMade (fun md1 hmd => ?_))))
    dsimp only
    refine ys_ap87a (F := fd_add (fd_reg rg a) (fd_reg rg b)) hd ha hb (by decide) (fun i => by have := hf.1 i; have := hg.1 i; simp only [fd_add]; omega) (fun j hj => by simp only [fd_add]; rw [hf.2 j hj, hg.2 j hj]; rfl) (fun i hi => ⟨fun _ => ?_, fun h => absurd rfl h⟩) hmd (fun md r rg' hK => H r rg' hK _ _ _ _ _ _ _ _ _ _)
    have h1 := hf.1 i
    have h2 := hg.1 i
    rw [fd_regX rg a hi, fd_regX rg b hi, fd_i_add, fd_i_l (fd_k_lit (by omega))]; rfl
  | 1, _, H =>
    refine br_f (by decide) (br_f (by decide) (br_f (by decide) (ys_clearMade (fun md1 hmd => ?_))))
    dsimp only
    refine ys_ap87a (F := fd_sub (fd_reg rg a) (fd_reg rg b)) hd ha hb (by decide) (fun i => by have := hf.1 i; have := hg.1 i; simp only [fd_sub]; omega) (fun j hj => by simp only [fd_sub]; rw [hf.2 j hj, hg.2 j hj]; rfl) (fun i hi => ⟨fun h => absurd h (by decide), fun _ => ?_⟩) hmd (fun md r rg' hK => H r rg' hK _ _ _ _ _ _ _ _ _ _)
    have h1 := hf.1 i
    have h2 := hg.1 i
    rw [fd_regX rg a hi, fd_regX rg b hi, fd_i_neg, fd_i_add, fd_i_l (fd_k_lit (by omega))]; rfl
  | 2, _, H =>
    refine br_f (by decide) (br_f (by decide) (br_f (by decide) (ys_clearMade (fun md1 hmd => ?_))))
    dsimp only
    exact ⟨7, ys_ap87m hd ha hb hok (fun md r rg' hK => H r rg' hK _ _ _ _ _ _ _ _ _ _) 6 0 md1 (by omega) (fun i hi => by rw [hmd i hi, fd_tr_0]; exact fd_l_0.symm)⟩
  | 3, _, H => exact br_t (by decide) (ys_common hd ha hb hok (fun G r rg' hGC hK cn ot md wh td yr yq pt kp dg => H r rg' ⟨G, hGC, hK⟩ _ _ _ _ _ _ _ _ _ _))
  | 4, _, H => exact br_f (by decide) (br_t (by decide) (ys_quotientOf hd ha hb hok (fun hn wh td yr yq => H _ rg (Or.inl ⟨hn, rfl, rfl⟩) _ _ _ _ _ _ _ _ _ _) (fun hz q hq e r rg' hK md wh td yr yq => H r rg' (Or.inr ⟨hz, q, hq, e, hK⟩) _ _ _ _ _ _ _ _ _ _)))
  | 5, _, H => exact br_f (by decide) (br_f (by decide) (br_t (by decide) (ys_restOf hd ha hb hok (fun hn => H _ rg (Or.inl ⟨hn, rfl, rfl⟩) _ _ _ _ _ _ _ _ _ _) (fun e w q hD hu hDI r rg' hK md wh td yr yq => H r rg' (Or.inr ⟨e, w, q, hD, hu, hDI, hK⟩) _ _ _ _ _ _ _ _ _ _))))
end
theorem i_vc_apply {k : Nat} {u : SX} {v : SY} (I : i_Rel k u v) (hk : k + 5 ≤ 2560) (v1 : Int32) (v2 : Int32) (v3 : Int32) (v4 : Int32) : wpX_apply (fun r u' => wpY_apply (fun r' v' => r' = r ∧ i_Rel (k + 5) u' v') v v1 v2 v3 v4) u v1 v2 v3 v4 := by
  obtain ⟨fc, he, re, op, qu, rs, wk, fo⟩ := u
  obtain ⟨cn, ot, rg, md, wh, td, yr, yq, pt, kp, dg⟩ := v
  obtain ⟨e, hok⟩ := I
  dsimp only at e hok
  subst e
  rcases fd_r6 v1 with ⟨o, ho, e⟩ | h0
  · subst e
    have g0 : ¬ nI o < 0 := nI_pos (by omega)
    have g5 : ¬ 5 < nI o := nI_nlt (b := o) (a := 5) (by omega) (by omega)
    rcases fd_r4 v2 with ⟨d, hd, e⟩ | h1
    · subst e
      rcases fd_r4 v3 with ⟨a, ha, e⟩ | h2
      · subst e
        rcases fd_r4 v4 with ⟨b, hb, e⟩ | h3
        · subst e
          refine xs_apply ho hd ha hb hok (fun r1 he1 hA fc re op qu rs wk fo => ys_apply ho hd ha hb hok (fun r2 he2 hA2 cn ot md wh td yr yq pt kp dg => ?_))
          obtain ⟨e1, e2⟩ := fd_AO_u (fd_L_F (fd_reg_H0 hok hb).2) hA hA2
          exact ⟨e1, e2, fd_AO_ok hok hA⟩
        · unfold wpX_apply wpY_apply
          dsimp only
          exact br_f g0 (br_f g5 (xs_reg hd (br_f (by decide) (xs_reg ha (br_f (by decide) (xs_nreg h3 (br_t rfl (br_f g0 (br_f g5 (ys_isRegister hd (br_f (by decide) (ys_isRegister ha (br_f (by decide) (ys_nreg h3 (br_t rfl ⟨rfl, rfl, hok⟩)))))))))))))))
      · unfold wpX_apply wpY_apply
        dsimp only
        exact br_f g0 (br_f g5 (xs_reg hd (br_f (by decide) (xs_nreg h2 (br_t rfl (br_f g0 (br_f g5 (ys_isRegister hd (br_f (by decide) (ys_nreg h2 (br_t rfl ⟨rfl, rfl, hok⟩)))))))))))
    · unfold wpX_apply wpY_apply
      dsimp only
      exact br_f g0 (br_f g5 (xs_nreg h1 (br_t rfl (br_f g0 (br_f g5 (ys_nreg h1 (br_t rfl ⟨rfl, rfl, hok⟩)))))))
  · unfold wpX_apply wpY_apply
    dsimp only
    exact br_c (fun z => br_t z ⟨rfl, rfl, hok⟩) (fun z => br_t ((fd_56x _).mpr (h0.resolve_left z)) (br_f z (br_t ((fd_56x _).mpr (h0.resolve_left z)) ⟨rfl, rfl, hok⟩)))
end
section
/-! polynomials modulo p -/
def fd_rd (p : Int) (f : Nat → Int) : Prop := ∀ i, 0 ≤ f i ∧ f i < p
def fd_cg (p : Int) (f g : Nat → Int) : Prop := ∀ i, p ∣ f i - g i
def fd_MQ (p : Int) (u f q : Nat → Int) : Prop := fd_rd p q ∧ fd_L q 5 ∧ fd_cg p (fd_mul u q) f
def fd_mdv (p : Int) (u f : Nat → Int) : Prop := ∃ q, fd_MQ p u f q
def fd_red (p : Int) (f : Nat → Int) : Nat → Int := fun i => f i % p
theorem fd_red_rd {p : Int} (hp : 0 < p) (f : Nat → Int) : fd_rd p (fd_red p f) := fun i => ⟨Int.emod_nonneg _ (by omega), Int.emod_lt_of_pos _ hp⟩
theorem fd_red_cg (p : Int) (f : Nat → Int) : fd_cg p (fd_red p f) f := fun i => Int.dvd_sub_self_of_emod_eq rfl
theorem fd_red_L {p : Int} {f : Nat → Int} {n : Nat} (h : fd_L f n) : fd_L (fd_red p f) n := fun j hj => by simp only [fd_red]; rw [h j hj]; simp
theorem fd_cg_sym {p : Int} {f g : Nat → Int} (h : fd_cg p f g) : fd_cg p g f := fun i => by
  have := Int.dvd_neg.mpr (h i)
  have e : -(f i - g i) = g i - f i := by omega
  rw [e] at this; exact this
theorem fd_cg_tr {p : Int} {f g h : Nat → Int} (h1 : fd_cg p f g) (h2 : fd_cg p g h) : fd_cg p f h := fun i => by
  have := Int.dvd_add (h1 i) (h2 i)
  have e : f i - g i + (g i - h i) = f i - h i := by omega
  rw [e] at this; exact this
theorem fd_cg_mul {p : Int} (u : Nat → Int) {f g : Nat → Int} (h : fd_cg p f g) : fd_cg p (fd_mul u f) (fd_mul u g) := fun i => by
  have h1 := fd_dvd_mul_le p (fd_sub f g) i u (fun j _ => h j)
  rw [fd_mul_sub] at h1
  exact h1
theorem fd_rd_eq {p : Int} {f g : Nat → Int} (hf : fd_rd p f) (hg : fd_rd p g) (h : fd_cg p f g) : f = g := by
  funext i
  have h1 := hf i
  have h2 := hg i
  obtain ⟨c, hc⟩ := h i
  have hc0 : c = 0 := by
    rcases Int.lt_trichotomy c 0 with hn | hn | hn
    · exfalso
      have : p * c ≤ p * (-1) := Int.mul_le_mul_of_nonneg_left (by omega) (by omega)
      omega
    · exact hn
    · exfalso
      have : p * 1 ≤ p * c := Int.mul_le_mul_of_nonneg_left (by omega) (by omega)
      omega
  rw [hc0] at hc
  omega
/-- a monic u: what it divides above its degree modulo p vanishes modulo p -/
theorem fd_monic {p : Int} {u h : Nat → Int} {d : Nat} (hu : fd_L u d) (hu1 : u d = 1) (hh : fd_F h) (H : ∀ j, d ≤ j → p ∣ fd_mul u h j) (j : Nat) : p ∣ h j := by
  obtain ⟨n, hn⟩ := hh
  have key : ∀ k j, n ≤ j + k → p ∣ h j := by
    intro k
    induction k with
    | zero => intro j hj; rw [hn j (by omega)]; exact ⟨0, by simp⟩
    | succ k ih =>
      intro j hj
      by_cases hj2 : n ≤ j + k
      · exact ih j hj2
      · have hhi : ∀ i, p ∣ fd_sub h (fd_tr (j + 1) h) i := fun i => by
          simp only [fd_sub, fd_tr]
          by_cases hi : i < j + 1
          · rw [if_pos hi]; exact ⟨0, by simp⟩
          · rw [if_neg hi]
            have := ih i (by omega)
            rw [Int.sub_zero]; exact this
        have hL : fd_L (fd_tr (j + 1) h) j := fun i hi => by simp only [fd_tr]; rw [if_neg (by omega)]
        have h1 := (fd_top d j u (fd_tr (j + 1) h) hu hL).1
        have e1 : fd_tr (j + 1) h j = h j := by simp only [fd_tr]; rw [if_pos (by omega)]
        rw [hu1, e1, Int.one_mul] at h1
        have h2 := fd_dvd_mul_le p (fd_sub h (fd_tr (j + 1) h)) (d + j) u (fun i _ => hhi i)
        rw [fd_mul_sub] at h2
        simp only [fd_sub] at h2
        rw [h1] at h2
        have h3 := Int.dvd_sub (H (d + j) (by omega)) h2
        have e2 : fd_mul u h (d + j) - (fd_mul u h (d + j) - h j) = h j := by omega
        rw [e2] at h3
        exact h3
  exact key n j (by omega)
theorem fd_MQ_u {p : Int} {u f q q' : Nat → Int} {d : Nat} (hu : fd_L u d) (hu1 : u d = 1) (h : fd_MQ p u f q) (h' : fd_MQ p u f q') : q = q' := by
  refine fd_rd_eq h.1 h'.1 (fun i => ?_)
  refine fd_monic (h := fd_sub q q') hu hu1 (fd_F_sub (fd_L_F h.2.1) (fd_L_F h'.2.1)) (fun j _ => ?_) i
  rw [fd_mul_sub]
  exact fd_cg_tr h.2.2 (fd_cg_sym h'.2.2) j
noncomputable def fd_itg {α : Type} (c : Prop) (a b : α) : α := @ite α c (Classical.propDecidable c) a b
theorem fd_itg_t {α : Type} {c : Prop} {a b : α} (h : c) : fd_itg c a b = a := if_pos h
theorem fd_itg_f {α : Type} {c : Prop} {a b : α} (h : ¬ c) : fd_itg c a b = b := if_neg h
noncomputable def fd_mq (p : Int) (u f : Nat → Int) : Nat → Int := Classical.epsilon fun q => fd_MQ p u f q
abbrev fd_MS : Type := (Nat → Int) × List (Nat → Int)
noncomputable def fd_ms (p : Int) (u : Nat → Int) (s : fd_MS) : fd_MS := fd_itg (fd_mdv p u s.1) (fd_mq p u s.1, s.2 ++ [u]) s
theorem fd_ms_yes {p : Int} {u q : Nat → Int} {d : Nat} {s : fd_MS} (hu : fd_L u d) (hu1 : u d = 1) (h : fd_MQ p u s.1 q) : fd_ms p u s = (q, s.2 ++ [u]) := by
  have h1 : fd_MQ p u s.1 (fd_mq p u s.1) := Classical.epsilon_spec (p := fun q => fd_MQ p u s.1 q) ⟨q, h⟩
  rw [fd_ms, fd_itg_t ⟨q, h⟩, fd_MQ_u hu hu1 h1 h]
theorem fd_ms_no {p : Int} {u : Nat → Int} {s : fd_MS} (h : ¬ fd_mdv p u s.1) : fd_ms p u s = s := by rw [fd_ms, fd_itg_f h]
noncomputable def fd_mi (p : Int) (u : Nat → Int) : Nat → fd_MS → fd_MS
  | 0, s => s
  | n + 1, s => fd_mi p u n (fd_ms p u s)
theorem fd_mi_no {p : Int} {u : Nat → Int} {s : fd_MS} (h : ¬ fd_mdv p u s.1) (n : Nat) : fd_mi p u n s = s := by
  induction n with
  | zero => rfl
  | succ n ih => rw [fd_mi, fd_ms_no h, ih]
def fd_mu (p bc : Nat) : Nat → Int := if bc < p then fd_q 0 1 ((bc : Nat) : Int) else fd_q 1 (((bc - p) / p : Nat) : Int) ((bc % p : Nat) : Int)
def fd_md (p bc : Nat) : Nat := if bc < p then 1 else 2
noncomputable def fd_mz (p : Nat) (s0 : fd_MS) : Nat → fd_MS
  | 0 => s0
  | n + 1 => fd_mi p (fd_mu p n) 5 (fd_mz p s0 n)
/-- what the states have -/
def fd_MI (p : Int) (s : fd_MS) : Prop := fd_rd p s.1 ∧ fd_L s.1 5 ∧ (∃ e, fd_D s.1 e ∧ s.2.length + e ≤ 5) ∧ ∀ g ∈ s.2, ∃ d, fd_D g d ∧ d ≤ 5 ∧ fd_B g 6
theorem fd_MQ_deg {p : Int} {u f q : Nat → Int} {d : Nat} (hp : 0 < p) (hu : fd_L u d) (hu1 : u d = 1) (hf : fd_rd p f) (hz : f ≠ fd_z) (h : fd_MQ p u f q) : ∃ e, fd_D q e ∧ fd_D f (d + e) := by
  obtain ⟨h1, h2, h3⟩ := h
  have hq : q ≠ fd_z := by
    intro e
    rw [e, fd_mul_z] at h3
    exact hz (fd_rd_eq hf (fun i => ⟨Int.le_refl 0, hp⟩) (fd_cg_sym h3))
  obtain ⟨e, he⟩ := fd_D_ex (fd_L_F h2) hq
  obtain ⟨t1, t2⟩ := fd_top d e u q hu he.2
  refine ⟨e, he, ?_, fun j hj => ?_⟩
  · intro hf0
    have h4 := h3 (d + e)
    rw [t1, hu1, hf0, Int.one_mul, Int.sub_zero] at h4
    have h5 := h1 e
    have h6 := Int.le_of_dvd (by have := he.1; omega) h4
    omega
  · have h4 := h3 j
    rw [t2 j hj, Int.zero_sub, Int.dvd_neg] at h4
    have h5 := hf j
    rcases Int.lt_or_eq_of_le h5.1 with h6 | h6
    · have h7 := Int.le_of_dvd h6 h4
      omega
    · exact h6.symm
theorem fd_MI_ms {p : Int} {u : Nat → Int} {d : Nat} {s : fd_MS} (hp : 0 < p) (hd1 : 1 ≤ d) (hd5 : d ≤ 5) (hu : fd_L u d) (hu1 : u d = 1) (huB : fd_B u 6) (h : fd_MI p s) : fd_MI p (fd_ms p u s) := by
  by_cases hm : fd_mdv p u s.1
  · obtain ⟨q, hq⟩ := hm
    obtain ⟨h1, h2, ⟨e, he, hle⟩, h4⟩ := h
    rw [fd_ms_yes hu hu1 hq]
    obtain ⟨e', he', hf⟩ := fd_MQ_deg hp hu hu1 h1 (fd_D_nz he) hq
    have ee := fd_D_u he hf
    refine ⟨hq.1, hq.2.1, ⟨e', he', ?_⟩, fun g hg => ?_⟩
    · show (s.2 ++ [u]).length + e' ≤ 5
      rw [List.length_append, List.length_singleton]; omega
    · rcases List.mem_append.mp hg with h | h
      · exact h4 g h
      · rw [List.mem_singleton.mp h]
        exact ⟨d, ⟨by rw [hu1]; decide, hu⟩, hd5, huB⟩
  · rw [fd_ms_no hm]; exact h
theorem fd_mu_ok {p bc : Nat} (hp2 : 2 ≤ p) (hp7 : p ≤ 7) (hbc : bc < p * p + p) : fd_L (fd_mu p bc) (fd_md p bc) ∧ fd_mu p bc (fd_md p bc) = 1 ∧ fd_B (fd_mu p bc) 6 := by
  unfold fd_mu fd_md
  by_cases h : bc < p
  · rw [if_pos h, if_pos h]
    exact ⟨fd_q_L1 _ _, rfl, fd_q_B (by decide) (by decide) (by omega)⟩
  · rw [if_neg h, if_neg h]
    have h1 : (bc - p) / p < p := by rw [Nat.div_lt_iff_lt_mul (by omega)]; omega
    have h2 : bc % p < p := Nat.mod_lt _ (by omega)
    exact ⟨fd_q_L _ _ _, rfl, fd_q_B (by decide) (by rw [Int.natAbs_natCast]; omega) (by rw [Int.natAbs_natCast]; omega)⟩
theorem fd_md_12 (p bc : Nat) : fd_md p bc = 1 ∨ fd_md p bc = 2 := by
  unfold fd_md
  by_cases h : bc < p
  · rw [if_pos h]; exact Or.inl rfl
  · rw [if_neg h]; exact Or.inr rfl
/-- the list in the end -/
def fd_ML (p : Nat) (f : Nat → Int) (L : List (Nat → Int)) : Prop := ∃ e, fd_D (fd_mz p (f, []) (p * p + p)).1 e ∧ (e = 0 → L = (fd_mz p (f, []) (p * p + p)).2) ∧ (1 ≤ e → L = (fd_mz p (f, []) (p * p + p)).2 ++ [(fd_mz p (f, []) (p * p + p)).1])
theorem fd_ML_u {p : Nat} {f : Nat → Int} {L L' : List (Nat → Int)} (h : fd_ML p f L) (h' : fd_ML p f L') : L = L' := by
  obtain ⟨e, h1, h2, h3⟩ := h
  obtain ⟨e', k1, k2, k3⟩ := h'
  have ee := fd_D_u h1 k1
  subst ee
  by_cases h0 : e = 0
  · rw [h2 h0, k2 h0]
  · rw [h3 (by omega), k3 (by omega)]
/-- what the list has -/
def fd_MB (L : List (Nat → Int)) : Prop := L.length ≤ 5 ∧ ∀ g ∈ L, ∃ d, fd_D g d ∧ d ≤ 5 ∧ fd_B g 6
theorem fd_tmod_red {z p : Int} (hp : 0 < p) : (z.tmod p + p).tmod p = z % p := by
  have h1 := Int.tmod_lt_of_pos z hp
  have h2 := Int.lt_tmod_of_pos z hp
  rw [Int.tmod_eq_emod_of_nonneg (by omega), Int.add_emod_right]
  have h3 := Int.tmod_add_tdiv_mul z p
  conv => rhs; rw [← h3]
  rw [Int.add_mul_emod_self_right]
theorem fd_i_div {a b : Int} (ha : fd_k a) (hb : fd_k b) : fd_i a / fd_i b = fd_i (a.tdiv b) := by
  apply Int32.toInt_inj.mp
  have hm : fd_i a ≠ Int32.minValue := by
    intro e
    have h1 := congrArg Int32.toInt e
    rw [fd_i_toInt ha] at h1
    have h2 : Int32.minValue.toInt = -2147483648 := by decide
    have := ha.1
    omega
  rw [Int32.toInt_div_of_ne_left _ _ hm, fd_i_toInt ha, fd_i_toInt hb]
  have h3 := Int.natAbs_tdiv_le_natAbs a b
  have h4 := ha.1
  have h5 := ha.2
  rw [fd_i_toInt ⟨by omega, by omega⟩]
theorem fd_i_rem {a b : Int} (ha : fd_k a) (hb : fd_k b) : fd_i a - fd_i a / fd_i b * fd_i b = fd_i (a.tmod b) := by
  rw [fd_i_div ha hb, fd_i_mul, fd_i_sub, Int.tmod_def, Int.mul_comm b]
theorem fd_ndiv {a p : Nat} (ha : a ≤ 1000) (hp : p ≤ 7) : nI a / nI p = nI (a / p) := by
  rw [← fd_i_nat, ← fd_i_nat, ← fd_i_nat, fd_i_div (fd_k_lit (by omega)) (fd_k_lit (by omega))]; rfl
theorem fd_nrem {a p : Nat} (ha : a ≤ 1000) (hp : p ≤ 7) : nI a - nI a / nI p * nI p = nI (a % p) := by
  rw [← fd_i_nat, ← fd_i_nat, ← fd_i_nat, fd_i_rem (fd_k_lit (by omega)) (fd_k_lit (by omega))]; rfl
end
section
/-! the component modulo p -/
theorem xs_reduce_work {post : SX → Prop} {fc : Int32} {he : Nat → Int32} {re op qu rs wk fo : Nat → Int64} {f : Nat → Int} {p : Nat} (hp : 2 ≤ p) (hp7 : p ≤ 7) (hR : fd_R wk f) (hB : fd_B f 4611686018427387904) (H : ∀ t, fd_R t (fd_red p f) → post (fc, he, re, op, qu, rs, t, fo)) : wpX_reduce__work post (fc, he, re, op, qu, rs, wk, fo) (nI p) := by
  have hps : fd_s (p : Int) := fd_s_lit (by omega)
  have hpz : ¬ fd_l (p : Int) = 0 := fun z => by have := (fd_l_z hps).mp z; omega
  refine fd_fill (fun n x t => wX_reduce__work_2 post (nI p) fc n x he re op qu rs t fo) 6 0 (fun i => fd_l (fd_red p f i)) wk (fun n t h1 _ => ?_) (fun n i t hi h2 hW => ?_)
  · exact br_t (nI_le (Nat.le_refl 6) (by decide)) (H t (fun i hi => by have := h1 i hi; rwa [Nat.zero_add] at this))
  · have e : (nI p).toInt64 = fd_l (p : Int) := fd_l64n p (by omega)
    have hs : fd_s (f i) := fd_s_of (hB i) (by decide)
    have hs2 : fd_s ((f i).tmod p + p) := by
      have h3 := Int.tmod_lt_of_pos (f i) (by omega : (0 : Int) < p)
      have h4 := Int.lt_tmod_of_pos (f i) (by omega : (0 : Int) < p)
      exact fd_s_lit (by omega)
    refine br_f (nI_ge (b := 6) hi (by decide)) ⟨vp_in_nI hi (by decide), by rw [e]; exact hpz, by rw [e]; exact hpz, vp_in_nI hi (by decide), nm_r ?_ (nm_r (nI_1 i) hW)⟩
    rw [e, nI_clamp (by omega), h2 i (by omega), hR i hi, fd_l_rem hs hps, fd_l_add, fd_l_rem hs2 hps, fd_tmod_red (by omega), Nat.zero_add]; rfl
theorem xs_reduce_quotient {post : SX → Prop} {fc : Int32} {he : Nat → Int32} {re op qu rs wk fo : Nat → Int64} {f : Nat → Int} {p : Nat} (hp : 2 ≤ p) (hp7 : p ≤ 7) (hR : fd_R qu f) (hB : fd_B f 4611686018427387904) (H : ∀ t, fd_R t (fd_red p f) → post (fc, he, re, op, t, rs, wk, fo)) : wpX_reduce__quotient post (fc, he, re, op, qu, rs, wk, fo) (nI p) := by
  have hps : fd_s (p : Int) := fd_s_lit (by omega)
  have hpz : ¬ fd_l (p : Int) = 0 := fun z => by have := (fd_l_z hps).mp z; omega
  refine fd_fill (fun n x t => wX_reduce__quotient_2 post (nI p) fc n x he re op t rs wk fo) 6 0 (fun i => fd_l (fd_red p f i)) qu (fun n t h1 _ => ?_) (fun n i t hi h2 hW => ?_)
  · exact br_t (nI_le (Nat.le_refl 6) (by decide)) (H t (fun i hi => by have := h1 i hi; rwa [Nat.zero_add] at this))
  · have e : (nI p).toInt64 = fd_l (p : Int) := fd_l64n p (by omega)
    have hs : fd_s (f i) := fd_s_of (hB i) (by decide)
    have hs2 : fd_s ((f i).tmod p + p) := by
      have h3 := Int.tmod_lt_of_pos (f i) (by omega : (0 : Int) < p)
      have h4 := Int.lt_tmod_of_pos (f i) (by omega : (0 : Int) < p)
      exact fd_s_lit (by omega)
    refine br_f (nI_ge (b := 6) hi (by decide)) ⟨vp_in_nI hi (by decide), by rw [e]; exact hpz, by rw [e]; exact hpz, vp_in_nI hi (by decide), nm_r ?_ (nm_r (nI_1 i) hW)⟩
    rw [e, nI_clamp (by omega), h2 i (by omega), hR i hi, fd_l_rem hs hps, fd_l_add, fd_l_rem hs2 hps, fd_tmod_red (by omega), Nat.zero_add]; rfl
theorem xs_reduce_rest {post : SX → Prop} {fc : Int32} {he : Nat → Int32} {re op qu rs wk fo : Nat → Int64} {f : Nat → Int} {p : Nat} (hp : 2 ≤ p) (hp7 : p ≤ 7) (hR : fd_R rs f) (hB : fd_B f 4611686018427387904) (H : ∀ t, fd_R t (fd_red p f) → post (fc, he, re, op, qu, t, wk, fo)) : wpX_reduce__rest post (fc, he, re, op, qu, rs, wk, fo) (nI p) := by
  have hps : fd_s (p : Int) := fd_s_lit (by omega)
  have hpz : ¬ fd_l (p : Int) = 0 := fun z => by have := (fd_l_z hps).mp z; omega
  refine fd_fill (fun n x t => wX_reduce__rest_2 post (nI p) fc n x he re op qu t wk fo) 6 0 (fun i => fd_l (fd_red p f i)) rs (fun n t h1 _ => ?_) (fun n i t hi h2 hW => ?_)
  · exact br_t (nI_le (Nat.le_refl 6) (by decide)) (H t (fun i hi => by have := h1 i hi; rwa [Nat.zero_add] at this))
  · have e : (nI p).toInt64 = fd_l (p : Int) := fd_l64n p (by omega)
    have hs : fd_s (f i) := fd_s_of (hB i) (by decide)
    have hs2 : fd_s ((f i).tmod p + p) := by
      have h3 := Int.tmod_lt_of_pos (f i) (by omega : (0 : Int) < p)
      have h4 := Int.lt_tmod_of_pos (f i) (by omega : (0 : Int) < p)
      exact fd_s_lit (by omega)
    refine br_f (nI_ge (b := 6) hi (by decide)) ⟨vp_in_nI hi (by decide), by rw [e]; exact hpz, by rw [e]; exact hpz, vp_in_nI hi (by decide), nm_r ?_ (nm_r (nI_1 i) hW)⟩
    rw [e, nI_clamp (by omega), h2 i (by omega), hR i hi, fd_l_rem hs hps, fd_l_add, fd_l_rem hs2 hps, fd_tmod_red (by omega), Nat.zero_add]; rfl
theorem fd_red_z {p : Int} {w : Nat → Int} (h : fd_red p w = fd_z) (i : Nat) : p ∣ w i := Int.dvd_of_emod_eq_zero (congrFun h i)
theorem xs_divRM {post : Int32 → SX → Prop} {fc : Int32} {he : Nat → Int32} {re op qu rs wk fo : Nat → Int64} {f u : Nat → Int} {d p : Nat} (hp : 2 ≤ p) (hp7 : p ≤ 7) (hd : d < 6) (hu : fd_L u d) (hu1 : u d = 1) (huB : fd_B u 6) (hop : fd_R op u) (hrs : fd_R rs f) (hf : fd_rd p f) (hL : fd_L f 5)
    (H1 : ∀ q qu rs wk, fd_MQ p u f q → fd_R rs q → post 1 (fc, he, re, op, qu, rs, wk, fo))
    (H0 : ¬ fd_mdv p u f → ∀ qu wk, post 0 (fc, he, re, op, qu, rs, wk, fo)) : wpX_divideRestModulo post (fc, he, re, op, qu, rs, wk, fo) (nI d) (nI p) := by
  have hD : fd_D u d := ⟨by rw [hu1]; decide, hu⟩
  have hfB : fd_B f 6 := fun i => by have := hf i; omega
  have hM : 6 * (1 + 6) ^ (min (6 - d) 6) ≤ 4611686018427387904 := by
    have h3 : (1 + 6) ^ (min (6 - d) 6) ≤ (1 + 6) ^ 6 := Nat.pow_le_pow_right (by decide) (by omega)
    exact Nat.le_trans (Nat.mul_le_mul_left _ h3) (by decide)
  unfold wpX_divideRestModulo
  dsimp only
  refine xs_copy_rest_work (fun wk1 hwk => ?_)
  dsimp only
  refine xs_divide_work hD hd hop huB (by decide) (fun i hi => by rw [hwk i hi, hrs i hi]) hL (tt := 6) (fun j hj => hL j (by omega)) hfB (Nat.le_trans hM (by decide)) (fun T qu1 w q hT hq hDI hw hqB => ?_) (fun _ hn T qu1 => ?_)
  · dsimp only
    refine br_f (by decide) (xs_reduce_work hp hp7 hT hw (fun wk2 hwk2 => ?_))
    dsimp only
    have hrB : fd_B (fd_red p w) 7 := fun i => by have := fd_red_rd (by omega : (0 : Int) < p) w i; omega
    have hw5 : fd_L w 5 := fun j hj => hDI.2.1 j (by omega)
    refine xs_deg_work hwk2 hrB (by decide) (fd_red_L hw5) (fun hz => br_t (by decide) ?_) (fun d' hd' hD' => br_f (nI_pos (by omega)) (H0 (fun hm => ?_) qu1 wk2))
    · refine xs_reduce_quotient hp hp7 hq hqB (fun qu2 hqu2 => ?_)
      dsimp only
      refine xs_copy_quotient_rest (fun rs1 hrs1 => ?_)
      dsimp only
      refine H1 (fd_red p q) qu2 rs1 wk2 ⟨fd_red_rd (by omega) q, fd_red_L hDI.2.2, ?_⟩ (fun i hi => by rw [hrs1 i hi, hqu2 i hi])
      refine fd_cg_tr (fd_cg_mul u (fd_red_cg p q)) (fun i => ?_)
      have h1 := congrFun hDI.1 i
      simp only [fd_add] at h1
      have h2 := Int.dvd_neg.mpr (fd_red_z hz i)
      have e : -w i = fd_mul u q i - f i := by omega
      rw [e] at h2
      exact h2
    · obtain ⟨Q, hQ⟩ := hm
      have h1 : ∀ j, (p : Int) ∣ fd_mul u (fd_sub Q q) j - w j := fun j => by
        have h2 := hQ.2.2 j
        have h3 := congrFun hDI.1 j
        rw [fd_mul_sub]
        simp only [fd_sub, fd_add] at h3 ⊢
        have e : fd_mul u Q j - fd_mul u q j - w j = fd_mul u Q j - f j := by omega
        rw [e]; exact h2
      have h4 : ∀ j, (p : Int) ∣ fd_sub Q q j := fd_monic hu hu1 (fd_F_sub (fd_L_F hQ.2.1) (fd_L_F hDI.2.2)) (fun j hj => by
        have h5 := h1 j
        rw [hDI.2.1 j (by omega), Int.sub_zero] at h5
        exact h5)
      refine fd_D_nz hD' (funext fun j => ?_)
      have h6 := fd_dvd_mul_le (p : Int) (fd_sub Q q) j u (fun i _ => h4 i)
      have h7 := Int.dvd_sub h6 (h1 j)
      have e : fd_mul u (fd_sub Q q) j - (fd_mul u (fd_sub Q q) j - w j) = w j := by omega
      rw [e] at h7
      exact Int.emod_eq_zero_of_dvd h7
  · obtain ⟨z, hz⟩ := hn
    exact absurd (by rw [hu1]; exact ⟨z, by simp⟩) hz
theorem xs_takeMod {post : SX → Prop} {he : Nat → Int32} {re op : Nat → Int64} {u : Nat → Int} {d p : Nat} (hp : 2 ≤ p) (hp7 : p ≤ 7) (hd1 : 1 ≤ d) (hd : d ≤ 2) (hu : fd_L u d) (hu1 : u d = 1) (huB : fd_B u 6) (hop : fd_R op u) {S : fd_MS} (H : ∀ qu rs wk fo, fd_MI p S → fd_R rs S.1 → fd_AL fo S.2 → post (nI S.2.length, he, re, op, qu, rs, wk, fo)) : ∀ (j k : Nat) (s : fd_MS) (qu rs wk fo : Nat → Int64), k + j = 5 → fd_MI p s → fd_R rs s.1 → fd_AL fo s.2 → fd_mi p u j s = S → wX_takeOperandModulo_2 post (nI d) (nI p) (j + 1) (nI k) (nI s.2.length) he re op qu rs wk fo := by
  intro j
  induction j with
  | zero =>
    intro k s qu rs wk fo hk hI hrs hfo e
    have e5 : k = 5 := by omega
    subst e5
    rw [fd_mi] at e
    subst e
    exact br_t (nI_le (a := 5) (b := 5) (Nat.le_refl 5) (by decide)) (H qu rs wk fo hI hrs hfo)
  | succ j ih =>
    intro k s qu rs wk fo hk hI hrs hfo e
    refine br_f (nI_ge (b := 5) (by omega) (by decide)) (xs_divRM hp hp7 (by omega) hu hu1 huB hop hrs hI.1 hI.2.1 (fun q qu1 rs1 wk1 hq hrs1 => ?_) (fun hn qu1 wk1 => ?_))
    · dsimp only
      have hI2 := fd_MI_ms (by omega) hd1 (by omega) hu hu1 huB hI
      rw [fd_mi] at e
      rw [fd_ms_yes hu hu1 hq] at e hI2
      have hlen : s.2.length < 5 := by
        obtain ⟨_, _, ⟨e', _, hle⟩, _⟩ := hI2
        have hle' : (s.2 ++ [u]).length + e' ≤ 5 := hle
        rw [List.length_append, List.length_singleton] at hle'
        omega
      refine br_f (by decide) (xs_addFound_operand hlen (fun fo1 h1 h2 => ?_))
      dsimp only
      have h := ih (k + 1) (q, s.2 ++ [u]) qu1 rs1 wk1 fo1 (by omega) hI2 hrs1 (fd_AL_snoc hfo h1 h2 hop) e
      have el : (s.2 ++ [u]).length = s.2.length + 1 := by rw [List.length_append, List.length_singleton]
      refine nm_r (nI_1 k) ?_
      rw [← el]
      exact h
    · dsimp only
      rw [fd_mi_no hn] at e
      subst e
      exact br_t rfl (H qu1 rs wk1 fo hI hrs hfo)
theorem fd_mu_lin {p l : Nat} (h : l < p) : fd_mu p l = fd_q 0 1 (l : Int) ∧ fd_md p l = 1 := by
  unfold fd_mu fd_md
  rw [if_pos h, if_pos h]; exact ⟨rfl, rfl⟩
theorem fd_mu_quad {p m l : Nat} (h : l < p) : fd_mu p (p + m * p + l) = fd_q 1 (m : Int) (l : Int) ∧ fd_md p (p + m * p + l) = 2 := by
  unfold fd_mu fd_md
  have h0 : ¬ p + m * p + l < p := by omega
  rw [if_neg h0, if_neg h0]
  have h1 : (p + m * p + l - p) / p = m := by
    have e : p + m * p + l - p = l + m * p := by omega
    rw [e, Nat.add_mul_div_right _ _ (by omega), Nat.div_eq_of_lt h]; omega
  have h2 : (p + m * p + l) % p = l := by
    have e : p + m * p + l = l + (m + 1) * p := by rw [Nat.add_mul]; omega
    rw [e, Nat.add_mul_mod_self_right, Nat.mod_eq_of_lt h]
  rw [h1, h2]; exact ⟨rfl, rfl⟩
theorem xs_fm70 {post : Int32 → SX → Prop} {J : Int32 → Int32 → (Nat → Int32) → (Nat → Int64) → (Nat → Int64) → (Nat → Int64) → (Nat → Int64) → (Nat → Int64) → (Nat → Int64) → Prop} {he : Nat → Int32} {re : Nat → Int64} {p m : Nat} (hp : 2 ≤ p) (hp7 : p ≤ 7) (hm : m < p) (s0 : fd_MS)
    (HJ : ∀ op qu rs wk fo, fd_MI p (fd_mz p s0 (p + (m + 1) * p)) → fd_R rs (fd_mz p s0 (p + (m + 1) * p)).1 → fd_AL fo (fd_mz p s0 (p + (m + 1) * p)).2 → J (nI (m + 1)) (nI (fd_mz p s0 (p + (m + 1) * p)).2.length) he re op qu rs wk fo) : ∀ (n l : Nat) (op qu rs wk fo : Nat → Int64), l + n = p → fd_MI p (fd_mz p s0 (p + m * p + l)) → fd_R rs (fd_mz p s0 (p + m * p + l)).1 → fd_AL fo (fd_mz p s0 (p + m * p + l)).2 → wX_findFactorsModulo_70 post J (nI p) (nI m) (n + 1) (nI l) (nI (fd_mz p s0 (p + m * p + l)).2.length) he re op qu rs wk fo := by
  intro n
  induction n with
  | zero =>
    intro l op qu rs wk fo hl hI hrs hfo
    have e : l = p := by omega
    subst e
    have e2 : l + m * l + l = l + (m + 1) * l := by rw [Nat.add_mul]; omega
    rw [e2] at hI hrs hfo ⊢
    exact br_t (nI_le (Nat.le_refl l) (by omega)) (nm_r (nI_1 m) (HJ op qu rs wk fo hI hrs hfo))
  | succ n ih =>
    intro l op qu rs wk fo hl hI hrs hfo
    have hbc : p + m * p + l < p * p + p := by
      have h1 : (m + 1) * p ≤ p * p := Nat.mul_le_mul_right _ (by omega)
      rw [Nat.add_mul] at h1
      omega
    obtain ⟨u1, u2, u3⟩ := fd_mu_ok hp hp7 hbc
    obtain ⟨em, ed⟩ := fd_mu_quad (m := m) (by omega : l < p)
    rw [ed] at u1 u2
    refine br_f (nI_ge (by omega) (by omega)) ?_
    have h := xs_makeOperand (post := fun u => match u with | (f1, f2, f3, f4, f5, f6, f7, f8) => wpX_takeOperandModulo (fun u => match u with | (g1, g2, g3, g4, g5, g6, g7, g8) => ∀ x4_70 : Int32, x4_70 = nI l + 1 → wX_findFactorsModulo_70 post J (nI p) (nI m) (n + 1) x4_70 g1 g2 g3 g4 g5 g6 g7 g8) (f1, f2, f3, f4, f5, f6, f7, f8) 2 (nI p)) (fc := nI (fd_mz p s0 (p + m * p + l)).2.length) (he := he) (re := re) (op := op) (qu := qu) (rs := rs) (wk := wk) (fo := fo) (t := 1) (m := (m : Int)) (l := (l : Int)) (fd_k_lit (by decide)) (fd_k_lit (by omega)) (fd_k_lit (by omega)) (fun op1 hop => ?_)
    · rw [fd_i_nat, fd_i_nat] at h
      exact h
    · dsimp only
      rw [← em] at hop
      refine ⟨6, xs_takeMod hp hp7 (by decide) (Nat.le_refl 2) u1 u2 u3 hop (S := fd_mz p s0 (p + m * p + l + 1)) (fun qu rs wk fo hI hrs hfo => ?_) 5 0 _ qu rs wk fo (by omega) hI hrs hfo rfl⟩
      dsimp only
      exact nm_r (nI_1 l) (ih (l + 1) op1 qu rs wk fo (by omega) hI hrs hfo)
theorem xs_fm62 {post : Int32 → SX → Prop} {he : Nat → Int32} {re : Nat → Int64} {p : Nat} (hp : 2 ≤ p) (hp7 : p ≤ 7) (f : Nat → Int)
    (H : ∀ L op qu rs wk fo, fd_ML p f L → fd_MB L → fd_AL fo L → post 1 (nI L.length, he, re, op, qu, rs, wk, fo)) : ∀ (n m : Nat) (op qu rs wk fo : Nat → Int64), m + n = p → fd_MI p (fd_mz p (f, []) (p + m * p)) → fd_R rs (fd_mz p (f, []) (p + m * p)).1 → fd_AL fo (fd_mz p (f, []) (p + m * p)).2 → wX_findFactorsModulo_62 post (nI p) (n + 1) (nI m) (nI (fd_mz p (f, []) (p + m * p)).2.length) he re op qu rs wk fo := by
  intro n
  induction n with
  | zero =>
    intro m op qu rs wk fo hm hI hrs hfo
    have e : m = p := by omega
    subst e
    have e2 : m + m * m = m * m + m := by omega
    rw [e2] at hI hrs hfo ⊢
    obtain ⟨i1, i2, ⟨e, he', hle⟩, i4⟩ := hI
    have hB : fd_B (fd_mz m (f, []) (m * m + m)).1 6 := fun i => by have := i1 i; omega
    refine br_t (nI_le (Nat.le_refl m) (by omega)) (xs_deg_rest hrs hB (by decide) i2 (fun z => absurd z (fd_D_nz he')) (fun d hd hD => ?_))
    have ee := fd_D_u hD he'
    subst ee
    by_cases h0 : d = 0
    · subst h0
      exact br_t (nI_le (a := 0) (b := 0) (Nat.le_refl 0) (by decide)) (H _ op qu rs wk fo ⟨0, hD, fun _ => rfl, fun h => absurd h (by decide)⟩ ⟨by omega, i4⟩ hfo)
    · refine br_f (nI_nle (by omega) (by omega)) (xs_addFound_rest (by omega) (fun fo1 h1 h2 => ?_))
      dsimp only
      have hl : ((fd_mz m (f, []) (m * m + m)).2 ++ [(fd_mz m (f, []) (m * m + m)).1]).length = (fd_mz m (f, []) (m * m + m)).2.length + 1 := by rw [List.length_append, List.length_singleton]
      have h := H ((fd_mz m (f, []) (m * m + m)).2 ++ [(fd_mz m (f, []) (m * m + m)).1]) op qu rs wk fo1 ⟨d, hD, fun h => absurd h h0, fun _ => rfl⟩ ⟨by omega, fun g hg => ?_⟩ (fd_AL_snoc hfo h1 h2 hrs)
      · rw [hl] at h; exact h
      · rcases List.mem_append.mp hg with h | h
        · exact i4 g h
        · rw [List.mem_singleton.mp h]; exact ⟨d, hD, by omega, hB⟩
  | succ n ih =>
    intro m op qu rs wk fo hm hI hrs hfo
    refine br_f (nI_ge (by omega) (by omega)) ⟨p + 1, ?_⟩
    exact xs_fm70 hp hp7 (by omega) (f, []) (fun op qu rs wk fo hI hrs hfo => ih (m + 1) op qu rs wk fo (by omega) hI hrs hfo) p 0 op qu rs wk fo (by omega) hI hrs hfo
theorem xs_fm36 {post : Int32 → SX → Prop} {he : Nat → Int32} {re : Nat → Int64} {p : Nat} (hp : 2 ≤ p) (hp7 : p ≤ 7) (f : Nat → Int)
    (H : ∀ L op qu rs wk fo, fd_ML p f L → fd_MB L → fd_AL fo L → post 1 (nI L.length, he, re, op, qu, rs, wk, fo)) : ∀ (n l : Nat) (op qu rs wk fo : Nat → Int64), l + n = p → fd_MI p (fd_mz p (f, []) l) → fd_R rs (fd_mz p (f, []) l).1 → fd_AL fo (fd_mz p (f, []) l).2 → wX_findFactorsModulo_36 post (nI p) (n + 1) (nI l) (nI (fd_mz p (f, []) l).2.length) he re op qu rs wk fo := by
  intro n
  induction n with
  | zero =>
    intro l op qu rs wk fo hl hI hrs hfo
    have e : l = p := by omega
    subst e
    have e2 : l = l + 0 * l := by omega
    refine br_t (nI_le (Nat.le_refl l) (by omega)) ⟨l + 1, ?_⟩
    have h := xs_fm62 hp hp7 f H l 0 op qu rs wk fo (by omega) (by rw [← e2]; exact hI) (by rw [← e2]; exact hrs) (by rw [← e2]; exact hfo)
    rw [← e2] at h
    exact h
  | succ n ih =>
    intro l op qu rs wk fo hl hI hrs hfo
    obtain ⟨u1, u2, u3⟩ := fd_mu_ok (p := p) (bc := l) hp hp7 (by omega)
    obtain ⟨em, ed⟩ := fd_mu_lin (by omega : l < p)
    rw [ed] at u1 u2
    refine br_f (nI_ge (by omega) (by omega)) ?_
    have h := xs_makeOperand (post := fun u => match u with | (f1, f2, f3, f4, f5, f6, f7, f8) => wpX_takeOperandModulo (fun u => match u with | (g1, g2, g3, g4, g5, g6, g7, g8) => ∀ x4_70 : Int32, x4_70 = nI l + 1 → wX_findFactorsModulo_36 post (nI p) (n + 1) x4_70 g1 g2 g3 g4 g5 g6 g7 g8) (f1, f2, f3, f4, f5, f6, f7, f8) 1 (nI p)) (fc := nI (fd_mz p (f, []) l).2.length) (he := he) (re := re) (op := op) (qu := qu) (rs := rs) (wk := wk) (fo := fo) (t := 0) (m := 1) (l := (l : Int)) (fd_k_lit (by decide)) (fd_k_lit (by decide)) (fd_k_lit (by omega)) (fun op1 hop => ?_)
    · rw [fd_i_nat] at h
      exact h
    · dsimp only
      rw [← em] at hop
      refine ⟨6, xs_takeMod hp hp7 (Nat.le_refl 1) (by decide) u1 u2 u3 hop (S := fd_mz p (f, []) (l + 1)) (fun qu rs wk fo hI hrs hfo => ?_) 5 0 _ qu rs wk fo (by omega) hI hrs hfo rfl⟩
      dsimp only
      exact nm_r (nI_1 l) (ih (l + 1) op1 qu rs wk fo (by omega) hI hrs hfo)
theorem fd_MI_0 {p : Nat} {f : Nat → Int} (hp : 2 ≤ p) (hL : fd_L f 5) (hz : fd_red p f ≠ fd_z) : fd_MI p (fd_red p f, []) := by
  have h5 := fd_red_L (p := p) hL
  obtain ⟨e, he5, he⟩ := fd_D_exL h5 hz
  exact ⟨fd_red_rd (by omega) f, h5, ⟨e, he, by show ([] : List (Nat → Int)).length + e ≤ 5; simp; exact he5⟩, fun g hg => absurd hg List.not_mem_nil⟩
theorem xs_findMod {post : Int32 → SX → Prop} {fc : Int32} {he : Nat → Int32} {re op qu rs wk fo : Nat → Int64} {r p : Nat} (hr : r < 4) (hok : fd_ok he) (hp : 2 ≤ p) (hp7 : p ≤ 7)
    (H0 : fd_red p (fd_reg he r) = fd_z → ∀ fc rs, post 0 (fc, he, re, op, qu, rs, wk, fo))
    (H1 : fd_red p (fd_reg he r) ≠ fd_z → ∀ L op qu rs wk fo, fd_ML p (fd_red p (fd_reg he r)) L → fd_MB L → fd_AL fo L → post 1 (nI L.length, he, re, op, qu, rs, wk, fo)) : wpX_findFactorsModulo post (fc, he, re, op, qu, rs, wk, fo) (nI r) (nI p) := by
  unfold wpX_findFactorsModulo
  dsimp only
  have h0 := fd_reg_H0 hok hr
  refine xs_load_rest hr (fun rs1 hrs1 => ?_)
  dsimp only
  refine xs_reduce_rest hp hp7 (fd_reg_R hrs1) (fd_B_mono (fd_H0_B h0) (by decide)) (fun rs2 hrs2 => ?_)
  dsimp only
  have hB : fd_B (fd_red p (fd_reg he r)) 7 := fun i => by have := fd_red_rd (by omega : (0 : Int) < p) (fd_reg he r) i; omega
  refine xs_deg_rest hrs2 hB (by decide) (fd_red_L h0.2) (fun hz => br_f (by decide) (H0 hz _ _)) (fun d hd hD => br_t (nI_pos' (by omega)) ⟨p + 1, ?_⟩)
  have hz := fd_D_nz hD
  exact xs_fm36 hp hp7 (fd_red p (fd_reg he r)) (fun L op qu rs wk fo h1 h2 h3 => H1 hz L op qu rs wk fo h1 h2 h3) p 0 op qu rs2 wk fo (by omega) (fd_MI_0 hp h0.2 hz) hrs2 (fd_AL_nil fo)
end
section
/-! the reference modulo p -/
def fd_wm (p : Int) (w u : Nat → Int) (x : Int) (s d : Nat) : Nat → Int := fun k => if s ≤ k ∧ k ≤ s + d then (w k + (p - x) * u (k - s)) % p else w k
theorem fd_wm_cg {p : Int} {f w q u : Nat → Int} {x : Int} {s d : Nat} (hu : fd_L u d) (hq : q s = 0) (h : fd_cg p f (fd_add w (fd_mul u q))) : fd_cg p f (fd_add (fd_wm p w u x s d) (fd_mul u (fd_qs q x s))) := by
  have e : fd_qs q x s = fd_add q (fd_mo x s) := by
    funext k; simp only [fd_qs, fd_add, fd_mo]
    by_cases hk : k = s
    · rw [if_pos hk, if_pos hk, hk, hq]; omega
    · rw [if_neg hk, if_neg hk]; omega
  intro k
  rw [e, fd_mul_add, fd_mul_comm u (fd_mo _ _), fd_mo_mul]
  have h1 := h k
  simp only [fd_add, fd_wm] at h1 ⊢
  by_cases hk : s ≤ k
  · by_cases hk2 : k ≤ s + d
    · rw [if_pos ⟨hk, hk2⟩, if_pos hk]
      have h2 : p ∣ (w k + (p - x) * u (k - s)) % p - (w k + (p - x) * u (k - s)) := Int.dvd_sub_self_of_emod_eq rfl
      have h3 : p ∣ p * u (k - s) := ⟨_, rfl⟩
      have h4 := Int.dvd_sub (Int.dvd_sub h1 h2) h3
      have e3 : f k - (w k + fd_mul u q k) - ((w k + (p - x) * u (k - s)) % p - (w k + (p - x) * u (k - s))) - p * u (k - s) = f k - ((w k + (p - x) * u (k - s)) % p + (fd_mul u q k + x * u (k - s))) := by
        rw [Int.sub_mul]; omega
      rw [e3] at h4
      exact h4
    · rw [if_neg (by omega), if_pos hk, hu (k - s) (by omega)]
      have e3 : f k - (w k + (fd_mul u q k + x * 0)) = f k - (w k + fd_mul u q k) := by omega
      rw [e3]; exact h1
  · rw [if_neg (by omega), if_neg hk]
    have e3 : f k - (w k + (fd_mul u q k + 0)) = f k - (w k + fd_mul u q k) := by omega
    rw [e3]; exact h1
theorem fd_wm_rd {p : Int} {w u : Nat → Int} {x : Int} {s d : Nat} (hp : 0 < p) (hw : fd_rd p w) : fd_rd p (fd_wm p w u x s d) := fun k => by
  simp only [fd_wm]
  by_cases h : s ≤ k ∧ k ≤ s + d
  · rw [if_pos h]; exact ⟨Int.emod_nonneg _ (by omega), Int.emod_lt_of_pos _ hp⟩
  · rw [if_neg h]; exact hw k
section
variable {cn ot : Int32} {rg : Nat → Int32} {md wh td yr yq pt kp : Nat → Int64} {dg : Nat → Int32}
theorem ys_dm137 {post : Int32 → SY → Prop} {w : Nat → Int} (hR : fd_R yr w) (hB : fd_B w 4611686018427387904) (hL : fd_L w 5) (H1 : w = fd_z → post 1 (cn, ot, rg, md, wh, td, yr, yq, pt, kp, dg)) (H0 : w ≠ fd_z → post 0 (cn, ot, rg, md, wh, td, yr, yq, pt, kp, dg)) : ∃ n, wY_dividesModulo_137 post cn ot rg md wh td yr yq pt kp dg n 0 := by
  refine fd_upl (fun n x => wY_dividesModulo_137 post cn ot rg md wh td yr yq pt kp dg n x) (fun j => w j = 0) 6 (fun h n => ?_) (fun n i hi h hW => ?_)
  · refine br_t (nI_le (Nat.le_refl 6) (by decide)) (H1 (funext fun i => ?_))
    by_cases hi : i < 6
    · exact h i hi
    · exact hL i (by omega)
  · refine br_f (nI_ge (b := 6) hi (by decide)) ⟨vp_in_nI hi (by decide), ?_⟩
    rw [nI_clamp (by omega)]
    exact br_c (fun z => nm_r (nI_1 i) (hW ((fd_R0 hR hB (Nat.le_refl _) hi).mp z))) (fun z => H0 (fun e => z ((fd_R0 hR hB (Nat.le_refl _) hi).mpr (by rw [e]; rfl))))
theorem ys_dm71 {post : Int32 → SY → Prop} {J : Int32 → (Nat → Int32) → (Nat → Int64) → (Nat → Int64) → (Nat → Int64) → (Nat → Int64) → (Nat → Int64) → (Nat → Int64) → (Nat → Int64) → (Nat → Int32) → Prop} {p d s : Nat} {w u : Nat → Int} {x : Int} (hp : 2 ≤ p) (hp7 : p ≤ 7) (hd : s + d < 6) (hx : 0 ≤ x ∧ x < p) (hyr : fd_R yr w) (hw : fd_rd p w) (htd : fd_R td u) (hu : ∀ i, 0 ≤ u i ∧ u i ≤ 6) (H : ∀ t, fd_R t (fd_wm p w u x s d) → J (nI s + (-1)) rg md wh td t yq pt kp dg) : ∃ n, wY_dividesModulo_71 post J (nI d) (fd_l (p : Int)) (nI s) (fd_l x) cn ot n 0 rg md wh td yr yq pt kp dg := by
  have hps : fd_s (p : Int) := fd_s_lit (by omega)
  have hpz : ¬ fd_l (p : Int) = 0 := fun z => by have := (fd_l_z hps).mp z; omega
  have hp1 : (1 : Int64) ≤ fd_l (p : Int) := (fd_l_le (a := 1) (fd_s_lit (by decide)) hps).mpr (by omega)
  refine fd_fill (fun n y t => wY_dividesModulo_71 post J (nI d) (fd_l (p : Int)) (nI s) (fd_l x) cn ot n y rg md wh td t yq pt kp dg) (d + 1) s (fun j => fd_l ((w (s + j) + (p - x) * u j) % p)) yr (fun n t h1 h2 => ?_) (fun n i t hi h2 hW => ?_)
  · refine br_t (nI_lt (by omega) (by omega)) (nm_e (H t (fun k hk => ?_)))
    simp only [fd_wm]
    by_cases h : s ≤ k ∧ k ≤ s + d
    · rw [if_pos h]
      have h3 := h1 (k - s) (by omega)
      have e3 : s + (k - s) = k := by omega
      rw [e3] at h3
      exact h3
    · rw [if_neg h, h2 k (by omega), hyr k hk]
  · have e : nI s + nI i = nI (s + i) := nI_add s i
    have hin : vp_in (nI s + nI i) 6 := by rw [e]; exact vp_in_nI (by omega) (by decide)
    refine br_f (nI_nlt (by omega) (by omega)) ⟨hin, vp_in_nI (by omega) (by decide), br_t hp1 ⟨hpz, hin, nm_r ?_ (nm_r (nI_1 i) hW)⟩⟩
    have h3 := hw (s + i)
    have h4 := hu i
    have h5 : 0 ≤ (p - x) * u i := Int.mul_nonneg (by omega) h4.1
    have h6 : (p - x) * u i ≤ 7 * 6 := Int.mul_le_mul (by omega) h4.2 h4.1 (by decide)
    have hs : fd_s (w (s + i) + (p - x) * u i) := ⟨by omega, by omega⟩
    rw [e, nI_clamp (by omega), nI_clamp (by omega), h2 (s + i) (by omega), hyr _ (by omega), htd i (by omega), fd_l_sub, fd_l_mul, fd_l_add, fd_l_rem hs hps, Int.tmod_eq_emod_of_nonneg (by omega)]
end
theorem ys_dm43 {post : Int32 → SY → Prop} {cn ot : Int32} {rg : Nat → Int32} {md wh td pt kp : Nat → Int64} {dg : Nat → Int32} {f u : Nat → Int} {d p : Nat} (hp : 2 ≤ p) (hp7 : p ≤ 7) (hd : d < 6) (huL : fd_L u d) (hu1 : u d = 1) (hu : ∀ i, 0 ≤ u i ∧ u i ≤ 6) (htd : fd_R td u)
    (H1 : ∀ q yr yq, fd_MQ p u f q → fd_R yq q → post 1 (cn, ot, rg, md, wh, td, yr, yq, pt, kp, dg))
    (H0 : ¬ fd_mdv p u f → ∀ yr yq, post 0 (cn, ot, rg, md, wh, td, yr, yq, pt, kp, dg)) :
    ∀ (s : Nat) (yr yq : Nat → Int64) (w q : Nat → Int), s + d ≤ 6 → fd_R yr w → fd_R yq q → fd_rd p w → fd_rd p q → (∀ j, j < s → q j = 0) → fd_L q 5 → (∀ j, s + d ≤ j → w j = 0) → fd_cg p f (fd_add w (fd_mul u q)) → wY_dividesModulo_43 post (nI d) (fd_l (p : Int)) cn ot (s + 1) (nI s + (-1)) rg md wh td yr yq pt kp dg := by
  intro s
  induction s with
  | zero =>
    intro yr yq w q hsd hyr hyq hw hq hq0 hqL hw0 hc
    have hB : fd_B w 4611686018427387904 := fun i => by have := hw i; omega
    refine br_t (by decide) (ys_dm137 hyr hB (fun j hj => hw0 j (by omega)) (fun hz => ?_) (fun hz => ?_))
    · refine H1 q yr yq ⟨hq, hqL, fd_cg_sym ?_⟩ hyq
      rw [hz] at hc
      intro i
      have h1 := hc i
      simp only [fd_add, fd_z] at h1
      rw [Int.zero_add] at h1
      exact h1
    · refine H0 (fun hm => hz ?_) yr yq
      obtain ⟨Q, hQ⟩ := hm
      have h1 : ∀ j, (p : Int) ∣ fd_mul u (fd_sub Q q) j - w j := fun j => by
        have h2 := Int.dvd_add (hQ.2.2 j) (hc j)
        rw [fd_mul_sub]
        simp only [fd_sub, fd_add] at h2 ⊢
        have e : fd_mul u Q j - f j + (f j - (w j + fd_mul u q j)) = fd_mul u Q j - fd_mul u q j - w j := by omega
        rw [e] at h2; exact h2
      have h4 : ∀ j, (p : Int) ∣ fd_sub Q q j := fd_monic huL hu1 (fd_F_sub (fd_L_F hQ.2.1) (fd_L_F hqL)) (fun j hj => by
        have h5 := h1 j
        rw [hw0 j (by omega), Int.sub_zero] at h5
        exact h5)
      refine fd_rd_eq hw (fun i => ⟨Int.le_refl 0, by show (0 : Int) < p; omega⟩) (fun j => ?_)
      have h6 := fd_dvd_mul_le (p : Int) (fd_sub Q q) j u (fun i _ => h4 i)
      have h7 := Int.dvd_sub h6 (h1 j)
      have e : fd_mul u (fd_sub Q q) j - (fd_mul u (fd_sub Q q) j - w j) = w j - fd_z j := by simp only [fd_z]; omega
      rw [e] at h7
      exact h7
  | succ s ih =>
    intro yr yq w q hsd hyr hyq hw hq hq0 hqL hw0 hc
    rw [fd_m1]
    have e : nI s + nI d = nI (s + d) := nI_add s d
    have hin : vp_in (nI s + nI d) 6 := by rw [e]; exact vp_in_nI (by omega) (by decide)
    refine br_f (nI_pos (by omega)) ⟨hin, nm_r (e' := fd_l (w (s + d))) (by rw [e, nI_clamp (by omega), hyr _ (by omega)]) ⟨vp_in_nI (by omega) (by decide), nm_r (e' := vp_updL yq s (fd_l (w (s + d)))) (by rw [nI_clamp (by omega)]) ?_⟩⟩
    refine ys_dm71 hp hp7 (by omega) (hw (s + d)) hyr hw htd hu (fun t ht => ih t _ (fd_wm p w u (w (s + d)) s d) (fd_qs q (w (s + d)) s) (by omega) ht (fun k hk => ?_) (fd_wm_rd (by omega) hw) (fun k => ?_) (fun j hj => ?_) (fun j hj => ?_) (fun j hj => ?_) (fd_wm_cg huL (hq0 s (by omega)) hc))
    · simp only [fd_qs]
      by_cases hks : k = s
      · rw [if_pos hks, hks, fd_uLs]
      · rw [if_neg hks, fd_uLn hks, hyq k hk]
    · simp only [fd_qs]
      by_cases hks : k = s
      · rw [if_pos hks]; exact hw _
      · rw [if_neg hks]; exact hq k
    · simp only [fd_qs]; rw [if_neg (by omega)]; exact hq0 j (by omega)
    · simp only [fd_qs]; rw [if_neg (by omega)]; exact hqL j hj
    · simp only [fd_wm]
      by_cases ej : j = s + d
      · rw [ej, if_pos (by omega)]
        have e2 : s + d - s = d := by omega
        rw [e2, hu1]
        have e3 : w (s + d) + (p - w (s + d)) * 1 = p := by omega
        rw [e3, Int.emod_self]
      · rw [if_neg (by omega)]; exact hw0 j (by omega)
theorem ys_divMod {post : Int32 → SY → Prop} {cn ot : Int32} {rg : Nat → Int32} {md wh td yr yq pt kp : Nat → Int64} {dg : Nat → Int32} {f u : Nat → Int} {d p : Nat} (hp : 2 ≤ p) (hp7 : p ≤ 7) (hd : d < 6) (huL : fd_L u d) (hu1 : u d = 1) (hu : ∀ i, 0 ≤ u i ∧ u i ≤ 6) (htd : fd_R td u) (hwh : fd_R wh f) (hf : fd_rd p f) (hL : fd_L f 5)
    (H1 : ∀ q yr yq, fd_MQ p u f q → fd_R yq q → post 1 (cn, ot, rg, md, wh, td, yr, yq, pt, kp, dg))
    (H0 : ¬ fd_mdv p u f → ∀ yr yq, post 0 (cn, ot, rg, md, wh, td, yr, yq, pt, kp, dg)) : wpY_dividesModulo post (cn, ot, rg, md, wh, td, yr, yq, pt, kp, dg) (nI d) (fd_l (p : Int)) := by
  refine fd_fill2 (fun n x a b => wY_dividesModulo_3 post (nI d) (fd_l (p : Int)) cn ot n x rg md wh td a b pt kp dg) 6 wh (fun _ => 0) yr yq (fun n a b h1 h2 => ?_) (fun n i a b hi hW => ?_)
  · refine br_t (nI_le (Nat.le_refl 6) (by decide)) (nm_r (e' := nI (6 - d) + (-1)) ?_ ⟨6 - d + 1, ?_⟩)
    · have e6 : 6 - d = (5 - d) + 1 := by omega
      rw [e6, fd_m1]; exact fd_isub (a := 5) (by omega)
    · refine ys_dm43 hp hp7 hd huL hu1 hu htd H1 H0 (6 - d) a b f fd_z (by omega) (fun i hi => by rw [h1 i hi, hwh i hi]) (fun i hi => by rw [h2 i hi]; exact fd_l_0.symm) hf (fun i => ⟨Int.le_refl 0, by show (0 : Int) < p; omega⟩) (fun _ _ => rfl) (fun _ _ => rfl) (fun j hj => hL j (by omega)) (fun i => ?_)
      rw [fd_mul_z]
      exact ⟨0, by simp [fd_add, fd_z]⟩
  · exact br_f (nI_ge (b := 6) hi (by decide)) ⟨vp_in_nI hi (by decide), vp_in_nI hi (by decide), nm_r (by rw [nI_clamp (by omega)]) ⟨vp_in_nI hi (by decide), nm_r (by rw [nI_clamp (by omega)]) (nm_r (nI_1 i) hW)⟩⟩
def fd_DG (dg : Nat → Int32) (L : List (Nat → Int)) : Prop := ∀ k, k < L.length → ∃ d, fd_D (L.getD k fd_z) d ∧ dg k = nI d
theorem fd_DG_snoc {dg : Nat → Int32} {L : List (Nat → Int)} {g : Nat → Int} {d : Nat} (h : fd_DG dg L) (hD : fd_D g d) : fd_DG (upd dg L.length (nI d)) (L ++ [g]) := by
  intro k hk
  rw [List.length_append, List.length_singleton] at hk
  by_cases e : k = L.length
  · refine ⟨d, ?_, ?_⟩
    · rw [e, fd_getD_r]; exact hD
    · rw [e, fd_us]
  · obtain ⟨d', h1, h2⟩ := h k (by omega)
    refine ⟨d', ?_, ?_⟩
    · rw [fd_getD_l (by omega)]; exact h1
    · rw [fd_un e]; exact h2
section
variable {post : Int32 → SY → Prop} {cn ot : Int32} {rg : Nat → Int32} {md kp pt : Nat → Int64}
theorem ys_sm125 {J : Int32 → Int32 → Int32 → Int32 → (Nat → Int32) → (Nat → Int64) → (Nat → Int64) → (Nat → Int64) → (Nat → Int64) → (Nat → Int64) → (Nat → Int64) → (Nat → Int64) → (Nat → Int32) → Prop} {td : Nat → Int64} {u : Nat → Int} {d p bc : Nat} (hp : 2 ≤ p) (hp7 : p ≤ 7) (hd1 : 1 ≤ d) (hd : d ≤ 2) (huL : fd_L u d) (hu1 : u d = 1) (hu : ∀ i, 0 ≤ u i ∧ u i ≤ 6) (htd : fd_R td u) {S : fd_MS}
    (H : ∀ wh yr yq dg, fd_MI p S → fd_R wh S.1 → fd_DG dg S.2 → J (nI S.2.length) (nI (bc + 1)) cn ot rg md wh td yr yq pt kp dg) : ∀ (j k : Nat) (s : fd_MS) (wh yr yq : Nat → Int64) (dg : Nat → Int32), k + j = 5 → fd_MI p s → fd_R wh s.1 → fd_DG dg s.2 → fd_mi p u j s = S → wY_splitModulo_125 post J (nI p) (nI bc) (nI d) (j + 1) (nI s.2.length) (nI k) cn ot rg md wh td yr yq pt kp dg := by
  have huB : fd_B u 6 := fun i => by have := hu i; omega
  intro j
  induction j with
  | zero =>
    intro k s wh yr yq dg hk hI hwh hdg e
    have e5 : k = 5 := by omega
    subst e5
    rw [fd_mi] at e
    subst e
    exact br_t (nI_le (a := 5) (b := 5) (Nat.le_refl 5) (by decide)) (nm_r (nI_1 bc) (H wh yr yq dg hI hwh hdg))
  | succ j ih =>
    intro k s wh yr yq dg hk hI hwh hdg e
    obtain ⟨i1, i2, ⟨e0, he0, hle⟩, i4⟩ := id hI
    have hB : fd_B s.1 6 := fun i => by have := i1 i; omega
    refine br_f (nI_ge (b := 5) (by omega) (by decide)) (ys_top hwh hB (by decide) i2 (fun z => absurd z (fd_D_nz he0)) (fun t ht hDt => br_c (fun z => ?_) (fun z => ?_)))
    · have hlt : t < d := (nI_ltI (by omega) (by omega)).mp z
      have hn : ¬ fd_mdv p u s.1 := fun hm => by
        obtain ⟨q, hq⟩ := hm
        obtain ⟨e', _, hf⟩ := fd_MQ_deg (by omega) huL hu1 i1 (fd_D_nz hDt) hq
        have := fd_D_u hDt hf
        omega
      rw [fd_mi, fd_ms_no hn] at e
      exact nm_r (nI_1 k) (ih (k + 1) s wh yr yq dg (by omega) hI hwh hdg e)
    · rw [fd_l64n p (by omega)]
      refine ys_divMod hp hp7 (by omega) huL hu1 hu htd hwh i1 i2 (fun q yr1 yq1 hq hyq => ?_) (fun hn yr1 yq1 => ?_)
      · dsimp only
        have hI2 := fd_MI_ms (by omega) hd1 (by omega) huL hu1 huB hI
        rw [fd_mi] at e
        rw [fd_ms_yes huL hu1 hq] at e hI2
        have hlen : s.2.length < 5 := by
          obtain ⟨_, _, ⟨e', _, hle'⟩, _⟩ := hI2
          have hle2 : (s.2 ++ [u]).length + e' ≤ 5 := hle'
          rw [List.length_append, List.length_singleton] at hle2
          omega
        have el : (s.2 ++ [u]).length = s.2.length + 1 := by rw [List.length_append, List.length_singleton]
        have hDu : fd_D u d := ⟨by rw [hu1]; decide, huL⟩
        refine br_f (by decide) ⟨vp_in_nI hlen (by decide), nm_r (e' := upd dg s.2.length (nI d)) (by rw [nI_clamp (by omega)]) (nm_r (nI_1 _) ?_)⟩
        refine fd_fill (fun n x w => wY_splitModulo_165 post J (wY_splitModulo_125 post J (nI p) (nI bc) (nI d) (j + 1)) (nI p) (nI (s.2.length + 1)) (nI bc) (nI d) (nI k) cn ot n x rg md w td yr1 yq1 pt kp (upd dg s.2.length (nI d))) 6 0 yq1 wh (fun n w h1 _ => ?_) (fun n i w hi _ hW => ?_)
        · refine br_t (nI_le (Nat.le_refl 6) (by decide)) (nm_r (nI_1 k) ?_)
          have h := ih (k + 1) (q, s.2 ++ [u]) w yr1 yq1 (upd dg s.2.length (nI d)) (by omega) hI2 (fun i hi => by have := h1 i hi; rw [Nat.zero_add] at this; rw [this, hyq i hi]) (fd_DG_snoc hdg hDu) e
          rw [← el]
          exact h
        · exact br_f (nI_ge (b := 6) hi (by decide)) ⟨vp_in_nI hi (by decide), vp_in_nI hi (by decide), nm_r (by rw [nI_clamp (by omega), Nat.zero_add]) (nm_r (nI_1 i) hW)⟩
      · dsimp only
        rw [fd_mi, fd_ms_no hn] at e
        exact br_t rfl (nm_r (nI_1 k) (ih (k + 1) s wh yr1 yq1 dg (by omega) hI hwh hdg e))
theorem fd_mu_nn {p bc : Nat} (hp2 : 2 ≤ p) (hp7 : p ≤ 7) (hbc : bc < p * p + p) (i : Nat) : 0 ≤ fd_mu p bc i ∧ fd_mu p bc i ≤ 6 := by
  obtain ⟨_, _, h3⟩ := fd_mu_ok hp2 hp7 hbc
  have h4 := h3 i
  have h5 : 0 ≤ fd_mu p bc i := by
    unfold fd_mu
    by_cases h : bc < p
    · rw [if_pos h]
      match i with
      | 0 => rw [fd_q_0]; omega
      | 1 => rw [fd_q_1]; decide
      | (n + 2) => rw [fd_q_L1 _ _ (n + 2) (by omega)]; decide
    · rw [if_neg h]
      match i with
      | 0 => rw [fd_q_0]; exact Int.natCast_nonneg _
      | 1 => rw [fd_q_1]; exact Int.natCast_nonneg _
      | 2 => rw [fd_q_2]; decide
      | (n + 3) => rw [fd_q_L _ _ _ (n + 3) (by omega)]; decide
  omega
theorem ys_sm62 {p : Nat} (hp : 2 ≤ p) (hp7 : p ≤ 7) (f : Nat → Int)
    (H : ∀ L wh td yr yq dg, fd_ML p f L → fd_MB L → fd_DG dg L → post (nI L.length) (cn, ot, rg, md, wh, td, yr, yq, pt, kp, dg)) : ∀ (n bc : Nat) (wh td yr yq : Nat → Int64) (dg : Nat → Int32), bc + n = p * p + p → fd_MI p (fd_mz p (f, []) bc) → fd_R wh (fd_mz p (f, []) bc).1 → fd_DG dg (fd_mz p (f, []) bc).2 → wY_splitModulo_62 post (nI p) (n + 1) (nI (fd_mz p (f, []) bc).2.length) (nI bc) cn ot rg md wh td yr yq pt kp dg := by
  have hpp : p * p ≤ 49 := Nat.mul_le_mul hp7 hp7
  have ep : nI p * nI p + nI p = nI (p * p + p) := by
    rw [← nI_add]; congr 1; exact (Int32.ofNat_mul p p).symm
  intro n
  induction n with
  | zero =>
    intro bc wh td yr yq dg hbc hI hwh hdg
    have e : bc = p * p + p := by omega
    subst e
    obtain ⟨i1, i2, ⟨e, he', hle⟩, i4⟩ := hI
    have hB : fd_B (fd_mz p (f, []) (p * p + p)).1 6 := fun i => by have := i1 i; omega
    refine br_t (by rw [ep]; exact nI_le (Nat.le_refl _) (by omega)) (ys_top hwh hB (by decide) i2 (fun z => absurd z (fd_D_nz he')) (fun d hd hD => ?_))
    have ee := fd_D_u hD he'
    subst ee
    by_cases h0 : d = 0
    · subst h0
      exact br_t (nI_le (a := 0) (b := 0) (Nat.le_refl 0) (by decide)) (H _ wh td yr yq dg ⟨0, hD, fun _ => rfl, fun h => absurd h (by decide)⟩ ⟨by omega, i4⟩ hdg)
    · refine br_f (nI_nle (by omega) (by omega)) (ys_top hwh hB (by decide) i2 (fun z => absurd z (fd_D_nz hD)) (fun d2 hd2 hD2 => ?_))
      have ee := fd_D_u hD2 hD
      subst ee
      have hl : ((fd_mz p (f, []) (p * p + p)).2 ++ [(fd_mz p (f, []) (p * p + p)).1]).length = (fd_mz p (f, []) (p * p + p)).2.length + 1 := by rw [List.length_append, List.length_singleton]
      refine ⟨vp_in_nI (by omega) (by decide), nm_r (e' := upd dg (fd_mz p (f, []) (p * p + p)).2.length (nI d2)) (by rw [nI_clamp (by omega)]) (nm_r (nI_1 _) ?_)⟩
      have h := H ((fd_mz p (f, []) (p * p + p)).2 ++ [(fd_mz p (f, []) (p * p + p)).1]) wh td yr yq (upd dg (fd_mz p (f, []) (p * p + p)).2.length (nI d2)) ⟨d2, hD, fun h => absurd h h0, fun _ => rfl⟩ ⟨by omega, fun g hg => ?_⟩ (fd_DG_snoc hdg hD)
      · rw [hl] at h; exact h
      · rcases List.mem_append.mp hg with h | h
        · exact i4 g h
        · rw [List.mem_singleton.mp h]; exact ⟨d2, hD, by omega, hB⟩
  | succ n ih =>
    intro bc wh td yr yq dg hbc hI hwh hdg
    have hlt : bc < p * p + p := by omega
    obtain ⟨u1, u2, u3⟩ := fd_mu_ok hp hp7 hlt
    have unn := fd_mu_nn hp hp7 hlt
    have hnp : ¬ nI p = 0 := nI_ne0 (by omega) (by omega)
    have erem : (nI bc - nI bc / nI p * nI p).toInt64 = fd_l ((bc % p : Nat) : Int) := by
      have := Nat.mod_lt bc (by omega : p > 0)
      rw [fd_nrem (by omega) hp7, fd_l64n _ (by omega)]
    refine br_f (by rw [ep]; exact nI_ge hlt (by omega)) ?_
    by_cases hb : bc < p
    · have em : fd_mu p bc = fd_q 0 1 ((bc % p : Nat) : Int) := by rw [(fd_mu_lin hb).1, Nat.mod_eq_of_lt hb]
      rw [(fd_mu_lin hb).2] at u1 u2
      refine br_f (nI_ge hb (by omega)) ⟨hnp, br_t rfl ?_⟩
      unfold wY_splitModulo_108
      refine br_t rfl ?_
      unfold wY_splitModulo_119
      rw [erem]
      have h := ys_give (post := fun u => match u with | (f1, f2, f3, f4, f5, f6, f7, f8, f9, f10, f11) => ∃ n125 : Nat, wY_splitModulo_125 post (wY_splitModulo_62 post (nI p) (n + 1)) (nI p) (nI bc) 1 n125 (nI (fd_mz p (f, []) bc).2.length) 0 f1 f2 f3 f4 f5 f6 f7 f8 f9 f10 f11) (cn := cn) (ot := ot) (rg := rg) (md := md) (wh := wh) (td := td) (yr := yr) (yq := yq) (pt := pt) (kp := kp) (dg := dg) (t := 0) (m := 1) (l := ((bc % p : Nat) : Int)) (fun td1 htd => ?_)
      · exact h
      · dsimp only
        rw [← em] at htd
        exact ⟨6, ys_sm125 hp hp7 (Nat.le_refl 1) (by decide) u1 u2 unn htd (S := fd_mz p (f, []) (bc + 1)) (fun wh yr yq dg hI hwh hdg => ih (bc + 1) wh td1 yr yq dg (by omega) hI hwh hdg) 5 0 _ wh yr yq dg (by omega) hI hwh hdg rfl⟩
    · have em : fd_mu p bc = fd_q 1 (((bc - p) / p : Nat) : Int) ((bc % p : Nat) : Int) := by unfold fd_mu; rw [if_neg hb]
      have ed : fd_md p bc = 2 := by unfold fd_md; rw [if_neg hb]
      rw [ed] at u1 u2
      have ediv : ((nI bc - nI p) / nI p).toInt64 = fd_l (((bc - p) / p : Nat) : Int) := by
        have := Nat.div_le_self (bc - p) p
        rw [fd_isub (by omega), fd_ndiv (by omega) hp7, fd_l64n _ (by omega)]
      refine br_t (nI_le (by omega) (by omega)) ⟨hnp, br_f (by decide) ⟨hnp, ?_⟩⟩
      unfold wY_splitModulo_108
      refine br_f (by decide) ?_
      unfold wY_splitModulo_119
      rw [erem, ediv]
      have h := ys_give (post := fun u => match u with | (f1, f2, f3, f4, f5, f6, f7, f8, f9, f10, f11) => ∃ n125 : Nat, wY_splitModulo_125 post (wY_splitModulo_62 post (nI p) (n + 1)) (nI p) (nI bc) 2 n125 (nI (fd_mz p (f, []) bc).2.length) 0 f1 f2 f3 f4 f5 f6 f7 f8 f9 f10 f11) (cn := cn) (ot := ot) (rg := rg) (md := md) (wh := wh) (td := td) (yr := yr) (yq := yq) (pt := pt) (kp := kp) (dg := dg) (t := 1) (m := (((bc - p) / p : Nat) : Int)) (l := ((bc % p : Nat) : Int)) (fun td1 htd => ?_)
      · exact h
      · dsimp only
        rw [← em] at htd
        exact ⟨6, ys_sm125 hp hp7 (by decide) (Nat.le_refl 2) u1 u2 unn htd (S := fd_mz p (f, []) (bc + 1)) (fun wh yr yq dg hI hwh hdg => ih (bc + 1) wh td1 yr yq dg (by omega) hI hwh hdg) 5 0 _ wh yr yq dg (by omega) hI hwh hdg rfl⟩
theorem ys_splitMod {wh td yr yq : Nat → Int64} {dg : Nat → Int32} {r p : Nat} (hr : r < 4) (hok : fd_ok rg) (hp : 2 ≤ p) (hp7 : p ≤ 7)
    (H0 : fd_red p (fd_reg rg r) = fd_z → ∀ wh, post (-1) (cn, ot, rg, md, wh, td, yr, yq, pt, kp, dg))
    (H1 : fd_red p (fd_reg rg r) ≠ fd_z → ∀ L wh td yr yq dg, fd_ML p (fd_red p (fd_reg rg r)) L → fd_MB L → fd_DG dg L → post (nI L.length) (cn, ot, rg, md, wh, td, yr, yq, pt, kp, dg)) : wpY_splitModulo post (cn, ot, rg, md, wh, td, yr, yq, pt, kp, dg) (nI r) (nI p) := by
  have h0 := fd_reg_H0 hok hr
  refine fd_fill (fun n x t => wY_splitModulo_2 post (nI r) (nI p) cn ot n x rg md t td yr yq pt kp dg) 6 0 (fun i => fd_l (fd_red p (fd_reg rg r) i)) wh (fun n t h1 _ => ?_) (fun n i t hi _ hW => ?_)
  · have hwh : fd_R t (fd_red p (fd_reg rg r)) := fun i hi => by have := h1 i hi; rwa [Nat.zero_add] at this
    have hB : fd_B (fd_red p (fd_reg rg r)) 7 := fun i => by have := fd_red_rd (by omega : (0 : Int) < p) (fd_reg rg r) i; omega
    refine br_t (nI_le (Nat.le_refl 6) (by decide)) (ys_top hwh hB (by decide) (fd_red_L h0.2) (fun hz => br_f (by decide) (H0 hz t)) (fun d hd hD => br_t (nI_pos' (by omega)) ⟨p * p + p + 1, ?_⟩))
    have hz := fd_D_nz hD
    exact ys_sm62 hp hp7 (fd_red p (fd_reg rg r)) (fun L wh td yr yq dg k1 k2 k3 => H1 hz L wh td yr yq dg k1 k2 k3) (p * p + p) 0 t td yr yq dg (by omega) (fd_MI_0 hp h0.2 hz) hwh (fun k hk => absurd hk (Nat.not_lt_zero k))
  · refine br_f (nI_ge (b := 6) hi (by decide)) ⟨by rw [fd_ixZ]; exact vp_in_nI (by omega) (by decide), br_t (nI_le (a := 1) (by omega) (by omega)) ⟨nI_ne0 (by omega) (by omega), vp_in_nI hi (by decide), nm_r ?_ (nm_r (nI_1 i) hW)⟩⟩
    have hb := h0.1 i
    have e21 : (21 : Int32) * nI p = fd_i (21 * (p : Int)) := by
      rw [← fd_i_nat]; exact fd_i_mul 21 p
    have hk : fd_k (fd_reg rg r i + 21 * (p : Int)) := fd_k_lit (by omega)
    have hpk : fd_k (p : Int) := fd_k_lit (by omega)
    have hlt := Int.emod_lt_of_pos (fd_reg rg r i) (by omega : (0 : Int) < p)
    have hnn := Int.emod_nonneg (fd_reg rg r i) (by omega : (p : Int) ≠ 0)
    rw [fd_ixZ, nI_clamp (by omega), nI_clamp (by omega), fd_regX rg r hi, e21, fd_i_add, ← fd_i_nat p, fd_i_rem hk hpk, Int.tmod_eq_emod_of_nonneg (by omega), Int.add_mul_emod_self_right, fd_i_l (fd_k_lit (by omega)), Nat.zero_add]
    rfl
end
theorem i_vc_factorsModulo {k : Nat} {u : SX} {v : SY} (I : i_Rel k u v) (hk : k + 5 ≤ 2560) (v1 : Int32) (v2 : Int32) : wpX_factorsModulo (fun r u' => wpY_factorsModulo (fun r' v' => r' = r ∧ i_Rel (k + 5) u' v') v v1 v2) u v1 v2 := by
  obtain ⟨fc, he, re, op, qu, rs, wk, fo⟩ := u
  obtain ⟨cn, ot, rg, md, wh, td, yr, yq, pt, kp, dg⟩ := v
  obtain ⟨e, hok⟩ := I
  dsimp only at e hok
  subst e
  unfold wpX_factorsModulo wpY_factorsModulo
  dsimp only
  rcases fd_r4 v1 with ⟨r, hr, e⟩ | h1
  · subst e
    refine xs_reg hr (br_f (by decide) (fd_mod4 (fun p hp ep => br_f (by decide) ?_) (fun h2 h3 h5 h7 => br_t rfl (ys_isRegister hr (br_f (by decide) (ys_nprime h2 h3 h5 h7 (br_t rfl ⟨rfl, rfl, hok⟩)))))))
    subst ep
    refine xs_findMod hr hok (by omega) (by omega) (fun hz fc rs => ?_) (fun hz L op qu rs wk fo hML hMB hfo => ?_)
    · dsimp only
      refine br_t rfl (ys_isRegister hr (br_f (by decide) (ys_prime hp (br_f (by decide) (ys_splitMod hr hok (by omega) (by omega) (fun _ wh => ?_) (fun hn => absurd hz hn))))))
      dsimp only
      exact br_f (by decide) ⟨rfl, rfl, hok⟩
    · dsimp only
      refine br_f (by decide) (ys_isRegister hr (br_f (by decide) (ys_prime hp (br_f (by decide) (ys_splitMod hr hok (by omega) (by omega) (fun h => absurd h hz) (fun _ L' wh td yr yq dg hML' hMB' hdg => ?_))))))
      dsimp only
      rw [fd_ML_u hML hML']
      exact br_t (nI_pos' (by have := hMB'.1; omega)) ⟨rfl, rfl, hok⟩
  · exact xs_nreg h1 (br_t rfl (ys_nreg h1 (br_t rfl ⟨rfl, rfl, hok⟩)))
theorem i_vc_degreeModulo {k : Nat} {u : SX} {v : SY} (I : i_Rel k u v) (hk : k + 5 ≤ 2560) (v1 : Int32) (v2 : Int32) (v3 : Int32) : wpX_degreeModulo (fun r u' => wpY_degreeModulo (fun r' v' => r' = r ∧ i_Rel (k + 5) u' v') v v1 v2 v3) u v1 v2 v3 := by
  obtain ⟨fc, he, re, op, qu, rs, wk, fo⟩ := u
  obtain ⟨cn, ot, rg, md, wh, td, yr, yq, pt, kp, dg⟩ := v
  obtain ⟨e, hok⟩ := I
  dsimp only at e hok
  subst e
  unfold wpX_degreeModulo wpY_degreeModulo
  dsimp only
  rcases fd_r4 v1 with ⟨r, hr, e⟩ | h1
  · subst e
    refine xs_reg hr (br_f (by decide) (fd_mod4 (fun p hp ep => br_f (by decide) ?_) (fun h2 h3 h5 h7 => br_t rfl (ys_isRegister hr (br_f (by decide) (ys_nprime h2 h3 h5 h7 (br_t rfl ⟨rfl, rfl, hok⟩)))))))
    subst ep
    refine xs_findMod hr hok (by omega) (by omega) (fun hz fc rs => ?_) (fun hz L op qu rs wk fo hML hMB hfo => ?_)
    · dsimp only
      refine br_t rfl (ys_isRegister hr (br_f (by decide) (ys_prime hp (br_f (by decide) (ys_splitMod hr hok (by omega) (by omega) (fun _ wh => ?_) (fun hn => absurd hz hn))))))
      dsimp only
      refine br_c (fun _ => ⟨rfl, rfl, hok⟩) (fun z => br_t ?_ ⟨rfl, rfl, hok⟩)
      obtain ⟨j, hj, e⟩ := nI_of z
      rw [e, Int32.le_iff_toInt_le, nI_toInt hj]
      have : (-1 : Int32).toInt = -1 := by decide
      rw [this]; omega
    · dsimp only
      have hlen := hMB.1
      refine br_f (by decide) (br_c (fun z => ?_) (fun z => br_c (fun w => ?_) (fun w => ?_)))
      · refine ys_isRegister hr (br_f (by decide) (ys_prime hp (br_f (by decide) (ys_splitMod hr hok (by omega) (by omega) (fun h => absurd h hz) (fun _ L' wh td yr yq dg hML' hMB' hdg => ?_)))))
        dsimp only
        exact br_t z ⟨rfl, rfl, hok⟩
      · obtain ⟨j, hj, e⟩ := nI_of z
        subst e
        have hjL : j < L.length := (nI_ltI hj (by omega)).mp w
        obtain ⟨d, hD, hd5, hB⟩ := hMB.2 _ (fd_getD_mem hjL)
        refine xs_loadFound_result (by omega) (fun re1 hre => ?_)
        dsimp only
        refine xs_deg_result (f := L.getD j fd_z) (fun i hi => by rw [hre i hi]; exact hfo j hjL i hi) hB (by decide) (fd_L_mono hD.2 hd5) (fun hz' => absurd hz' (fd_D_nz hD)) (fun d' hd' hD' => ?_)
        refine ys_isRegister hr (br_f (by decide) (ys_prime hp (br_f (by decide) (ys_splitMod hr hok (by omega) (by omega) (fun h => absurd h hz) (fun _ L' wh td yr yq dg hML' hMB' hdg => ?_)))))
        dsimp only
        have eL := fd_ML_u hML hML'
        subst eL
        obtain ⟨d2, hD2, e2⟩ := hdg j hjL
        refine br_f z (br_f (nI_ge hjL (by omega)) ⟨vp_in_nI (by omega) (by decide), ?_, rfl, hok⟩)
        rw [nI_clamp hj, e2, fd_D_u hD2 hD']
      · refine ys_isRegister hr (br_f (by decide) (ys_prime hp (br_f (by decide) (ys_splitMod hr hok (by omega) (by omega) (fun h => absurd h hz) (fun _ L' wh td yr yq dg hML' hMB' hdg => ?_)))))
        dsimp only
        have eL := fd_ML_u hML hML'
        subst eL
        refine br_f z (br_t ?_ ⟨rfl, rfl, hok⟩)
        exact Int32.not_lt.mp w
  · exact xs_nreg h1 (br_t rfl (ys_nreg h1 (br_t rfl ⟨rfl, rfl, hok⟩)))
end
