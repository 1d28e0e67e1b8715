section
/-! polynomials as coefficient functions -/
abbrev fd_P : Type := Nat → Int
def fd_mul : (Nat → Int) → (Nat → Int) → Nat → Int
  | f, g, 0 => f 0 * g 0
  | f, g, n + 1 => f 0 * g (n + 1) + fd_mul (fun i => f (i + 1)) g n
def fd_add (f g : Nat → Int) : Nat → Int := fun i => f i + g i
def fd_sub (f g : Nat → Int) : Nat → Int := fun i => f i - g i
def fd_sm (c : Int) (f : Nat → Int) : Nat → Int := fun i => c * f i
def fd_c (c : Int) : Nat → Int := fun i => if i = 0 then c else 0
def fd_z : Nat → Int := fun _ => 0
/-- c x^k -/
def fd_mo (c : Int) (k : Nat) : Nat → Int := fun i => if i = k then c else 0
theorem fd_mul_add_l (f f' g : Nat → Int) (n : Nat) : fd_mul (fun i => f i + f' i) g n = fd_mul f g n + fd_mul f' g n := by
  induction n generalizing f f' with
  | zero => simp only [fd_mul]; grind
  | succ n ih => simp only [fd_mul]; rw [ih (fun i => f (i + 1)) (fun i => f' (i + 1))]; grind
theorem fd_mul_sm_l (c : Int) (f g : Nat → Int) (n : Nat) : fd_mul (fun i => c * f i) g n = c * fd_mul f g n := by
  induction n generalizing f with
  | zero => simp only [fd_mul]; grind
  | succ n ih => simp only [fd_mul]; rw [ih (fun i => f (i + 1))]; grind
theorem fd_mul_succ_r (f g : Nat → Int) (n : Nat) : fd_mul f g (n + 1) = f (n + 1) * g 0 + fd_mul f (fun i => g (i + 1)) n := by
  induction n generalizing f with
  | zero => simp only [fd_mul]; grind
  | succ n ih =>
    rw [fd_mul, ih (fun i => f (i + 1))]
    conv => rhs; rw [fd_mul]
    grind
theorem fd_mul_comm' (f g : Nat → Int) (n : Nat) : fd_mul f g n = fd_mul g f n := by
  induction n generalizing f with
  | zero => simp only [fd_mul]; grind
  | succ n ih => rw [fd_mul_succ_r g f, fd_mul, ih]; grind
theorem fd_mul_comm (f g : Nat → Int) : fd_mul f g = fd_mul g f := funext (fd_mul_comm' f g)
theorem fd_mul_assoc' (f g h : Nat → Int) (n : Nat) : fd_mul (fd_mul f g) h n = fd_mul f (fd_mul g h) n := by
  induction n generalizing f with
  | zero => simp only [fd_mul]; grind
  | succ n ih =>
    have e : (fun i => fd_mul f g (i + 1)) = fun i => (fun j => f 0 * (fun k => g (k + 1)) j) i + (fd_mul (fun k => f (k + 1)) g) i := by
      funext i; simp only [fd_mul]
    rw [fd_mul, e, fd_mul_add_l, fd_mul_sm_l, ih]
    conv => rhs; rw [fd_mul, fd_mul]
    simp only [fd_mul]
    grind
theorem fd_mul_assoc (f g h : Nat → Int) : fd_mul (fd_mul f g) h = fd_mul f (fd_mul g h) := funext (fd_mul_assoc' f g h)
theorem fd_mul_left (f g h : Nat → Int) : fd_mul f (fd_mul g h) = fd_mul g (fd_mul f h) := by
  rw [← fd_mul_assoc, fd_mul_comm f g, fd_mul_assoc]
theorem fd_add_mul (f f' g : Nat → Int) : fd_mul (fd_add f f') g = fd_add (fd_mul f g) (fd_mul f' g) := funext (fd_mul_add_l f f' g)
theorem fd_sm_mul (c : Int) (f g : Nat → Int) : fd_mul (fd_sm c f) g = fd_sm c (fd_mul f g) := funext (fd_mul_sm_l c f g)
theorem fd_mul_add (f g g' : Nat → Int) : fd_mul f (fd_add g g') = fd_add (fd_mul f g) (fd_mul f g') := by
  rw [fd_mul_comm, fd_add_mul, fd_mul_comm g, fd_mul_comm g']
theorem fd_mul_sm (c : Int) (f g : Nat → Int) : fd_mul f (fd_sm c g) = fd_sm c (fd_mul f g) := by
  rw [fd_mul_comm, fd_sm_mul, fd_mul_comm g]
theorem fd_sub_eq (f g : Nat → Int) : fd_sub f g = fd_add f (fd_sm (-1) g) := by
  funext i; simp only [fd_sub, fd_add, fd_sm]; omega
theorem fd_mul_sub (f g g' : Nat → Int) : fd_mul f (fd_sub g g') = fd_sub (fd_mul f g) (fd_mul f g') := by
  rw [fd_sub_eq, fd_mul_add, fd_mul_sm, fd_sub_eq]
theorem fd_sub_mul (f f' g : Nat → Int) : fd_mul (fd_sub f f') g = fd_sub (fd_mul f g) (fd_mul f' g) := by
  rw [fd_mul_comm, fd_mul_sub, fd_mul_comm g, fd_mul_comm g]
theorem fd_mul_z' (f : Nat → Int) (n : Nat) : fd_mul f fd_z n = 0 := by
  induction n generalizing f with
  | zero => simp [fd_mul, fd_z]
  | succ n ih => simp [fd_mul, fd_z]; exact ih _
theorem fd_mul_z (f : Nat → Int) : fd_mul f fd_z = fd_z := funext (fd_mul_z' f)
theorem fd_z_mul (f : Nat → Int) : fd_mul fd_z f = fd_z := by rw [fd_mul_comm, fd_mul_z]
theorem fd_c_mul (c : Int) (f : Nat → Int) : fd_mul (fd_c c) f = fd_sm c f := by
  funext n
  cases n with
  | zero => simp [fd_mul, fd_c, fd_sm]
  | succ n =>
    have e : (fun i => fd_c c (i + 1)) = fd_z := by funext i; simp [fd_c, fd_z]
    rw [fd_mul, e, fd_z_mul]; simp [fd_c, fd_sm, fd_z]
theorem fd_mul_c (c : Int) (f : Nat → Int) : fd_mul f (fd_c c) = fd_sm c f := by rw [fd_mul_comm, fd_c_mul]
theorem fd_sm_1 (f : Nat → Int) : fd_sm 1 f = f := by funext i; simp [fd_sm]
theorem fd_sm_sm (a b : Int) (f : Nat → Int) : fd_sm a (fd_sm b f) = fd_sm (a * b) f := by funext i; simp only [fd_sm]; grind
theorem fd_mul_1 (f : Nat → Int) : fd_mul f (fd_c 1) = f := by rw [fd_mul_c, fd_sm_1]
theorem fd_1_mul (f : Nat → Int) : fd_mul (fd_c 1) f = f := by rw [fd_c_mul, fd_sm_1]
/-- a monomial times f -/
theorem fd_mo_mul (c : Int) (k : Nat) (f : Nat → Int) : fd_mul (fd_mo c k) f = fun i => if k ≤ i then c * f (i - k) else 0 := by
  induction k with
  | zero =>
    have e : fd_mo c 0 = fd_c c := rfl
    rw [e, fd_c_mul]; funext i; simp [fd_sm]
  | succ k ih =>
    have e : (fun i => fd_mo c (k + 1) (i + 1)) = fd_mo c k := by funext i; simp [fd_mo]
    funext i
    cases i with
    | zero => simp [fd_mul, fd_mo]
    | succ i => rw [fd_mul, e, ih]; simp [fd_mo]
/-! degrees -/
def fd_F (f : Nat → Int) : Prop := ∃ n, ∀ j, n ≤ j → f j = 0
def fd_L (f : Nat → Int) (d : Nat) : Prop := ∀ j, d < j → f j = 0
def fd_D (f : Nat → Int) (d : Nat) : Prop := f d ≠ 0 ∧ fd_L f d
theorem fd_L_F {f : Nat → Int} {d : Nat} (h : fd_L f d) : fd_F f := ⟨d + 1, fun j hj => h j (by omega)⟩
theorem fd_D_F {f : Nat → Int} {d : Nat} (h : fd_D f d) : fd_F f := fd_L_F h.2
theorem fd_F_L {f : Nat → Int} (h : fd_F f) : ∃ d, fd_L f d := h.elim fun n hn => ⟨n, fun j hj => hn j (by omega)⟩
theorem fd_D_u {f : Nat → Int} {a b : Nat} (h : fd_D f a) (h' : fd_D f b) : a = b := by
  rcases Nat.lt_trichotomy a b with h1 | h1 | h1
  · exact absurd (h.2 b h1) h'.1
  · exact h1
  · exact absurd (h'.2 a h1) h.1
theorem fd_D_nz {f : Nat → Int} {a : Nat} (h : fd_D f a) : f ≠ fd_z := fun e => h.1 (by rw [e]; rfl)
theorem fd_D_le {f : Nat → Int} {a b : Nat} (h : fd_D f a) (h' : fd_L f b) : a ≤ b :=
  Nat.le_of_not_lt fun h1 => h.1 (h' a h1)
theorem fd_L_mono {f : Nat → Int} {a b : Nat} (h : fd_L f a) (hab : a ≤ b) : fd_L f b := fun j hj => h j (by omega)
theorem fd_D_ex' (n : Nat) : ∀ f : Nat → Int, (∀ j, n ≤ j → f j = 0) → f ≠ fd_z → ∃ d, d < n ∧ fd_D f d := by
  induction n with
  | zero => intro f h hz; exact absurd (funext fun j => h j (Nat.zero_le j)) hz
  | succ n ih =>
    intro f h hz
    by_cases e : f n = 0
    · have h' : ∀ j, n ≤ j → f j = 0 := by
        intro j hj
        by_cases hjn : j = n
        · rw [hjn]; exact e
        · exact h j (by omega)
      obtain ⟨d, hd, hD⟩ := ih f h' hz
      exact ⟨d, by omega, hD⟩
    · exact ⟨n, by omega, e, fun j hj => h j (by omega)⟩
theorem fd_D_ex {f : Nat → Int} (h : fd_F f) (hz : f ≠ fd_z) : ∃ d, fd_D f d := by
  obtain ⟨n, hn⟩ := h
  obtain ⟨d, _, hd⟩ := fd_D_ex' n f hn hz
  exact ⟨d, hd⟩
theorem fd_D_exL {f : Nat → Int} {n : Nat} (h : fd_L f n) (hz : f ≠ fd_z) : ∃ d, d ≤ n ∧ fd_D f d := by
  obtain ⟨d, h1, h2⟩ := fd_D_ex' (n + 1) f (fun j hj => h j (by omega)) hz
  exact ⟨d, by omega, h2⟩
theorem fd_top (a : Nat) : ∀ (b : Nat) (f g : Nat → Int), fd_L f a → fd_L g b → fd_mul f g (a + b) = f a * g b ∧ fd_L (fd_mul f g) (a + b) := by
  induction a with
  | zero =>
    intro b f g hf hg
    have e : f = fd_c (f 0) := by
      funext i
      by_cases h : i = 0
      · simp [fd_c, h]
      · simp [fd_c, h]; exact hf i (by omega)
    rw [e, fd_c_mul]
    refine ⟨by simp [fd_sm, fd_c], fun j hj => ?_⟩
    simp only [fd_sm]; rw [hg j (by omega)]; simp
  | succ a ih =>
    intro b f g hf hg
    obtain ⟨h1, h2⟩ := ih b (fun i => f (i + 1)) g (fun j hj => hf (j + 1) (by omega)) hg
    refine ⟨?_, fun j hj => ?_⟩
    · have e : a + 1 + b = (a + b) + 1 := by omega
      rw [e, fd_mul, h1, hg (a + b + 1) (by omega)]; simp
    · cases j with
      | zero => omega
      | succ j => rw [fd_mul, h2 j (by omega), hg (j + 1) (by omega)]; simp
theorem fd_D_mul {f g : Nat → Int} {a b : Nat} (hf : fd_D f a) (hg : fd_D g b) : fd_D (fd_mul f g) (a + b) := by
  obtain ⟨h1, h2⟩ := fd_top a b f g hf.2 hg.2
  exact ⟨by rw [h1]; exact Int.mul_ne_zero hf.1 hg.1, h2⟩
theorem fd_F_mul {f g : Nat → Int} (hf : fd_F f) (hg : fd_F g) : fd_F (fd_mul f g) := by
  obtain ⟨a, ha⟩ := fd_F_L hf
  obtain ⟨b, hb⟩ := fd_F_L hg
  exact fd_L_F (fd_top a b f g ha hb).2
theorem fd_F_add {f g : Nat → Int} (hf : fd_F f) (hg : fd_F g) : fd_F (fd_add f g) := by
  obtain ⟨a, ha⟩ := hf
  obtain ⟨b, hb⟩ := hg
  exact ⟨a + b, fun j hj => by simp only [fd_add]; rw [ha j (by omega), hb j (by omega)]; rfl⟩
theorem fd_F_sm {f : Nat → Int} (c : Int) (hf : fd_F f) : fd_F (fd_sm c f) := by
  obtain ⟨a, ha⟩ := hf
  exact ⟨a, fun j hj => by simp only [fd_sm]; rw [ha j hj]; simp⟩
theorem fd_F_sub {f g : Nat → Int} (hf : fd_F f) (hg : fd_F g) : fd_F (fd_sub f g) := by
  rw [fd_sub_eq]; exact fd_F_add hf (fd_F_sm _ hg)
theorem fd_F_z : fd_F fd_z := ⟨0, fun _ _ => rfl⟩
theorem fd_F_c (c : Int) : fd_F (fd_c c) := ⟨1, fun j hj => by simp only [fd_c]; rw [if_neg (by omega)]⟩
theorem fd_F_mo (c : Int) (k : Nat) : fd_F (fd_mo c k) := ⟨k + 1, fun j hj => by simp only [fd_mo]; rw [if_neg (by omega)]⟩
theorem fd_dom {f g : Nat → Int} (hf : fd_F f) (hg : fd_F g) (h : fd_mul f g = fd_z) : f = fd_z ∨ g = fd_z := by
  by_cases ef : f = fd_z
  · exact Or.inl ef
  · by_cases eg : g = fd_z
    · exact Or.inr eg
    · obtain ⟨a, ha⟩ := fd_D_ex hf ef
      obtain ⟨b, hb⟩ := fd_D_ex hg eg
      exact absurd h (fd_D_nz (fd_D_mul ha hb))
theorem fd_sub_z {f g : Nat → Int} (h : fd_sub f g = fd_z) : f = g := by
  funext i; have := congrFun h i; simp only [fd_sub, fd_z] at this; omega
theorem fd_sub_self (f : Nat → Int) : fd_sub f f = fd_z := by funext i; simp [fd_sub, fd_z]
theorem fd_cancel {g q q' : Nat → Int} (hg : fd_F g) (hz : g ≠ fd_z) (hq : fd_F q) (hq' : fd_F q') (h : fd_mul g q = fd_mul g q') : q = q' := by
  have e : fd_mul g (fd_sub q q') = fd_z := by rw [fd_mul_sub, h, fd_sub_self]
  rcases fd_dom hg (fd_F_sub hq hq') e with h1 | h1
  · exact absurd h1 hz
  · exact fd_sub_z h1
theorem fd_D_sm {f : Nat → Int} {d : Nat} {c : Int} (hc : c ≠ 0) (h : fd_D f d) : fd_D (fd_sm c f) d :=
  ⟨Int.mul_ne_zero hc h.1, fun j hj => by simp only [fd_sm]; rw [h.2 j hj]; simp⟩
theorem fd_sm_inj {c : Int} (hc : c ≠ 0) {f g : Nat → Int} (h : fd_sm c f = fd_sm c g) : f = g := by
  funext i; exact Int.eq_of_mul_eq_mul_left hc (congrFun h i)
theorem fd_L_sm {f : Nat → Int} {d : Nat} (c : Int) (h : fd_L f d) : fd_L (fd_sm c f) d := fun j hj => by
  simp only [fd_sm]; rw [h j hj]; simp
theorem fd_sm_z (c : Int) : fd_sm c fd_z = fd_z := by funext i; simp [fd_sm, fd_z]
theorem fd_D_c {c : Int} (h : c ≠ 0) : fd_D (fd_c c) 0 := ⟨by simpa [fd_c] using h, fun j hj => by simp only [fd_c]; rw [if_neg (by omega)]⟩
theorem fd_L0_c {f : Nat → Int} (h : fd_L f 0) : f = fd_c (f 0) := by
  funext i
  by_cases e : i = 0
  · simp [fd_c, e]
  · simp [fd_c, e]; exact h i (by omega)
/-- a product of degree d: the two degrees -/
theorem fd_D_split {u v p : Nat → Int} {d : Nat} (hu : fd_F u) (hv : fd_F v) (h : fd_mul u v = p) (hp : fd_D p d) : ∃ a b, fd_D u a ∧ fd_D v b ∧ a + b = d := by
  have zu : u ≠ fd_z := fun e => fd_D_nz hp (by rw [← h, e, fd_z_mul])
  have zv : v ≠ fd_z := fun e => fd_D_nz hp (by rw [← h, e, fd_mul_z])
  obtain ⟨a, ha⟩ := fd_D_ex hu zu
  obtain ⟨b, hb⟩ := fd_D_ex hv zv
  exact ⟨a, b, ha, hb, fd_D_u (by rw [← h]; exact fd_D_mul ha hb) hp⟩
end
section
/-! Gauss and Euclid -/
def fd_prime (q : Nat) : Prop := 1 < q ∧ ∀ a b : Int, (q : Int) ∣ a * b → (q : Int) ∣ a ∨ (q : Int) ∣ b
theorem fd_least (P : Nat → Prop) : ∀ n, P n → ∃ m, P m ∧ ∀ k, k < m → ¬ P k := by
  intro n
  induction n using Nat.strongRecOn with
  | _ n ih =>
    intro h
    by_cases e : ∃ k, k < n ∧ P k
    · obtain ⟨k, hk, pk⟩ := e
      exact ih k hk pk
    · exact ⟨n, h, fun k hk pk => e ⟨k, hk, pk⟩⟩
theorem fd_prime_ex (n : Nat) (hn : 1 < n) : ∃ q, fd_prime q ∧ q ∣ n := by
  obtain ⟨q, ⟨h1, h2⟩, hm⟩ := fd_least (fun d => 1 < d ∧ d ∣ n) n ⟨hn, Nat.dvd_refl n⟩
  refine ⟨q, ⟨h1, fun a b hab => ?_⟩, h2⟩
  rw [Int.ofNat_dvd_left, Int.natAbs_mul] at hab
  have hg : Nat.gcd q a.natAbs ∣ q := Nat.gcd_dvd_left _ _
  by_cases e : Nat.gcd q a.natAbs = 1
  · right
    rw [Int.ofNat_dvd_left]
    exact Nat.Coprime.dvd_of_dvd_mul_left e hab
  · left
    have hpos : 0 < Nat.gcd q a.natAbs := Nat.gcd_pos_of_pos_left _ (by omega)
    have hle : Nat.gcd q a.natAbs ≤ q := Nat.le_of_dvd (by omega) hg
    have heq : Nat.gcd q a.natAbs = q := by
      rcases Nat.lt_or_ge (Nat.gcd q a.natAbs) q with h | h
      · exact absurd ⟨by omega, Nat.dvd_trans hg h2⟩ (hm _ h)
      · omega
    rw [Int.ofNat_dvd_left, ← heq]
    exact Nat.gcd_dvd_right _ _
theorem fd_dvd_mul_le (q : Int) (g : Nat → Int) (n : Nat) : ∀ f : Nat → Int, (∀ i, i ≤ n → q ∣ g i) → q ∣ fd_mul f g n := by
  induction n with
  | zero => intro f h; rw [fd_mul]; exact Int.dvd_mul_of_dvd_right (h 0 (Nat.le_refl 0))
  | succ n ih =>
    intro f h
    rw [fd_mul]
    exact Int.dvd_add (Int.dvd_mul_of_dvd_right (h (n + 1) (Nat.le_refl _))) (ih _ fun i hi => h i (by omega))
theorem fd_mod_ab (q : Int) (g : Nat → Int) (b : Nat) (hg : ∀ i, i < b → q ∣ g i) (a : Nat) : ∀ f : Nat → Int, (∀ i, i < a → q ∣ f i) → q ∣ fd_mul f g (a + b) - f a * g b := by
  induction a with
  | zero =>
    intro f _
    cases b with
    | zero => simp only [fd_mul]; exact ⟨0, by omega⟩
    | succ b =>
      have e : (0 : Nat) + (b + 1) = b + 1 := by omega
      rw [e, fd_mul]
      have h := fd_dvd_mul_le q g b (fun i => f (i + 1)) fun i hi => hg i (by omega)
      have e2 : f 0 * g (b + 1) + fd_mul (fun i => f (i + 1)) g b - f 0 * g (b + 1) = fd_mul (fun i => f (i + 1)) g b := by omega
      rw [e2]; exact h
  | succ a ih =>
    intro f hf
    have e : a + 1 + b = (a + b) + 1 := by omega
    rw [e, fd_mul]
    have h := ih (fun i => f (i + 1)) fun i hi => hf (i + 1) (by omega)
    have e2 : f 0 * g (a + b + 1) + fd_mul (fun i => f (i + 1)) g (a + b) - f (a + 1) * g b = f 0 * g (a + b + 1) + (fd_mul (fun i => f (i + 1)) g (a + b) - f (a + 1) * g b) := by omega
    rw [e2]
    exact Int.dvd_add (Int.dvd_mul_of_dvd_left (hf 0 (by omega))) h
theorem fd_gauss {q : Nat} (hq : fd_prime q) (f g : Nat → Int) (h : ∀ i, (q : Int) ∣ fd_mul f g i) : (∀ i, (q : Int) ∣ f i) ∨ (∀ i, (q : Int) ∣ g i) := by
  by_cases hf : ∀ i, (q : Int) ∣ f i
  · exact Or.inl hf
  · by_cases hg : ∀ i, (q : Int) ∣ g i
    · exact Or.inr hg
    · obtain ⟨i, hi⟩ := Classical.not_forall.mp hf
      obtain ⟨j, hj⟩ := Classical.not_forall.mp hg
      obtain ⟨a, ha, ma⟩ := fd_least (fun k => ¬ (q : Int) ∣ f k) i hi
      obtain ⟨b, hb, mb⟩ := fd_least (fun k => ¬ (q : Int) ∣ g k) j hj
      have h1 := fd_mod_ab q g b (fun k hk => Classical.not_not.mp (mb k hk)) a f (fun k hk => Classical.not_not.mp (ma k hk))
      have h2 : (q : Int) ∣ f a * g b := by
        have h3 := Int.dvd_sub (h (a + b)) h1
        have e : fd_mul f g (a + b) - (fd_mul f g (a + b) - f a * g b) = f a * g b := by omega
        rw [e] at h3; exact h3
      rcases hq.2 _ _ h2 with h3 | h3
      · exact absurd h3 ha
      · exact absurd h3 hb
/-- primitive -/
def fd_pr (f : Nat → Int) : Prop := ∀ m : Nat, (∀ i, (m : Int) ∣ f i) → m = 1
theorem fd_div_all {f : Nat → Int} {m : Int} (h : ∀ i, m ∣ f i) : ∃ f' : Nat → Int, f = fd_sm m f' := by
  refine ⟨fun i => f i / m, funext fun i => ?_⟩
  simp only [fd_sm]
  exact (Int.mul_ediv_cancel' (h i)).symm
theorem fd_F_of_sm {f : Nat → Int} {c : Int} (hc : c ≠ 0) (h : fd_F (fd_sm c f)) : fd_F f := by
  obtain ⟨n, hn⟩ := h
  refine ⟨n, fun j hj => ?_⟩
  have := hn j hj
  simp only [fd_sm] at this
  rcases Int.mul_eq_zero.mp this with h1 | h1
  · exact absurd h1 hc
  · exact h1
/-- n v = g w with g primitive: n divides w -/
theorem fd_cancel_int (k : Nat) : ∀ (n : Int) (g v w : Nat → Int), n.natAbs = k → n ≠ 0 → fd_pr g → fd_sm n v = fd_mul g w → ∃ w', w = fd_sm n w' ∧ v = fd_mul g w' := by
  induction k using Nat.strongRecOn with
  | _ k ih =>
    intro n g v w hk hn hg h
    by_cases h1 : k = 1
    · have hn1 : n = 1 ∨ n = -1 := by omega
      rcases hn1 with e | e
      · subst e
        exact ⟨w, (fd_sm_1 w).symm, by rw [fd_sm_1] at h; exact h⟩
      · subst e
        refine ⟨fd_sm (-1) w, ?_, ?_⟩
        · rw [fd_sm_sm]; exact (fd_sm_1 w).symm
        · rw [fd_mul_sm, ← h, fd_sm_sm]; exact (fd_sm_1 v).symm
    · obtain ⟨q, hq, hqk⟩ := fd_prime_ex k (by omega)
      have hqn : (q : Int) ∣ n := by rw [Int.ofNat_dvd_left, hk]; exact hqk
      obtain ⟨n', hn'⟩ := hqn
      have hall : ∀ i, (q : Int) ∣ fd_mul g w i := by
        intro i
        rw [← h]
        simp only [fd_sm, hn']
        exact ⟨n' * v i, by grind⟩
      rcases fd_gauss hq g w hall with h2 | h2
      · have := hg q h2
        have := hq.1
        omega
      · obtain ⟨w1, hw1⟩ := fd_div_all h2
        have hq0 : (q : Int) ≠ 0 := by have := hq.1; omega
        have hn0 : n' ≠ 0 := fun e => hn (by rw [hn', e]; simp)
        have e1 : fd_sm n' v = fd_mul g w1 := by
          apply fd_sm_inj hq0
          rw [fd_sm_sm, ← hn', h, hw1, fd_mul_sm]
        have hlt : n'.natAbs < k := by
          rw [← hk, hn', Int.natAbs_mul, Int.natAbs_natCast]
          have := hq.1
          have h3 : 0 < n'.natAbs := Int.natAbs_pos.mpr hn0
          have h4 : 1 * n'.natAbs < q * n'.natAbs := Nat.mul_lt_mul_of_pos_right this h3
          omega
        obtain ⟨w', h5, h6⟩ := ih _ hlt n' g v w1 rfl hn0 hg e1
        exact ⟨w', by rw [hw1, h5, fd_sm_sm, ← hn'], h6⟩
/-- every polynomial but 0 is a number times a primitive one -/
theorem fd_prim_ex (k : Nat) : ∀ (f : Nat → Int) (d : Nat), fd_D f d → (f d).natAbs = k → ∃ (c : Int) (f' : Nat → Int), c ≠ 0 ∧ fd_pr f' ∧ f = fd_sm c f' := by
  induction k using Nat.strongRecOn with
  | _ k ih =>
    intro f d hd hk
    by_cases hp : fd_pr f
    · exact ⟨1, f, by decide, hp, (fd_sm_1 f).symm⟩
    · obtain ⟨m, hm⟩ := Classical.not_forall.mp hp
      have hm1 : ∀ i, (m : Int) ∣ f i := Classical.byContradiction fun h => hm fun h' => absurd h' h
      have hm2 : m ≠ 1 := fun e => hm fun _ => e
      have hm0 : m ≠ 0 := by
        intro e
        have := hm1 d
        rw [e] at this
        exact hd.1 (Int.zero_dvd.mp this)
      obtain ⟨f1, hf1⟩ := fd_div_all hm1
      have hmI : (m : Int) ≠ 0 := by omega
      have hd1 : fd_D f1 d := by
        refine ⟨fun e => hd.1 ?_, fun j hj => ?_⟩
        · rw [hf1]; simp only [fd_sm]; rw [e]; simp
        · have := hd.2 j hj
          rw [hf1] at this
          simp only [fd_sm] at this
          rcases Int.mul_eq_zero.mp this with h1 | h1
          · exact absurd h1 hmI
          · exact h1
      have hlt : (f1 d).natAbs < k := by
        rw [← hk, hf1]
        simp only [fd_sm]
        rw [Int.natAbs_mul, Int.natAbs_natCast]
        have h3 : 0 < (f1 d).natAbs := Int.natAbs_pos.mpr hd1.1
        have h4 : 1 * (f1 d).natAbs < m * (f1 d).natAbs := Nat.mul_lt_mul_of_pos_right (by omega) h3
        omega
      obtain ⟨c, f', hc, hp', e⟩ := ih _ hlt f1 d hd1 rfl
      exact ⟨m * c, f', Int.mul_ne_zero hmI hc, hp', by rw [hf1, e, fd_sm_sm]⟩
/-- pseudo-division -/
theorem fd_pdiv {w : Nat → Int} {e : Nat} (hw : fd_D w e) (k : Nat) : ∀ f : Nat → Int, (∀ j, k ≤ j → f j = 0) → ∃ (n : Int) (q r : Nat → Int), n ≠ 0 ∧ fd_F q ∧ (∀ j, e ≤ j → r j = 0) ∧ fd_sm n f = fd_add (fd_mul q w) r := by
  induction k with
  | zero =>
    intro f hf
    refine ⟨1, fd_z, f, by decide, fd_F_z, fun j _ => hf j (Nat.zero_le j), ?_⟩
    rw [fd_z_mul]; funext i; simp [fd_sm, fd_add, fd_z]
  | succ k ih =>
    intro f hf
    by_cases hke : k < e
    · refine ⟨1, fd_z, f, by decide, fd_F_z, fun j hj => hf j (by omega), ?_⟩
      rw [fd_z_mul]; funext i; simp [fd_sm, fd_add, fd_z]
    · -- f1 = w_e f - f_k x^(k-e) w
      have h1 : ∀ j, k ≤ j → fd_sub (fd_sm (w e) f) (fd_mul (fd_mo (f k) (k - e)) w) j = 0 := by
        intro j hj
        rw [fd_mo_mul]
        simp only [fd_sub, fd_sm]
        rw [if_pos (by omega)]
        by_cases hjk : j = k
        · subst hjk
          have e2 : j - (j - e) = e := by omega
          rw [e2]; grind
        · rw [hf j (by omega), hw.2 (j - (k - e)) (by omega)]; simp
      obtain ⟨n, q, r, hn, hq, hr, heq⟩ := ih _ h1
      refine ⟨n * w e, fd_add (fd_sm n (fd_mo (f k) (k - e))) q, r, Int.mul_ne_zero hn hw.1, fd_F_add (fd_F_sm _ (fd_F_mo _ _)) hq, hr, ?_⟩
      rw [fd_add_mul, fd_sm_mul]
      funext i
      have := congrFun heq i
      simp only [fd_sm, fd_sub, fd_add] at this ⊢
      grind
def fd_dv (p f : Nat → Int) : Prop := ∃ q, fd_F q ∧ fd_mul p q = f
theorem fd_dv_refl (p : Nat → Int) : fd_dv p p := ⟨fd_c 1, fd_F_c 1, fd_mul_1 p⟩
theorem fd_dv_trans {a b c : Nat → Int} (h : fd_dv a b) (h' : fd_dv b c) : fd_dv a c := by
  obtain ⟨q, hq, e⟩ := h
  obtain ⟨r, hr, e'⟩ := h'
  exact ⟨fd_mul q r, fd_F_mul hq hr, by rw [← fd_mul_assoc, e, e']⟩
theorem fd_dv_mul_r {a b : Nat → Int} (c : Nat → Int) (hc : fd_F c) (h : fd_dv a b) : fd_dv a (fd_mul b c) :=
  fd_dv_trans h ⟨c, hc, rfl⟩
theorem fd_dv_mul_l {a b : Nat → Int} (c : Nat → Int) (hc : fd_F c) (h : fd_dv a b) : fd_dv a (fd_mul c b) := by
  rw [fd_mul_comm]; exact fd_dv_mul_r c hc h
theorem fd_dv_add {a b c : Nat → Int} (h : fd_dv a b) (h' : fd_dv a c) : fd_dv a (fd_add b c) := by
  obtain ⟨q, hq, e⟩ := h
  obtain ⟨r, hr, e'⟩ := h'
  exact ⟨fd_add q r, fd_F_add hq hr, by rw [fd_mul_add, e, e']⟩
theorem fd_dv_sm {a b : Nat → Int} (c : Int) (h : fd_dv a b) : fd_dv a (fd_sm c b) := by
  rw [← fd_mul_c]; exact fd_dv_mul_r _ (fd_F_c c) h
theorem fd_dv_z (a : Nat → Int) : fd_dv a fd_z := ⟨fd_z, fd_F_z, fd_mul_z a⟩
/-- a primitive divisor of n v divides v -/
theorem fd_dv_int {p v : Nat → Int} {n : Int} (hp : fd_pr p) (hn : n ≠ 0) (h : fd_dv p (fd_sm n v)) : fd_dv p v := by
  obtain ⟨q, hq, e⟩ := h
  obtain ⟨w', h1, h2⟩ := fd_cancel_int _ n p v q rfl hn hp e.symm
  exact ⟨w', fd_F_of_sm hn (by rw [← h1]; exact hq), h2.symm⟩
/-- irreducible: primitive, leading coefficient positive, degree at least 1, no proper product -/
def fd_Irr (p : Nat → Int) : Prop := fd_pr p ∧ (∃ d, 1 ≤ d ∧ fd_D p d ∧ 0 < p d) ∧ ∀ u v, fd_F u → fd_F v → fd_mul u v = p → fd_L u 0 ∨ fd_L v 0
theorem fd_euclid {p a b : Nat → Int} (hp : fd_Irr p) (ha : fd_F a) (_hb : fd_F b) (h : fd_dv p (fd_mul a b)) : fd_dv p a ∨ fd_dv p b := by
  obtain ⟨hpp, ⟨dp, hdp1, hdp, _⟩, hir⟩ := hp
  -- the least degree of what is not 0 in the ideal of p and a
  obtain ⟨e, ⟨w, hwe, s, t, hs, ht, hw⟩, hmin⟩ := fd_least (fun e => ∃ w, fd_D w e ∧ ∃ s t, fd_F s ∧ fd_F t ∧ w = fd_add (fd_mul s p) (fd_mul t a)) dp
    ⟨p, hdp, fd_c 1, fd_z, fd_F_c 1, fd_F_z, by rw [fd_1_mul, fd_z_mul]; funext i; simp [fd_add, fd_z]⟩
  have key : ∀ f : Nat → Int, fd_F f → (∃ s t, fd_F s ∧ fd_F t ∧ f = fd_add (fd_mul s p) (fd_mul t a)) → ∃ (n : Int) (q : Nat → Int), n ≠ 0 ∧ fd_F q ∧ fd_sm n f = fd_mul q w := by
    intro f hf hI
    obtain ⟨s1, t1, hs1, ht1, hf1⟩ := hI
    obtain ⟨k, hk⟩ := hf
    obtain ⟨n, q, r, hn, hq, hr, heq⟩ := fd_pdiv hwe k f hk
    refine ⟨n, q, hn, hq, ?_⟩
    have hrz : r = fd_z := by
      apply Classical.byContradiction
      intro hrz
      obtain ⟨e', he', hD⟩ := fd_D_ex' e r hr hrz
      refine hmin e' he' ⟨r, hD, fd_sub (fd_sm n s1) (fd_mul q s), fd_sub (fd_sm n t1) (fd_mul q t), fd_F_sub (fd_F_sm _ hs1) (fd_F_mul hq hs), fd_F_sub (fd_F_sm _ ht1) (fd_F_mul hq ht), ?_⟩
      have e1 : r = fd_sub (fd_sm n f) (fd_mul q w) := by
        rw [heq]; funext i; simp only [fd_sub, fd_add]; omega
      rw [e1, fd_sub_mul, fd_sub_mul, fd_sm_mul, fd_sm_mul, fd_mul_assoc, fd_mul_assoc]
      rw [show fd_mul q w = fd_add (fd_mul q (fd_mul s p)) (fd_mul q (fd_mul t a)) by rw [hw, fd_mul_add]]
      rw [show fd_sm n f = fd_add (fd_sm n (fd_mul s1 p)) (fd_sm n (fd_mul t1 a)) by rw [hf1]; funext i; simp only [fd_sm, fd_add]; grind]
      funext i; simp only [fd_sub, fd_add]; omega
    rw [heq, hrz]; funext i; simp [fd_add, fd_z]
  obtain ⟨n, q, hn, hq, h1⟩ := key p (fd_D_F hdp) ⟨fd_c 1, fd_z, fd_F_c 1, fd_F_z, by rw [fd_1_mul, fd_z_mul]; funext i; simp [fd_add, fd_z]⟩
  obtain ⟨n', q', hn', hq', h2⟩ := key a ha ⟨fd_z, fd_c 1, fd_F_z, fd_F_c 1, by rw [fd_1_mul, fd_z_mul]; funext i; simp [fd_add, fd_z]⟩
  obtain ⟨c, w0, hc, hw0, hcw⟩ := fd_prim_ex _ w e hwe rfl
  -- p = w0 q1
  have h3 : fd_sm n p = fd_mul w0 (fd_sm c q) := by
    rw [h1, hcw, fd_mul_sm, fd_mul_sm, fd_mul_comm]
  obtain ⟨q1, h4, h5⟩ := fd_cancel_int _ n w0 p _ rfl hn hw0 h3
  have hFw0 : fd_F w0 := fd_F_of_sm hc (by rw [← hcw]; exact fd_D_F hwe)
  have hFq1 : fd_F q1 := fd_F_of_sm hn (by rw [← h4]; exact fd_F_sm _ hq)
  rcases hir w0 q1 hFw0 hFq1 h5.symm with h6 | h6
  · -- w is a number
    right
    have h7 : w = fd_c (c * w0 0) := by
      rw [hcw, fd_L0_c h6]; funext i; simp only [fd_sm, fd_c]; by_cases hi : i = 0 <;> simp [hi]
    have h8 : c * w0 0 ≠ 0 := by
      intro e0
      exact fd_D_nz hwe (by rw [h7, e0]; funext i; simp [fd_c, fd_z])
    apply fd_dv_int hpp h8
    rw [← fd_c_mul, ← h7, hw, fd_add_mul]
    refine fd_dv_add ?_ ?_
    · rw [fd_mul_comm s p, fd_mul_assoc]; exact ⟨_, fd_F_mul hs _hb, rfl⟩
    · rw [fd_mul_assoc]; exact fd_dv_mul_l t ht h
  · -- w is a number times p
    left
    have h7 : p = fd_sm (q1 0) w0 := by rw [h5, fd_L0_c h6, fd_mul_c]; rfl
    have h8 : (q1 0).natAbs = 1 := by
      apply hpp
      intro i
      rw [h7]
      simp only [fd_sm]
      rw [Int.natAbs_dvd]
      exact ⟨w0 i, rfl⟩
    have h9 : w0 = fd_sm (q1 0) p := by
      rw [h7, fd_sm_sm]
      have : q1 0 * (q1 0) = 1 := by
        have : q1 0 = 1 ∨ q1 0 = -1 := by omega
        rcases this with e | e <;> rw [e] <;> decide
      rw [show q1 0 * q1 0 = 1 from this, fd_sm_1]
    apply fd_dv_int hpp hn'
    rw [h2, hcw, h9, fd_sm_sm, fd_mul_sm, fd_mul_comm]
    exact fd_dv_sm _ ⟨q', hq', rfl⟩
/-- an irreducible that divides an irreducible is it -/
theorem fd_irr_eq {p p' : Nat → Int} (h : fd_Irr p) (h' : fd_Irr p') (hd : fd_dv p p') : p = p' := by
  obtain ⟨q, hq, e⟩ := hd
  obtain ⟨hpp, ⟨d, hd1, hD, hpos⟩, _⟩ := h
  obtain ⟨hpp', ⟨d', _, hD', hpos'⟩, hir⟩ := h'
  rcases hir p q (fd_D_F hD) hq e with h1 | h1
  · exact absurd (h1 d (by omega)) hD.1
  · have h2 : p' = fd_sm (q 0) p := by rw [← e, fd_L0_c h1, fd_mul_c]; rfl
    have h3 : (q 0).natAbs = 1 := by
      apply hpp'
      intro i
      rw [h2]; simp only [fd_sm]; rw [Int.natAbs_dvd]; exact ⟨p i, rfl⟩
    have h4 : q 0 = 1 ∨ q 0 = -1 := by omega
    rcases h4 with h5 | h5
    · rw [h2, h5, fd_sm_1]
    · have h6 : d' = d := fd_D_u hD' (by rw [h2]; exact fd_D_sm (by omega) hD)
      rw [h6, h2, h5] at hpos'
      simp only [fd_sm] at hpos'
      omega
def fd_prod : List (Nat → Int) → (Nat → Int)
  | [] => fd_c 1
  | p :: L => fd_mul p (fd_prod L)
theorem fd_F_prod (L : List (Nat → Int)) (h : ∀ p ∈ L, fd_F p) : fd_F (fd_prod L) := by
  induction L with
  | nil => exact fd_F_c 1
  | cons p L ih => exact fd_F_mul (h p (List.mem_cons_self ..)) (ih fun q hq => h q (List.mem_cons_of_mem _ hq))
theorem fd_irr_F {p : Nat → Int} (h : fd_Irr p) : fd_F p := by
  obtain ⟨_, ⟨d, _, hD, _⟩, _⟩ := h
  exact fd_D_F hD
theorem fd_irr_nz {p : Nat → Int} (h : fd_Irr p) : p ≠ fd_z := by
  obtain ⟨_, ⟨d, _, hD, _⟩, _⟩ := h
  exact fd_D_nz hD
theorem fd_irr_nc {p : Nat → Int} (h : fd_Irr p) (c : Int) (hc : c ≠ 0) : ¬ fd_dv p (fd_c c) := by
  intro hd
  obtain ⟨q, hq, e⟩ := hd
  obtain ⟨_, ⟨d, hd1, hD, _⟩, _⟩ := h
  obtain ⟨a, b, ha, _, hab⟩ := fd_D_split (fd_D_F hD) hq e (fd_D_c hc)
  have := fd_D_u ha hD
  omega
theorem fd_mem {p : Nat → Int} (hp : fd_Irr p) (c : Int) (hc : c ≠ 0) (L : List (Nat → Int)) (hL : ∀ q ∈ L, fd_Irr q) (h : fd_dv p (fd_sm c (fd_prod L))) : p ∈ L := by
  have h1 := fd_dv_int hp.1 hc h
  induction L with
  | nil => exact absurd h1 (fd_irr_nc hp 1 (by decide))
  | cons q L ih =>
    have hq := hL q (List.mem_cons_self ..)
    have hF : fd_F (fd_prod L) := fd_F_prod L fun r hr => fd_irr_F (hL r (List.mem_cons_of_mem _ hr))
    rcases fd_euclid hp (fd_irr_F hq) hF h1 with h2 | h2
    · rw [fd_irr_eq hp hq h2]; exact List.mem_cons_self ..
    · exact List.mem_cons_of_mem _ (ih (fun r hr => hL r (List.mem_cons_of_mem _ hr)) (fd_dv_sm c h2) h2)
end
section
/-! the order of factors; a sorted list of irreducibles is unique -/
def fd_lt (p q : Nat → Int) : Prop := ∃ i, p i < q i ∧ ∀ j, i < j → p j = q j
def fd_le (p q : Nat → Int) : Prop := p = q ∨ fd_lt p q
theorem fd_lt_as {p q : Nat → Int} (h : fd_lt p q) (h' : fd_lt q p) : False := by
  obtain ⟨i, h1, h2⟩ := h
  obtain ⟨j, h3, h4⟩ := h'
  rcases Nat.lt_trichotomy i j with h5 | h5 | h5
  · have := h2 j h5; omega
  · subst h5; omega
  · have := h4 i h5; omega
theorem fd_le_as {p q : Nat → Int} (h : fd_le p q) (h' : fd_le q p) : p = q := by
  rcases h with h | h
  · exact h
  · rcases h' with h' | h'
    · exact h'.symm
    · exact (fd_lt_as h h').elim
theorem fd_lt_deg {p q : Nat → Int} {a b : Nat} (hp : fd_L p a) (hq : fd_D q b) (hpos : 0 < q b) (h : a < b) : fd_lt p q :=
  ⟨b, by rw [hp b h]; exact hpos, fun j hj => by rw [hp j (by omega), hq.2 j hj]⟩
theorem fd_sm_c1 (c : Int) : fd_sm c (fd_c 1) = fd_c c := by
  funext i; simp only [fd_sm, fd_c]; by_cases h : i = 0 <;> simp [h]
theorem fd_uniq : ∀ (L L' : List (Nat → Int)) (c c' : Int), c ≠ 0 → c' ≠ 0 → (∀ p ∈ L, fd_Irr p) → (∀ p ∈ L', fd_Irr p) → List.Pairwise fd_le L → List.Pairwise fd_le L' → fd_sm c (fd_prod L) = fd_sm c' (fd_prod L') → L = L' := by
  intro L
  induction L with
  | nil =>
    intro L' c c' hc hc' _ hI' _ _ h
    cases L' with
    | nil => rfl
    | cons q L'' =>
      refine absurd ?_ (fd_irr_nc (hI' q (List.mem_cons_self ..)) c hc)
      have e : fd_c c = fd_sm c' (fd_mul q (fd_prod L'')) := by
        have := h; rw [fd_prod, fd_sm_c1] at this; exact this
      rw [e, ← fd_mul_sm]
      exact ⟨_, fd_F_sm _ (fd_F_prod L'' fun r hr => fd_irr_F (hI' r (List.mem_cons_of_mem _ hr))), rfl⟩
  | cons p L ih =>
    intro L' c c' hc hc' hI hI' hs hs' h
    have hFL : fd_F (fd_prod L) := fd_F_prod L fun r hr => fd_irr_F (hI r (List.mem_cons_of_mem _ hr))
    have hp := hI p (List.mem_cons_self ..)
    have hpd : fd_dv p (fd_sm c (fd_prod (p :: L))) := by
      rw [fd_prod, ← fd_mul_sm]; exact ⟨_, fd_F_sm _ hFL, rfl⟩
    cases L' with
    | nil =>
      refine absurd ?_ (fd_irr_nc hp c' hc')
      have e : fd_c c' = fd_sm c (fd_prod (p :: L)) := by
        rw [h, fd_prod, fd_sm_c1]
      rw [e]; exact hpd
    | cons q L'' =>
      have hFL' : fd_F (fd_prod L'') := fd_F_prod L'' fun r hr => fd_irr_F (hI' r (List.mem_cons_of_mem _ hr))
      have hq := hI' q (List.mem_cons_self ..)
      have hqd : fd_dv q (fd_sm c' (fd_prod (q :: L''))) := by
        rw [fd_prod, ← fd_mul_sm]; exact ⟨_, fd_F_sm _ hFL', rfl⟩
      have m1 : p ∈ q :: L'' := fd_mem hp c' hc' _ hI' (by rw [← h]; exact hpd)
      have m2 : q ∈ p :: L := fd_mem hq c hc _ hI (by rw [h]; exact hqd)
      have e : p = q := by
        rcases List.mem_cons.mp m1 with e | e
        · exact e
        · rcases List.mem_cons.mp m2 with e' | e'
          · exact e'.symm
          · exact fd_le_as ((List.pairwise_cons.mp hs).1 q e') ((List.pairwise_cons.mp hs').1 p e)
      subst e
      have e2 : fd_sm c (fd_prod L) = fd_sm c' (fd_prod L'') := by
        apply fd_cancel (fd_irr_F hp) (fd_irr_nz hp) (fd_F_sm _ hFL) (fd_F_sm _ hFL')
        rw [fd_mul_sm, fd_mul_sm]; exact h
      rw [ih L'' c c' hc hc' (fun r hr => hI r (List.mem_cons_of_mem _ hr)) (fun r hr => hI' r (List.mem_cons_of_mem _ hr)) (List.pairwise_cons.mp hs).2 (List.pairwise_cons.mp hs').2 e2]
theorem fd_prod_app (L L' : List (Nat → Int)) : fd_prod (L ++ L') = fd_mul (fd_prod L) (fd_prod L') := by
  induction L with
  | nil => rw [List.nil_append, fd_prod, fd_1_mul]
  | cons p L ih => rw [List.cons_append, fd_prod, ih, fd_prod, fd_mul_assoc]
theorem fd_prod_snoc (L : List (Nat → Int)) (p : Nat → Int) : fd_prod (L ++ [p]) = fd_mul (fd_prod L) p := by
  rw [fd_prod_app, fd_prod, fd_prod, fd_mul_1]
theorem fd_prod_D (L : List (Nat → Int)) (h : ∀ p ∈ L, fd_Irr p) : ∃ s, fd_D (fd_prod L) s ∧ 0 < fd_prod L s ∧ L.length ≤ s := by
  induction L with
  | nil => exact ⟨0, fd_D_c (by decide), by decide, Nat.le_refl 0⟩
  | cons p L ih =>
    obtain ⟨s, h1, h2, h3⟩ := ih fun q hq => h q (List.mem_cons_of_mem _ hq)
    obtain ⟨_, ⟨d, hd1, hD, hpos⟩, _⟩ := h p (List.mem_cons_self ..)
    refine ⟨d + s, fd_D_mul hD h1, ?_, by rw [List.length_cons]; omega⟩
    rw [fd_prod, (fd_top d s p (fd_prod L) hD.2 h1.2).1]
    exact Int.mul_pos hpos h2
/-! small polynomials -/
def fd_q (t m l : Int) : Nat → Int := fun i => if i = 0 then l else if i = 1 then m else if i = 2 then t else 0
theorem fd_q_0 (t m l : Int) : fd_q t m l 0 = l := rfl
theorem fd_q_1 (t m l : Int) : fd_q t m l 1 = m := rfl
theorem fd_q_2 (t m l : Int) : fd_q t m l 2 = t := rfl
theorem fd_q_L (t m l : Int) : fd_L (fd_q t m l) 2 := fun j hj => by
  simp only [fd_q]; rw [if_neg (by omega), if_neg (by omega), if_neg (by omega)]
theorem fd_q_L1 (m l : Int) : fd_L (fd_q 0 m l) 1 := fun j hj => by
  simp only [fd_q]; rw [if_neg (by omega), if_neg (by omega)]; split <;> rfl
theorem fd_q_D2 {t : Int} (m l : Int) (h : t ≠ 0) : fd_D (fd_q t m l) 2 := ⟨h, fd_q_L t m l⟩
theorem fd_q_D1 {m : Int} (l : Int) (h : m ≠ 0) : fd_D (fd_q 0 m l) 1 := ⟨h, fd_q_L1 m l⟩
theorem fd_q_F (t m l : Int) : fd_F (fd_q t m l) := fd_L_F (fd_q_L t m l)
theorem fd_is_q {u : Nat → Int} (h : fd_L u 2) : u = fd_q (u 2) (u 1) (u 0) := by
  funext i
  by_cases h0 : i = 0
  · subst h0; rfl
  · by_cases h1 : i = 1
    · subst h1; rfl
    · by_cases h2 : i = 2
      · subst h2; rfl
      · rw [h i (by omega)]; simp only [fd_q]; rw [if_neg h0, if_neg h1, if_neg h2]
theorem fd_is_l {u : Nat → Int} (h : fd_L u 1) : u = fd_q 0 (u 1) (u 0) := by
  have := fd_is_q (fd_L_mono h (by omega : 1 ≤ 2)); rw [h 2 (by omega)] at this; exact this
theorem fd_q_mul0 (t m l : Int) (h : Nat → Int) : fd_mul (fd_q t m l) h 0 = l * h 0 := rfl
theorem fd_q_mul1 (t m l : Int) (h : Nat → Int) : fd_mul (fd_q t m l) h 1 = l * h 1 + m * h 0 := rfl
theorem fd_q_mul2 (t m l : Int) (h : Nat → Int) (k : Nat) : fd_mul (fd_q t m l) h (k + 2) = l * h (k + 2) + m * h (k + 1) + t * h k := by
  have e : (fun i => (fun j => fd_q t m l (j + 1)) (i + 1)) = fd_c t := by
    funext i
    cases i with
    | zero => rfl
    | succ i => simp [fd_q, fd_c]
  rw [fd_mul, fd_mul, e, fd_c_mul]
  simp only [fd_sm, fd_q_0]
  show l * h (k + 2) + (m * h (k + 1) + t * h k) = _
  omega
/-- lowest coefficients -/
theorem fd_low {f : Nat → Int} (h : f ≠ fd_z) : ∃ k, f k ≠ 0 ∧ ∀ j, j < k → f j = 0 := by
  have : ∃ i, f i ≠ 0 := Classical.byContradiction fun hn => h (funext fun i => Classical.byContradiction fun hi => hn ⟨i, hi⟩)
  obtain ⟨i, hi⟩ := this
  obtain ⟨k, hk, hm⟩ := fd_least (fun k => f k ≠ 0) i hi
  exact ⟨k, hk, fun j hj => Classical.not_not.mp (hm j hj)⟩
theorem fd_low_mul {f g : Nat → Int} {a b : Nat} (hf : ∀ j, j < a → f j = 0) (hg : ∀ j, j < b → g j = 0) : fd_mul f g (a + b) = f a * g b := by
  have h := fd_mod_ab 0 g b (fun i hi => by rw [hg i hi]; exact ⟨0, by simp⟩) a f (fun i hi => by rw [hf i hi]; exact ⟨0, by simp⟩)
  have := Int.zero_dvd.mp h
  omega
/-- what a register may hold, but 0 -/
def fd_H (F : Nat → Int) : Prop := (∀ i, -20 ≤ F i ∧ F i ≤ 20) ∧ fd_L F 5 ∧ F ≠ fd_z
theorem fd_n1 {x y z : Int} (h : x * y = z) (hy : y ≠ 0) (hz : -20 ≤ z ∧ z ≤ 20) : -20 ≤ x ∧ x ≤ 20 := by
  have h1 : x.natAbs * y.natAbs = z.natAbs := by rw [← Int.natAbs_mul, h]
  have h2 : 1 ≤ y.natAbs := by omega
  have h3 : x.natAbs * 1 ≤ x.natAbs * y.natAbs := Nat.mul_le_mul_left _ h2
  omega
theorem fd_b_lead {F g h : Nat → Int} {a : Nat} (hF : fd_H F) (hg : fd_D g a) (hh : fd_F h) (e : fd_mul g h = F) : -20 ≤ g a ∧ g a ≤ 20 := by
  have hz : h ≠ fd_z := fun z => hF.2.2 (by rw [← e, z, fd_mul_z])
  obtain ⟨b, hb⟩ := fd_D_ex hh hz
  have h1 := (fd_top a b g h hg.2 hb.2).1
  rw [e] at h1
  exact fd_n1 h1.symm hb.1 (hF.1 _)
theorem fd_b_low {F g h : Nat → Int} {a : Nat} (hF : fd_H F) (hg : ∀ j, j < a → g j = 0) (e : fd_mul g h = F) : -20 ≤ g a ∧ g a ≤ 20 := by
  have hz : h ≠ fd_z := fun z => hF.2.2 (by rw [← e, z, fd_mul_z])
  obtain ⟨b, hb, hb'⟩ := fd_low hz
  have h1 := fd_low_mul hg hb'
  rw [e] at h1
  exact fd_n1 h1.symm hb (hF.1 _)
theorem fd_max (n : Nat) : ∀ h : Nat → Int, (∀ j, n ≤ j → h j = 0) → ∃ k, ∀ j, (h j).natAbs ≤ (h k).natAbs := by
  induction n with
  | zero => intro h hh; exact ⟨0, fun j => by rw [hh j (Nat.zero_le _), hh 0 (Nat.zero_le _)]; exact Nat.le_refl _⟩
  | succ n ih =>
    intro h hh
    obtain ⟨k, hk⟩ := ih (fun i => if i < n then h i else 0) (fun j hj => if_neg (by omega))
    by_cases hc : (h n).natAbs ≤ ((fun i => if i < n then h i else 0) k).natAbs
    · by_cases hkn : k < n
      · refine ⟨k, fun j => ?_⟩
        have h1 : ((if j < n then h j else 0) : Int).natAbs ≤ ((if k < n then h k else 0) : Int).natAbs := hk j
        simp only at hc
        rw [if_pos hkn] at h1 hc
        by_cases hj : j < n
        · rw [if_pos hj] at h1; exact h1
        · by_cases hj2 : j = n
          · rw [hj2]; exact hc
          · rw [hh j (by omega)]; simp
      · refine ⟨n, fun j => ?_⟩
        have h1 : ((if j < n then h j else 0) : Int).natAbs ≤ ((if k < n then h k else 0) : Int).natAbs := hk j
        rw [if_neg hkn] at h1
        by_cases hj : j < n
        · rw [if_pos hj] at h1; simp at h1; rw [h1]; simp
        · by_cases hj2 : j = n
          · rw [hj2]; exact Nat.le_refl _
          · rw [hh j (by omega)]; simp
    · refine ⟨n, fun j => ?_⟩
      have h1 : ((if j < n then h j else 0) : Int).natAbs ≤ ((if k < n then h k else 0) : Int).natAbs := hk j
      simp only at hc
      by_cases hj : j < n
      · rw [if_pos hj] at h1; omega
      · by_cases hj2 : j = n
        · rw [hj2]; exact Nat.le_refl _
        · rw [hh j (by omega)]; simp
theorem fd_n2 {m t l x y z v : Int} (hv : -20 ≤ v ∧ v ≤ 20) (ht : -20 ≤ t ∧ t ≤ 20) (hl : -20 ≤ l ∧ l ≤ 20) (hx : x.natAbs ≤ y.natAbs) (hz : z.natAbs ≤ y.natAbs) (hy : y ≠ 0) (e : l * x + m * y + t * z = v) : -60 ≤ m ∧ m ≤ 60 := by
  have h1 : (m * y).natAbs ≤ 20 + 20 * y.natAbs + 20 * y.natAbs := by
    have e1 : m * y = v - l * x - t * z := by omega
    have h2 : (l * x).natAbs ≤ 20 * y.natAbs := by rw [Int.natAbs_mul]; exact Nat.mul_le_mul (by omega) hx
    have h3 : (t * z).natAbs ≤ 20 * y.natAbs := by rw [Int.natAbs_mul]; exact Nat.mul_le_mul (by omega) hz
    omega
  rw [Int.natAbs_mul] at h1
  have h4 : 1 ≤ y.natAbs := by omega
  have h5 : m.natAbs * y.natAbs ≤ 60 * y.natAbs := by omega
  have h6 := Nat.le_of_mul_le_mul_right h5 h4
  omega
theorem fd_bq {F h : Nat → Int} {t m l : Int} (hF : fd_H F) (hh : fd_F h) (e : fd_mul (fd_q t m l) h = F) (ht : -20 ≤ t ∧ t ≤ 20) (hl : -20 ≤ l ∧ l ≤ 20) : -60 ≤ m ∧ m ≤ 60 := by
  obtain ⟨n, hn⟩ := hh
  obtain ⟨k, hk⟩ := fd_max n h hn
  have hz : h ≠ fd_z := fun z => hF.2.2 (by rw [← e, z, fd_mul_z])
  have hk0 : h k ≠ 0 := by
    intro e0
    refine hz (funext fun j => ?_)
    have := hk j
    rw [e0] at this
    simp only [fd_z]
    omega
  cases k with
  | zero =>
    have h1 := fd_q_mul1 t m l h
    rw [e] at h1
    exact fd_n2 (x := h 1) (z := 0) (hF.1 1) ht hl (hk 1) (by simp) hk0 (by rw [h1]; simp)
  | succ k =>
    have h1 := fd_q_mul2 t m l h k
    rw [e] at h1
    exact fd_n2 (hF.1 (k + 2)) ht hl (hk (k + 2)) (hk k) hk0 h1.symm
/-- divisors of degree 1 and 2 -/
theorem fd_b1 {F g h : Nat → Int} (hF : fd_H F) (hg : fd_D g 1) (hh : fd_F h) (e : fd_mul g h = F) : (-20 ≤ g 1 ∧ g 1 ≤ 20) ∧ (-20 ≤ g 0 ∧ g 0 ≤ 20) :=
  ⟨fd_b_lead hF hg hh e, fd_b_low hF (fun j hj => by omega) e⟩
theorem fd_b2 {F g h : Nat → Int} (hF : fd_H F) (hg : fd_D g 2) (hh : fd_F h) (e : fd_mul g h = F) : (-20 ≤ g 2 ∧ g 2 ≤ 20) ∧ (-60 ≤ g 1 ∧ g 1 ≤ 60) ∧ (-20 ≤ g 0 ∧ g 0 ≤ 20) := by
  have h2 := fd_b_lead hF hg hh e
  have h0 : -20 ≤ g 0 ∧ g 0 ≤ 20 := fd_b_low hF (fun j hj => by omega) e
  refine ⟨h2, ?_, h0⟩
  rw [fd_is_q hg.2] at e
  exact fd_bq hF hh e h2 h0
end
