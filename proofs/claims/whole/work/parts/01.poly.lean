/-! polynomials as coefficient functions -/
abbrev fd_P : Type := Nat → Int
def fd_mul : (Nat → Int) → (Nat → Int) → Nat → Int
  | f, g, 0 => f 0 * g 0
  | f, g, n + 1 => f 0 * g (n + 1) + fd_mul (fun i => f (i + 1)) g n
def fd_add (f g : Nat → Int) : Nat → Int := fun i => f i + g i
def fd_sub (f g : Nat → Int) : Nat → Int := fun i => f i - g i
def fd_sm (c : Int) (f : Nat → Int) : Nat → Int := fun i => c * f i
def fd_c (c : Int) : Nat → Int := fun i => if i = 0 then c else 0
def fd_z : Nat → Int := fun _ => 0
/-- c x^k -/
def fd_mo (c : Int) (k : Nat) : Nat → Int := fun i => if i = k then c else 0
theorem fd_mul_add_l (f f' g : Nat → Int) (n : Nat) : fd_mul (fun i => f i + f' i) g n = fd_mul f g n + fd_mul f' g n := by
  induction n generalizing f f' with
  | zero => simp only [fd_mul]; grind
  | succ n ih => simp only [fd_mul]; rw [ih (fun i => f (i + 1)) (fun i => f' (i + 1))]; grind
theorem fd_mul_sm_l (c : Int) (f g : Nat → Int) (n : Nat) : fd_mul (fun i => c * f i) g n = c * fd_mul f g n := by
  induction n generalizing f with
  | zero => simp only [fd_mul]; grind
  | succ n ih => simp only [fd_mul]; rw [ih (fun i => f (i + 1))]; grind
theorem fd_mul_succ_r (f g : Nat → Int) (n : Nat) : fd_mul f g (n + 1) = f (n + 1) * g 0 + fd_mul f (fun i => g (i + 1)) n := by
  induction n generalizing f with
  | zero => simp only [fd_mul]; grind
  | succ n ih =>
    rw [fd_mul, ih (fun i => f (i + 1))]
    conv => rhs; rw [fd_mul]
    grind
theorem fd_mul_comm' (f g : Nat → Int) (n : Nat) : fd_mul f g n = fd_mul g f n := by
  induction n generalizing f with
  | zero => simp only [fd_mul]; grind
  | succ n ih => rw [fd_mul_succ_r g f, fd_mul, ih]; grind
theorem fd_mul_comm (f g : Nat → Int) : fd_mul f g = fd_mul g f := funext (fd_mul_comm' f g)
theorem fd_mul_assoc' (f g h : Nat → Int) (n : Nat) : fd_mul (fd_mul f g) h n = fd_mul f (fd_mul g h) n := by
  induction n generalizing f with
  | zero => simp only [fd_mul]; grind
  | succ n ih =>
    have e : (fun i => fd_mul f g (i + 1)) = fun i => (fun j => f 0 * (fun k => g (k + 1)) j) i + (fd_mul (fun k => f (k + 1)) g) i := by
      funext i; simp only [fd_mul]
    rw [fd_mul, e, fd_mul_add_l, fd_mul_sm_l, ih]
    conv => rhs; rw [fd_mul, fd_mul]
    simp only [fd_mul]
    grind
theorem fd_mul_assoc (f g h : Nat → Int) : fd_mul (fd_mul f g) h = fd_mul f (fd_mul g h) := funext (fd_mul_assoc' f g h)
theorem fd_mul_left (f g h : Nat → Int) : fd_mul f (fd_mul g h) = fd_mul g (fd_mul f h) := by
  rw [← fd_mul_assoc, fd_mul_comm f g, fd_mul_assoc]
theorem fd_add_mul (f f' g : Nat → Int) : fd_mul (fd_add f f') g = fd_add (fd_mul f g) (fd_mul f' g) := funext (fd_mul_add_l f f' g)
theorem fd_sm_mul (c : Int) (f g : Nat → Int) : fd_mul (fd_sm c f) g = fd_sm c (fd_mul f g) := funext (fd_mul_sm_l c f g)
theorem fd_mul_add (f g g' : Nat → Int) : fd_mul f (fd_add g g') = fd_add (fd_mul f g) (fd_mul f g') := by
  rw [fd_mul_comm, fd_add_mul, fd_mul_comm g, fd_mul_comm g']
theorem fd_mul_sm (c : Int) (f g : Nat → Int) : fd_mul f (fd_sm c g) = fd_sm c (fd_mul f g) := by
  rw [fd_mul_comm, fd_sm_mul, fd_mul_comm g]
theorem fd_sub_eq (f g : Nat → Int) : fd_sub f g = fd_add f (fd_sm (-1) g) := by
  funext i; simp only [fd_sub, fd_add, fd_sm]; omega
theorem fd_mul_sub (f g g' : Nat → Int) : fd_mul f (fd_sub g g') = fd_sub (fd_mul f g) (fd_mul f g') := by
  rw [fd_sub_eq, fd_mul_add, fd_mul_sm, fd_sub_eq]
theorem fd_sub_mul (f f' g : Nat → Int) : fd_mul (fd_sub f f') g = fd_sub (fd_mul f g) (fd_mul f' g) := by
  rw [fd_mul_comm, fd_mul_sub, fd_mul_comm g, fd_mul_comm g]
theorem fd_mul_z' (f : Nat → Int) (n : Nat) : fd_mul f fd_z n = 0 := by
  induction n generalizing f with
  | zero => simp [fd_mul, fd_z]
  | succ n ih => simp [fd_mul, fd_z]; exact ih _
theorem fd_mul_z (f : Nat → Int) : fd_mul f fd_z = fd_z := funext (fd_mul_z' f)
theorem fd_z_mul (f : Nat → Int) : fd_mul fd_z f = fd_z := by rw [fd_mul_comm, fd_mul_z]
theorem fd_c_mul (c : Int) (f : Nat → Int) : fd_mul (fd_c c) f = fd_sm c f := by
  funext n
  cases n with
  | zero => simp [fd_mul, fd_c, fd_sm]
  | succ n =>
    have e : (fun i => fd_c c (i + 1)) = fd_z := by funext i; simp [fd_c, fd_z]
    rw [fd_mul, e, fd_z_mul]; simp [fd_c, fd_sm, fd_z]
theorem fd_mul_c (c : Int) (f : Nat → Int) : fd_mul f (fd_c c) = fd_sm c f := by rw [fd_mul_comm, fd_c_mul]
theorem fd_sm_1 (f : Nat → Int) : fd_sm 1 f = f := by funext i; simp [fd_sm]
theorem fd_sm_sm (a b : Int) (f : Nat → Int) : fd_sm a (fd_sm b f) = fd_sm (a * b) f := by funext i; simp only [fd_sm]; grind
theorem fd_mul_1 (f : Nat → Int) : fd_mul f (fd_c 1) = f := by rw [fd_mul_c, fd_sm_1]
theorem fd_1_mul (f : Nat → Int) : fd_mul (fd_c 1) f = f := by rw [fd_c_mul, fd_sm_1]
/-- a monomial times f -/
theorem fd_mo_mul (c : Int) (k : Nat) (f : Nat → Int) : fd_mul (fd_mo c k) f = fun i => if k ≤ i then c * f (i - k) else 0 := by
  induction k with
  | zero =>
    have e : fd_mo c 0 = fd_c c := rfl
    rw [e, fd_c_mul]; funext i; simp [fd_sm]
  | succ k ih =>
    have e : (fun i => fd_mo c (k + 1) (i + 1)) = fd_mo c k := by funext i; simp [fd_mo]
    funext i
    cases i with
    | zero => simp [fd_mul, fd_mo]
    | succ i => rw [fd_mul, e, ih]; simp [fd_mo]
/-! degrees -/
def fd_F (f : Nat → Int) : Prop := ∃ n, ∀ j, n ≤ j → f j = 0
def fd_L (f : Nat → Int) (d : Nat) : Prop := ∀ j, d < j → f j = 0
def fd_D (f : Nat → Int) (d : Nat) : Prop := f d ≠ 0 ∧ fd_L f d
theorem fd_L_F {f : Nat → Int} {d : Nat} (h : fd_L f d) : fd_F f := ⟨d + 1, fun j hj => h j (by omega)⟩
theorem fd_D_F {f : Nat → Int} {d : Nat} (h : fd_D f d) : fd_F f := fd_L_F h.2
theorem fd_F_L {f : Nat → Int} (h : fd_F f) : ∃ d, fd_L f d := h.elim fun n hn => ⟨n, fun j hj => hn j (by omega)⟩
theorem fd_D_u {f : Nat → Int} {a b : Nat} (h : fd_D f a) (h' : fd_D f b) : a = b := by
  rcases Nat.lt_trichotomy a b with h1 | h1 | h1
  · exact absurd (h.2 b h1) h'.1
  · exact h1
  · exact absurd (h'.2 a h1) h.1
theorem fd_D_nz {f : Nat → Int} {a : Nat} (h : fd_D f a) : f ≠ fd_z := fun e => h.1 (by rw [e]; rfl)
theorem fd_D_le {f : Nat → Int} {a b : Nat} (h : fd_D f a) (h' : fd_L f b) : a ≤ b :=
  Nat.le_of_not_lt fun h1 => h.1 (h' a h1)
theorem fd_L_mono {f : Nat → Int} {a b : Nat} (h : fd_L f a) (hab : a ≤ b) : fd_L f b := fun j hj => h j (by omega)
theorem fd_D_ex' (n : Nat) : ∀ f : Nat → Int, (∀ j, n ≤ j → f j = 0) → f ≠ fd_z → ∃ d, d < n ∧ fd_D f d := by
  induction n with
  | zero => intro f h hz; exact absurd (funext fun j => h j (Nat.zero_le j)) hz
  | succ n ih =>
    intro f h hz
    by_cases e : f n = 0
    · have h' : ∀ j, n ≤ j → f j = 0 := by
        intro j hj
        by_cases hjn : j = n
        · rw [hjn]; exact e
        · exact h j (by omega)
      obtain ⟨d, hd, hD⟩ := ih f h' hz
      exact ⟨d, by omega, hD⟩
    · exact ⟨n, by omega, e, fun j hj => h j (by omega)⟩
theorem fd_D_ex {f : Nat → Int} (h : fd_F f) (hz : f ≠ fd_z) : ∃ d, fd_D f d := by
  obtain ⟨n, hn⟩ := h
  obtain ⟨d, _, hd⟩ := fd_D_ex' n f hn hz
  exact ⟨d, hd⟩
theorem fd_D_exL {f : Nat → Int} {n : Nat} (h : fd_L f n) (hz : f ≠ fd_z) : ∃ d, d ≤ n ∧ fd_D f d := by
  obtain ⟨d, h1, h2⟩ := fd_D_ex' (n + 1) f (fun j hj => h j (by omega)) hz
  exact ⟨d, by omega, h2⟩
theorem fd_top (a : Nat) : ∀ (b : Nat) (f g : Nat → Int), fd_L f a → fd_L g b → fd_mul f g (a + b) = f a * g b ∧ fd_L (fd_mul f g) (a + b) := by
  induction a with
  | zero =>
    intro b f g hf hg
    have e : f = fd_c (f 0) := by
      funext i
      by_cases h : i = 0
      · simp [fd_c, h]
      · simp [fd_c, h]; exact hf i (by omega)
    rw [e, fd_c_mul]
    refine ⟨by simp [fd_sm, fd_c], fun j hj => ?_⟩
    simp only [fd_sm]; rw [hg j (by omega)]; simp
  | succ a ih =>
    intro b f g hf hg
    obtain ⟨h1, h2⟩ := ih b (fun i => f (i + 1)) g (fun j hj => hf (j + 1) (by omega)) hg
    refine ⟨?_, fun j hj => ?_⟩
    · have e : a + 1 + b = (a + b) + 1 := by omega
      rw [e, fd_mul, h1, hg (a + b + 1) (by omega)]; simp
    · cases j with
      | zero => omega
      | succ j => rw [fd_mul, h2 j (by omega), hg (j + 1) (by omega)]; simp
theorem fd_D_mul {f g : Nat → Int} {a b : Nat} (hf : fd_D f a) (hg : fd_D g b) : fd_D (fd_mul f g) (a + b) := by
  obtain ⟨h1, h2⟩ := fd_top a b f g hf.2 hg.2
  exact ⟨by rw [h1]; exact Int.mul_ne_zero hf.1 hg.1, h2⟩
theorem fd_F_mul {f g : Nat → Int} (hf : fd_F f) (hg : fd_F g) : fd_F (fd_mul f g) := by
  obtain ⟨a, ha⟩ := fd_F_L hf
  obtain ⟨b, hb⟩ := fd_F_L hg
  exact fd_L_F (fd_top a b f g ha hb).2
theorem fd_F_add {f g : Nat → Int} (hf : fd_F f) (hg : fd_F g) : fd_F (fd_add f g) := by
  obtain ⟨a, ha⟩ := hf
  obtain ⟨b, hb⟩ := hg
  exact ⟨a + b, fun j hj => by simp only [fd_add]; rw [ha j (by omega), hb j (by omega)]; rfl⟩
theorem fd_F_sm {f : Nat → Int} (c : Int) (hf : fd_F f) : fd_F (fd_sm c f) := by
  obtain ⟨a, ha⟩ := hf
  exact ⟨a, fun j hj => by simp only [fd_sm]; rw [ha j hj]; simp⟩
theorem fd_F_sub {f g : Nat → Int} (hf : fd_F f) (hg : fd_F g) : fd_F (fd_sub f g) := by
  rw [fd_sub_eq]; exact fd_F_add hf (fd_F_sm _ hg)
theorem fd_F_z : fd_F fd_z := ⟨0, fun _ _ => rfl⟩
theorem fd_F_c (c : Int) : fd_F (fd_c c) := ⟨1, fun j hj => by simp only [fd_c]; rw [if_neg (by omega)]⟩
theorem fd_F_mo (c : Int) (k : Nat) : fd_F (fd_mo c k) := ⟨k + 1, fun j hj => by simp only [fd_mo]; rw [if_neg (by omega)]⟩
theorem fd_dom {f g : Nat → Int} (hf : fd_F f) (hg : fd_F g) (h : fd_mul f g = fd_z) : f = fd_z ∨ g = fd_z := by
  by_cases ef : f = fd_z
  · exact Or.inl ef
  · by_cases eg : g = fd_z
    · exact Or.inr eg
    · obtain ⟨a, ha⟩ := fd_D_ex hf ef
      obtain ⟨b, hb⟩ := fd_D_ex hg eg
      exact absurd h (fd_D_nz (fd_D_mul ha hb))
theorem fd_sub_z {f g : Nat → Int} (h : fd_sub f g = fd_z) : f = g := by
  funext i; have := congrFun h i; simp only [fd_sub, fd_z] at this; omega
theorem fd_sub_self (f : Nat → Int) : fd_sub f f = fd_z := by funext i; simp [fd_sub, fd_z]
theorem fd_cancel {g q q' : Nat → Int} (hg : fd_F g) (hz : g ≠ fd_z) (hq : fd_F q) (hq' : fd_F q') (h : fd_mul g q = fd_mul g q') : q = q' := by
  have e : fd_mul g (fd_sub q q') = fd_z := by rw [fd_mul_sub, h, fd_sub_self]
  rcases fd_dom hg (fd_F_sub hq hq') e with h1 | h1
  · exact absurd h1 hz
  · exact fd_sub_z h1
theorem fd_D_sm {f : Nat → Int} {d : Nat} {c : Int} (hc : c ≠ 0) (h : fd_D f d) : fd_D (fd_sm c f) d :=
  ⟨Int.mul_ne_zero hc h.1, fun j hj => by simp only [fd_sm]; rw [h.2 j hj]; simp⟩
theorem fd_sm_inj {c : Int} (hc : c ≠ 0) {f g : Nat → Int} (h : fd_sm c f = fd_sm c g) : f = g := by
  funext i; exact Int.eq_of_mul_eq_mul_left hc (congrFun h i)
theorem fd_L_sm {f : Nat → Int} {d : Nat} (c : Int) (h : fd_L f d) : fd_L (fd_sm c f) d := fun j hj => by
  simp only [fd_sm]; rw [h j hj]; simp
theorem fd_sm_z (c : Int) : fd_sm c fd_z = fd_z := by funext i; simp [fd_sm, fd_z]
theorem fd_D_c {c : Int} (h : c ≠ 0) : fd_D (fd_c c) 0 := ⟨by simpa [fd_c] using h, fun j hj => by simp only [fd_c]; rw [if_neg (by omega)]⟩
theorem fd_L0_c {f : Nat → Int} (h : fd_L f 0) : f = fd_c (f 0) := by
  funext i
  by_cases e : i = 0
  · simp [fd_c, e]
  · simp [fd_c, e]; exact h i (by omega)
/-- a product of degree d: the two degrees -/
theorem fd_D_split {u v p : Nat → Int} {d : Nat} (hu : fd_F u) (hv : fd_F v) (h : fd_mul u v = p) (hp : fd_D p d) : ∃ a b, fd_D u a ∧ fd_D v b ∧ a + b = d := by
  have zu : u ≠ fd_z := fun e => fd_D_nz hp (by rw [← h, e, fd_z_mul])
  have zv : v ≠ fd_z := fun e => fd_D_nz hp (by rw [← h, e, fd_mul_z])
  obtain ⟨a, ha⟩ := fd_D_ex hu zu
  obtain ⟨b, hb⟩ := fd_D_ex hv zv
  exact ⟨a, b, ha, hb, fd_D_u (by rw [← h]; exact fd_D_mul ha hb) hp⟩
