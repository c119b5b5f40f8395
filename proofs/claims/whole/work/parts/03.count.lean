/-! counting below a bound, and the next number with a property -/
noncomputable def cn_c (B : Nat → Prop) : Nat → Nat
  | 0 => 0
  | m + 1 => cn_c B m + (@ite Nat (B m) (Classical.propDecidable _) 1 0)
theorem cn_s1 {B : Nat → Prop} {m : Nat} (h : B m) : cn_c B (m + 1) = cn_c B m + 1 := by rw [cn_c, if_pos h]
theorem cn_s0 {B : Nat → Prop} {m : Nat} (h : ¬ B m) : cn_c B (m + 1) = cn_c B m := by rw [cn_c, if_neg h, Nat.add_zero]
theorem cn_ext {A B : Nat → Prop} : ∀ m, (∀ q, q < m → (A q ↔ B q)) → cn_c A m = cn_c B m := by
  intro m
  induction m with
  | zero => intro _; rfl
  | succ m ih =>
    intro h
    have e := ih (fun q hq => h q (by omega))
    by_cases b : B m
    · rw [cn_s1 b, cn_s1 ((h m (by omega)).mpr b), e]
    · rw [cn_s0 b, cn_s0 (fun a => b ((h m (by omega)).mp a)), e]
theorem cn_z {B : Nat → Prop} : ∀ m, (∀ q, q < m → ¬ B q) → cn_c B m = 0 := by
  intro m
  induction m with
  | zero => intro _; rfl
  | succ m ih =>
    intro h
    rw [cn_s0 (h m (by omega)), ih (fun q hq => h q (by omega))]
theorem cn_or {A B : Nat → Prop} : ∀ m, (∀ q, q < m → A q → ¬ B q) → cn_c (fun q => A q ∨ B q) m = cn_c A m + cn_c B m := by
  intro m
  induction m with
  | zero => intro _; rfl
  | succ m ih =>
    intro h
    have e := ih (fun q hq => h q (by omega))
    by_cases a : A m
    · rw [cn_s1 (B := fun q => A q ∨ B q) (Or.inl a), cn_s1 a, cn_s0 (h m (by omega) a), e]; omega
    · by_cases b : B m
      · rw [cn_s1 (B := fun q => A q ∨ B q) (Or.inr b), cn_s0 a, cn_s1 b, e]; omega
      · rw [cn_s0 (B := fun q => A q ∨ B q) (fun z => z.elim a b), cn_s0 a, cn_s0 b, e]
theorem cn_one {B : Nat → Prop} {a : Nat} (hB : B a) : ∀ m, a < m → cn_c B m = cn_c (fun q => B q ∧ ¬ q = a) m + 1 := by
  intro m
  induction m with
  | zero => intro h; omega
  | succ m ih =>
    intro h
    by_cases z : m = a
    · subst z
      rw [cn_s1 hB, cn_s0 (B := fun q => B q ∧ ¬ q = m) (fun z => z.2 rfl)]
      rw [cn_ext (A := B) (B := fun q => B q ∧ ¬ q = m) m (fun q hq => ⟨fun b => ⟨b, by omega⟩, fun b => b.1⟩)]
    · have e := ih (by omega)
      by_cases b : B m
      · rw [cn_s1 b, cn_s1 (B := fun q => B q ∧ ¬ q = a) ⟨b, z⟩, e]
      · rw [cn_s0 b, cn_s0 (B := fun q => B q ∧ ¬ q = a) (fun y => b y.1), e]
theorem cn_bij {A : Nat → Prop} {f : Nat → Nat} {M : Nat} : ∀ (n : Nat) (B : Nat → Prop), (∀ i, i < n → A i → f i < M ∧ B (f i)) → (∀ q, q < M → B q → ∃ i, i < n ∧ A i ∧ f i = q) →
    (∀ i j, i < n → j < n → A i → A j → f i = f j → i = j) → cn_c A n = cn_c B M := by
  intro n
  induction n with
  | zero =>
    intro B _ hs _
    rw [cn_z M (fun q hq b => by obtain ⟨i, hi, _⟩ := hs q hq b; omega)]
    rfl
  | succ n ih =>
    intro B hm hs hj
    by_cases a : A n
    · obtain ⟨h1, h2⟩ := hm n (by omega) a
      rw [cn_s1 a, cn_one h2 M h1, ih (fun q => B q ∧ ¬ q = f n)]
      · intro i hi ai
        obtain ⟨g1, g2⟩ := hm i (by omega) ai
        refine ⟨g1, g2, fun z => ?_⟩
        have := hj i n (by omega) (by omega) ai a z
        omega
      · intro q hq b
        obtain ⟨i, hi, ai, e⟩ := hs q hq b.1
        by_cases z : i = n
        · subst z; exact absurd e.symm b.2
        · exact ⟨i, by omega, ai, e⟩
      · exact fun i j hi hj' => hj i j (by omega) (by omega)
    · rw [cn_s0 a, ih B]
      · exact fun i hi => hm i (by omega)
      · intro q hq b
        obtain ⟨i, hi, ai, e⟩ := hs q hq b
        by_cases z : i = n
        · subst z; exact absurd ai a
        · exact ⟨i, by omega, ai, e⟩
      · exact fun i j hi hj' => hj i j (by omega) (by omega)
theorem cn_len {f : Nat → Nat} {M : Nat} : ∀ (n : Nat) (B : Nat → Prop), (∀ q, q < M → B q → ∃ i, i < n ∧ f i = q) → cn_c B M ≤ n := by
  intro n
  induction n with
  | zero =>
    intro B hs
    rw [cn_z M (fun q hq b => by obtain ⟨i, hi, _⟩ := hs q hq b; omega)]
    omega
  | succ n ih =>
    intro B hs
    by_cases b : B (f n) ∧ f n < M
    · rw [cn_one b.1 M b.2]
      have := ih (fun q => B q ∧ ¬ q = f n) (fun q hq h => by
        obtain ⟨i, hi, e⟩ := hs q hq h.1
        by_cases z : i = n
        · subst z; exact absurd e.symm h.2
        · exact ⟨i, by omega, e⟩)
      omega
    · have := ih B (fun q hq h => by
        obtain ⟨i, hi, e⟩ := hs q hq h
        by_cases z : i = n
        · subst z e; exact absurd ⟨h, hq⟩ b
        · exact ⟨i, by omega, e⟩)
      omega
def nx_O (B : Nat → Prop) (l : Nat) (o : Option Nat) : Prop := match o with
  | none => ∀ q, l < q → ¬ B q
  | some q => l < q ∧ B q ∧ ∀ q', l < q' → B q' → q ≤ q'
theorem nx_ex (B : Nat → Prop) (l : Nat) : ∃ o, nx_O B l o := by
  by_cases h : ∃ q, l < q ∧ B q
  · obtain ⟨k, ⟨h1, h2⟩, h3⟩ := pk_least (fun q => l < q ∧ B q) h
    refine ⟨some k, h1, h2, fun q' a b => ?_⟩
    by_cases z : q' < k
    · exact absurd ⟨a, b⟩ (h3 q' z)
    · omega
  · exact ⟨none, fun q a b => h ⟨q, a, b⟩⟩
theorem nx_u {B : Nat → Prop} {l : Nat} {o o' : Option Nat} (h : nx_O B l o) (h' : nx_O B l o') : o = o' := by
  cases o with
  | none =>
    cases o' with
    | none => rfl
    | some q => exact absurd h'.2.1 (h q h'.1)
  | some p =>
    cases o' with
    | none => exact absurd h.2.1 (h' p h.1)
    | some q =>
      have a := h.2.2 q h'.1 h'.2.1
      have b := h'.2.2 p h.1 h.2.1
      rw [show p = q by omega]
theorem nx_ext {A B : Nat → Prop} {l : Nat} {o : Option Nat} (e : ∀ q, A q ↔ B q) (h : nx_O A l o) : nx_O B l o := by
  cases o with
  | none => exact fun q hq b => h q hq ((e q).mpr b)
  | some p => exact ⟨h.1, (e p).mp h.2.1, fun q hq b => h.2.2 q hq ((e q).mpr b)⟩
noncomputable def nx_c (B : Nat → Prop) (l : Nat) : Nat := cn_c (fun q => l < q ∧ B q) 59049
theorem nx_c0 {B : Nat → Prop} {l : Nat} (h : nx_O B l none) : nx_c B l = 0 := cn_z 59049 (fun q _ b => h q b.1 b.2)
theorem nx_c1 {B : Nat → Prop} {l q : Nat} (hB : ∀ q, B q → q < 59049) (h : nx_O B l (some q)) : nx_c B l = nx_c B q + 1 := by
  obtain ⟨h1, h2, h3⟩ := h
  rw [nx_c, cn_one (B := fun x => l < x ∧ B x) (a := q) ⟨h1, h2⟩ 59049 (hB q h2), nx_c]
  rw [cn_ext (A := fun x => (l < x ∧ B x) ∧ ¬ x = q) (B := fun x => q < x ∧ B x) 59049]
  intro x _
  constructor
  · intro a
    have := h3 x a.1.1 a.1.2
    exact ⟨by omega, a.1.2⟩
  · intro a
    exact ⟨⟨by omega, a.2⟩, by omega⟩
/-! rows: a set of (path, kind, content), and how an array holds it -/
def sn_W (R : Nat → Int32 → Int32 → Prop) : Prop :=
  (∀ q f c, R q f c → 0 < q ∧ q < 59049 ∧ (f = 0 ∨ f = 1) ∧ ¬ q % 9 = 0 ∧ (q / 9 = 0 ∨ ∃ c', R (q / 9) 0 c') ∧ (f = 0 → c = 0)) ∧
  (∀ q f c f' c', R q f c → R q f' c' → f = f' ∧ c = c')
def sn_L (A B G : Nat → Int32) (o n : Nat) (R : Nat → Int32 → Int32 → Prop) : Prop :=
  (∀ i, i < n → ∃ q, A (o + i) = nI q ∧ R q (B (o + i)) (G (o + i))) ∧
  (∀ q f c, R q f c → ∃ i, i < n ∧ A (o + i) = nI q ∧ B (o + i) = f ∧ G (o + i) = c) ∧
  (∀ i j, i < n → j < n → A (o + i) = A (o + j) → i = j)
def sn_So (A : Nat → Int32) (o n : Nat) : Prop := ∀ i j, i < j → j < n → A (o + i) < A (o + j)
def sn_D (R R' : Nat → Int32 → Int32 → Prop) (q : Nat) : Prop := ∃ f c, (R q f c ∧ ¬ R' q f c) ∨ (R' q f c ∧ ¬ R q f c)
theorem sn_Dsy {R R' : Nat → Int32 → Int32 → Prop} (q : Nat) : sn_D R R' q ↔ sn_D R' R q := by
  constructor
  · intro ⟨f, c, h⟩; exact ⟨f, c, h.symm⟩
  · intro ⟨f, c, h⟩; exact ⟨f, c, h.symm⟩
theorem sn_Db {R R' : Nat → Int32 → Int32 → Prop} (W : sn_W R) (W' : sn_W R') {q : Nat} (h : sn_D R R' q) : 0 < q ∧ q < 59049 := by
  obtain ⟨f, c, h⟩ := h
  cases h with
  | inl h => have := W.1 q f c h.1; exact ⟨this.1, this.2.1⟩
  | inr h => have := W'.1 q f c h.1; exact ⟨this.1, this.2.1⟩
theorem sn_inj {p q : Nat} (hp : p < 59049) (hq : q < 59049) (h : nI p = nI q) : p = q := (nI_eq (by omega) (by omega)).mp h
theorem sn_tot {R R' : Nat → Int32 → Int32 → Prop} {A B G A' B' G' : Nat → Int32} {o n o' n' : Nat} (W : sn_W R) (W' : sn_W R') (L : sn_L A B G o n R) (L' : sn_L A' B' G' o' n' R') (l : Nat) : nx_c (sn_D R R') l ≤ n + n' := by
  apply cn_len (f := fun i => if i < n then (A (o + i)).toNatClampNeg else (A' (o' + (i - n))).toNatClampNeg) (n + n')
  intro q hq h
  obtain ⟨_, f, c, h⟩ := h
  cases h with
  | inl h =>
    obtain ⟨i, hi, e, _⟩ := L.2.1 q f c h.1
    refine ⟨i, by omega, ?_⟩
    rw [if_pos hi, e, nI_clamp (by omega)]
  | inr h =>
    obtain ⟨i, hi, e, _⟩ := L'.2.1 q f c h.1
    refine ⟨n + i, by omega, ?_⟩
    rw [if_neg (by omega), show n + i - n = i by omega, e, nI_clamp (by omega)]
