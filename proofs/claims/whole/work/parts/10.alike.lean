/-! alike, twins -/
theorem th_ct {f g : Nat → Int32} {i j : Nat} {A B : Prop} (hi : i < 24) (hj : j < 24) (z : f i = g j) (h : A) : (f (nI i).toNatClampNeg = g (nI j).toNatClampNeg → A) ∧ (¬ f (nI i).toNatClampNeg = g (nI j).toNatClampNeg → B) := by
  rw [th_cl hi, th_cl hj]; exact br_t z h
theorem th_cf {f g : Nat → Int32} {i j : Nat} {A B : Prop} (hi : i < 24) (hj : j < 24) (z : ¬ f i = g j) (h : B) : (f (nI i).toNatClampNeg = g (nI j).toNatClampNeg → A) ∧ (¬ f (nI i).toNatClampNeg = g (nI j).toNatClampNeg → B) := by
  rw [th_cl hi, th_cl hj]; exact br_f z h
section
variable {D : Nat → Nat} {E F P N C RC RP RF RO M YP YF YC YN : Nat → Int32}
def th_M (E F P N C : Nat → Int32) (x e y : Nat) : Prop := ∀ q, th_pl P N x e = some q → ∃ v, th_S E v ∧ th_pl P N y v = some q ∧ F v = F e ∧ C v = C e
def th_A (E F P N C : Nat → Int32) (x y : Nat) : Prop := ∀ e, th_S E e → th_M E F P N C x e y
theorem th_xim (T : th_T E F P N C D) {x e y : Nat} (hx : x < 24) (he : th_S E e) (hy : y < 24) {post : Int32 → Prop} (h1 : th_M E F P N C x e y → post 1) (h0 : ¬ th_M E F P N C x e y → post 0) : wpX_isMatched post (E, F, P, N, C, RC, RP, RF, RO) (nI x) (nI e) (nI y) := by
  have H := T.1
  have e24 := he.1
  unfold wpX_isMatched
  refine th_xpb H hx he ?_
  cases g : th_pl P N x e with
  | none => exact br_t rfl (h1 (fun q w => by rw [g] at w; cases w))
  | some q =>
    have hq := (th_pl_D H e he q g).1
    refine br_f (th_m1 (by omega)) (th_xe H hy (by omega) (fun r hr => ?_))
    obtain ⟨e1, hn⟩ | ⟨v, hv, e1, gv⟩ := hr
    · refine br_t e1 (h0 (fun m => ?_))
      obtain ⟨v, hv, gv, _⟩ := m q g
      exact hn v hv gv
    · subst e1
      have v24 := hv.1
      have un : th_M E F P N C x e y → F v = F e ∧ C v = C e := by
        intro m
        obtain ⟨v', hv', gv', a, b⟩ := m q g
        have := th_pl_inj H T.2.2.2.2.2.2 v hv v' q hv' gv gv'
        subst this
        exact ⟨a, b⟩
      refine br_f (th_m1 (by omega)) ⟨pk_in v 24 v24, pk_in e 24 e24, ?_⟩
      by_cases hF : F v = F e
      · refine th_ct v24 e24 hF ⟨pk_in v 24 v24, pk_in e 24 e24, ?_⟩
        by_cases hC : C v = C e
        · refine th_ct v24 e24 hC (h1 (fun q' w => ?_))
          rw [g] at w; cases w
          exact ⟨v, hv, gv, hF, hC⟩
        · exact th_cf v24 e24 hC (h0 (fun m => hC (un m).2))
      · exact th_cf v24 e24 hF (h0 (fun m => hF (un m).1))
theorem th_xal (T : th_T E F P N C D) {x y : Nat} (hx : x < 24) (hy : y < 24) {post : Int32 → Prop} (h1 : th_A E F P N C x y ∧ th_A E F P N C y x → post 1) (h0 : ¬ (th_A E F P N C x y ∧ th_A E F P N C y x) → post 0) : wpX_areAlike post (E, F, P, N, C, RC, RP, RF, RO) (nI x) (nI y) := by
  have key : ∀ d j, j + d = 24 → (∀ e, e < j → th_S E e → th_M E F P N C x e y ∧ th_M E F P N C y e x) → wX_areAlike_2 post (nI x) (nI y) E F P N C RC RP RF RO (d + 1) (nI j) := by
    intro d
    induction d with
    | zero =>
      intro j hj ha
      exact pk_le 24 j (fun _ => h1 ⟨fun e he => (ha e (by have := he.1; omega) he).1, fun e he => (ha e (by have := he.1; omega) he).2⟩) (fun _ => by omega)
    | succ d ih =>
      intro j hj ha
      have j24 : j < 24 := by omega
      have next : (th_S E j → th_M E F P N C x j y ∧ th_M E F P N C y j x) → wX_areAlike_2 post (nI x) (nI y) E F P N C RC RP RF RO (d + 1) (nI (j + 1)) := by
        intro hn
        refine ih (j + 1) (by omega) (fun e h he => ?_)
        by_cases z : e = j
        · subst z; exact hn he
        · exact ha e (by omega) he
      refine pk_le 24 j (fun _ => by omega) (fun _ => ⟨pk_in j 24 j24, ?_⟩)
      by_cases hE : E j = 0
      · exact th_bt j24 hE (nm_r (nI_1 j) (next (fun z => absurd hE z.2)))
      · have jS : th_S E j := ⟨j24, hE⟩
        refine th_bf j24 hE (th_xim T hx jS hy (fun m1 => br_f th_10 ?_) (fun m1 => br_t rfl (h0 (fun z => m1 (z.1 j jS)))))
        exact th_xim T hy jS hx (fun m2 => br_f th_10 (nm_r (nI_1 j) (next (fun _ => ⟨m1, m2⟩)))) (fun m2 => br_t rfl (h0 (fun z => m2 (z.2 j jS))))
  exact Exists.intro 25 (key 24 0 rfl (fun e h => by omega))
def th_mt (E F P N C : Nat → Int32) (y u : Nat) (z : Int32) (v : Nat) : Prop := th_S E v ∧ F u = F v ∧ (F u = 0 ∨ C u = C v) ∧ th_v (th_pl P N y v) = z
theorem th_ywi (H : th_Ch (th_S E) P N D) {y u : Nat} (hy : y < 24) (hu : u < 24) {z : Int32} {x1 : Int32} {post J : Int32 → Prop} : ∀ d i fl, i + d = 24 → (fl = 0 ∨ fl = 1) → ((fl = 1 ∨ ∃ v, i ≤ v ∧ th_mt E F P N C y u z v) → J (nI (u + 1))) →
    (¬ (fl = 1 ∨ ∃ v, i ≤ v ∧ th_mt E F P N C y u z v) → post 0) → wY_within_44 post J x1 (nI y) (nI u) z E F P N C M YP YF YC YN (d + 1) fl (nI i) := by
  intro d
  induction d with
  | zero =>
    intro i fl hi hfl h1 h0
    refine pk_le 24 i (fun _ => ?_) (fun _ => by omega)
    cases hfl with
    | inl e =>
      refine br_t e (h0 (fun w => ?_))
      cases w with
      | inl w => rw [e] at w; exact th_10 w.symm
      | inr w => obtain ⟨v, hv, m⟩ := w; have := m.1.1; omega
    | inr e => exact br_f (by rw [e]; exact th_10) (nm_r (nI_1 u) (h1 (Or.inl e)))
  | succ d ih =>
    intro i fl hi hfl h1 h0
    have i24 : i < 24 := by omega
    have skip : ¬ th_mt E F P N C y u z i → wY_within_44 post J x1 (nI y) (nI u) z E F P N C M YP YF YC YN (d + 1) fl (nI (i + 1)) := by
      intro hn
      refine ih (i + 1) fl (by omega) hfl (fun w => h1 ?_) (fun w => h0 (fun w' => w ?_))
      · cases w with
        | inl w => exact Or.inl w
        | inr w => obtain ⟨v, hv, m⟩ := w; exact Or.inr ⟨v, by omega, m⟩
      · cases w' with
        | inl w => exact Or.inl w
        | inr w =>
          obtain ⟨v, hv, m⟩ := w
          by_cases e : v = i
          · subst e; exact absurd m hn
          · exact Or.inr ⟨v, by omega, m⟩
    have no : ¬ th_mt E F P N C y u z i → wY_within_106 post J (wY_within_44 post J x1 (nI y) (nI u) z E F P N C M YP YF YC YN (d + 1)) x1 (nI y) (nI u) z fl (nI i) E F P N C M YP YF YC YN := by
      intro hn
      unfold wY_within_106
      exact br_t rfl (nm_r (nI_1 i) (skip hn))
    have yes : th_S E i → F u = F i → (F u = 0 ∨ C u = C i) → wY_within_102 post J (wY_within_44 post J x1 (nI y) (nI u) z E F P N C M YP YF YC YN (d + 1)) x1 (nI y) (nI u) z fl (nI i) E F P N C M YP YF YC YN := by
      intro iS hF hC
      unfold wY_within_102
      refine br_f th_10 (th_ypb H hy iS ?_)
      by_cases e : th_v (th_pl P N y i) = z
      · refine br_t e (nm_r (nI_1 i) (ih (i + 1) 1 (by omega) (Or.inr rfl) (fun _ => h1 (Or.inr ⟨i, by omega, iS, hF, hC, e⟩)) (fun w => absurd (Or.inl rfl) w)))
      · exact br_f e (nm_r (nI_1 i) (skip (fun m => e m.2.2.2)))
    refine pk_le 24 i (fun _ => by omega) (fun _ => ⟨pk_in i 24 i24, ?_⟩)
    by_cases hE : E i = 0
    · exact th_bt i24 hE (no (fun m => m.1.2 hE))
    · have iS : th_S E i := ⟨i24, hE⟩
      refine th_bf i24 hE ⟨pk_in u 24 hu, pk_in i 24 i24, ?_⟩
      by_cases hF : F u = F i
      · refine th_ct hu i24 hF ⟨pk_in u 24 hu, ?_⟩
        by_cases hF0 : F u = 0
        · exact th_bt hu hF0 (yes iS hF (Or.inl hF0))
        · refine th_bf hu hF0 ⟨pk_in u 24 hu, pk_in i 24 i24, ?_⟩
          by_cases hC : C u = C i
          · exact th_ct hu i24 hC (yes iS hF (Or.inr hC))
          · exact th_cf hu i24 hC (no (fun m => m.2.2.1.elim hF0 hC))
      · exact th_cf hu i24 hF (no (fun m => hF m.2.1))
theorem th_ywn (T : th_T E F P N C D) {x y : Nat} (hx : x < 24) (hy : y < 24) {post : Int32 → Prop} (h1 : th_A E F P N C x y → post 1) (h0 : ¬ th_A E F P N C x y → post 0) : wpY_within post (E, F, P, N, C, M, YP, YF, YC, YN) (nI x) (nI y) := by
  have H := T.1
  have key : ∀ d j, j + d = 24 → (∀ e, e < j → th_S E e → th_M E F P N C x e y) → wY_within_2 post (nI x) (nI y) E F P N C M YP YF YC YN (d + 1) (nI j) := by
    intro d
    induction d with
    | zero =>
      intro j hj ha
      exact pk_le 24 j (fun _ => h1 (fun e he => ha e (by have := he.1; omega) he)) (fun _ => by omega)
    | succ d ih =>
      intro j hj ha
      have j24 : j < 24 := by omega
      have next : (th_S E j → th_M E F P N C x j y) → wY_within_2 post (nI x) (nI y) E F P N C M YP YF YC YN (d + 1) (nI (j + 1)) := by
        intro hn
        refine ih (j + 1) (by omega) (fun e h he => ?_)
        by_cases z : e = j
        · subst z; exact hn he
        · exact ha e (by omega) he
      refine pk_le 24 j (fun _ => by omega) (fun _ => ⟨pk_in j 24 j24, ?_⟩)
      by_cases hE : E j = 0
      · refine th_bt j24 hE ?_
        refine br_f (by decide) (Exists.intro 25 (th_ywi H hy j24 24 0 1 rfl (Or.inr rfl) (fun _ => next (fun z => absurd hE z.2)) (fun w => absurd (Or.inl rfl) w)))
      · have jS : th_S E j := ⟨j24, hE⟩
        refine th_bf j24 hE (th_ypb H hx jS ?_)
        cases g : th_pl P N x j with
        | none =>
          refine br_f (by show ¬ (0 : Int32) ≤ -1; decide) (Exists.intro 25 (th_ywi H hy j24 24 0 1 rfl (Or.inr rfl) (fun _ => next (fun _ q w => by rw [g] at w; cases w)) (fun w => absurd (Or.inl rfl) w)))
        | some q =>
          have hq := (th_pl_D H j jS q g).1
          have eq : ∀ v, th_mt E F P N C y j (nI q) v ↔ th_S E v ∧ th_pl P N y v = some q ∧ F v = F j ∧ C v = C j := by
            intro v
            constructor
            · intro ⟨a, b, c, d⟩
              refine ⟨a, ?_, b.symm, ?_⟩
              · cases g' : th_pl P N y v with
                | none => rw [g'] at d; exact absurd d.symm (th_m1 (by omega))
                | some q' =>
                  have hq' := (th_pl_D H v a q' g').1
                  rw [g'] at d
                  rw [sn_inj hq' hq d]
              · cases c with
                | inl c => rw [T.2.2.2.2.1 j jS c, T.2.2.2.2.1 v a (b.symm.trans c)]
                | inr c => exact c.symm
            · intro ⟨a, b, c, d⟩
              exact ⟨a, c.symm, Or.inr d.symm, by rw [b]; rfl⟩
          refine br_t (nI_pos' (by omega)) (Exists.intro 25 (th_ywi H hy j24 24 0 0 rfl (Or.inl rfl) (fun w => ?_) (fun w => h0 (fun a => w ?_))))
          · refine next (fun _ q' w' => ?_)
            rw [g] at w'; cases w'
            cases w with
            | inl w => exact absurd w.symm th_10
            | inr w => obtain ⟨v, _, m⟩ := w; exact ⟨v, (eq v).mp m⟩
          · obtain ⟨v, hv⟩ := a j jS q g
            exact Or.inr ⟨v, by omega, (eq v).mpr hv⟩
  exact Exists.intro 25 (key 24 0 rfl (fun e h => by omega))
def th_tw (E F P N C : Nat → Int32) (x o : Nat) : Prop := th_S E o ∧ (th_A E F P N C x o ∧ th_A E F P N C o x)
theorem th_xtw (T : th_T E F P N C D) {x : Nat} (hx : x < 24) {post : Int32 → Prop} (h : post (nI (cn_c (th_tw E F P N C x) 24))) : ∀ d j, j + d = 24 → wX_twins_14 post (nI x) E F P N C RC RP RF RO (d + 1) (nI (cn_c (th_tw E F P N C x) j)) (nI j) := by
  intro d
  induction d with
  | zero =>
    intro j hj
    have : j = 24 := by omega
    subst this
    exact pk_le 24 24 (fun _ => h) (fun _ => by omega)
  | succ d ih =>
    intro j hj
    have j24 : j < 24 := by omega
    have next := ih (j + 1) (by omega)
    refine pk_le 24 j (fun _ => by omega) (fun _ => ⟨pk_in j 24 j24, ?_⟩)
    by_cases hE : E j = 0
    · rw [cn_s0 (fun z => z.1.2 hE)] at next
      exact th_bt j24 hE (nm_r (nI_1 j) next)
    · have jS : th_S E j := ⟨j24, hE⟩
      refine th_bf j24 hE (th_xal T hx j24 (fun a => ?_) (fun a => ?_))
      · rw [cn_s1 ⟨jS, a⟩] at next
        exact br_f th_10 (nm_r (nI_1 _) (nm_r (nI_1 j) next))
      · rw [cn_s0 (fun z => a z.2)] at next
        exact br_t rfl (nm_r (nI_1 j) next)
theorem th_ytw (T : th_T E F P N C D) {x : Nat} (hx : x < 24) {post : Int32 → Prop} (h : post (nI (cn_c (th_tw E F P N C x) 24))) : ∀ d j, j + d = 24 → wY_twins_14 post (nI x) E F P N C M YP YF YC YN (d + 1) (nI (cn_c (th_tw E F P N C x) j)) (nI j) := by
  intro d
  induction d with
  | zero =>
    intro j hj
    have : j = 24 := by omega
    subst this
    exact pk_le 24 24 (fun _ => h) (fun _ => by omega)
  | succ d ih =>
    intro j hj
    have j24 : j < 24 := by omega
    have next := ih (j + 1) (by omega)
    refine pk_le 24 j (fun _ => by omega) (fun _ => ⟨pk_in j 24 j24, ?_⟩)
    by_cases hE : E j = 0
    · rw [cn_s0 (fun z => z.1.2 hE)] at next
      exact th_bt j24 hE (nm_r (nI_1 j) next)
    · have jS : th_S E j := ⟨j24, hE⟩
      refine th_bf j24 hE (th_ywn T hx j24 (fun a => ?_) (fun a => ?_))
      · refine br_f th_10 (th_ywn T j24 hx (fun b => ?_) (fun b => ?_))
        · rw [cn_s1 ⟨jS, a, b⟩] at next
          exact br_f th_10 (nm_r (nI_1 _) (nm_r (nI_1 j) next))
        · rw [cn_s0 (fun z => b z.2.2)] at next
          exact br_t rfl (nm_r (nI_1 j) next)
      · rw [cn_s0 (fun z => a z.2.1)] at next
        exact br_t rfl (nm_r (nI_1 j) next)
end
theorem i_vc_alike {k : Nat} {u : SX} {v : SY} (I : i_Rel k u v) (hk : k + 4 ≤ 2048) (v1 : Int32) (v2 : Int32) : wpX_alike (fun r => wpY_alike (fun r' => r' = r ∧ i_Rel (k + 4) u v) v v1 v2) u v1 v2 := by
  have I' : i_Rel (k + 4) u v := I
  obtain ⟨E, F, P, N, C, RC, RP, RF, RO, M, YP, YF, YC, YN, D, rfl, rfl, T, Sn⟩ := I
  unfold wpX_alike wpY_alike
  by_cases g : th_G E v1
  · obtain ⟨x, hx, rfl, hE⟩ := g
    have g : th_G E (nI x) := ⟨x, hx, rfl, hE⟩
    by_cases g2 : th_G E v2
    · obtain ⟨y, hy, rfl, hE2⟩ := g2
      have g2 : th_G E (nI y) := ⟨y, hy, rfl, hE2⟩
      refine th_xg1 g (br_f th_10 (th_xg1 g2 (br_f th_10 (th_xal T hx hy (fun a => br_f th_10 ?_) (fun a => br_t rfl ?_)))))
      · exact th_yg1 g (br_t rfl (th_yg1 g2 (br_t rfl (th_ywn T hx hy (fun _ => br_f th_10 (th_ywn T hy hx (fun _ => br_f th_10 ⟨rfl, I'⟩) (fun z => absurd a.2 z))) (fun z => absurd a.1 z)))))
      · exact th_yg1 g (br_t rfl (th_yg1 g2 (br_t rfl (th_ywn T hx hy (fun b => br_f th_10 (th_ywn T hy hx (fun c => absurd ⟨b, c⟩ a) (fun z => br_t rfl ⟨rfl, I'⟩))) (fun z => br_t rfl ⟨rfl, I'⟩)))))
    · exact th_xg1 g (br_f th_10 (th_xg0 g2 (br_t rfl (th_yg1 g (br_t rfl (th_yg0 g2 (br_f th_10 ⟨rfl, I'⟩)))))))
  · exact th_xg0 g (br_t rfl (th_yg0 g (br_f th_10 ⟨rfl, I'⟩)))
theorem i_vc_twins {k : Nat} {u : SX} {v : SY} (I : i_Rel k u v) (hk : k + 4 ≤ 2048) (v1 : Int32) : wpX_twins (fun r => wpY_twins (fun r' => r' = r ∧ i_Rel (k + 4) u v) v v1) u v1 := by
  have I' : i_Rel (k + 4) u v := I
  obtain ⟨E, F, P, N, C, RC, RP, RF, RO, M, YP, YF, YC, YN, D, rfl, rfl, T, Sn⟩ := I
  unfold wpX_twins wpY_twins
  by_cases g : th_G E v1
  · obtain ⟨x, hx, rfl, hE⟩ := g
    have g : th_G E (nI x) := ⟨x, hx, rfl, hE⟩
    refine th_xg1 g (br_f th_10 (Exists.intro 25 (th_xtw T hx ?_ 24 0 rfl)))
    exact th_yg1 g (br_t rfl (Exists.intro 25 (th_ytw T hx ⟨rfl, I'⟩ 24 0 rfl)))
  · exact th_xg0 g (br_t rfl (th_yg0 g (br_f th_10 ⟨rfl, I'⟩)))
