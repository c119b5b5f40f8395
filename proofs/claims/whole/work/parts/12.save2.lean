section
variable {D : Nat → Nat} {E F P N C RC RP RF RO M YP YF YC YN : Nat → Int32}
def wo_J (E F P N C : Nat → Int32) (o k i : Nat) (A B G : Nat → Int32) : Prop :=
  (∀ r, r < k → ∃ e q, e < i ∧ th_e E e ∧ th_pl P N 0 e = some q ∧ A (o + r) = nI q ∧ B (o + r) = F e ∧ G (o + r) = C e) ∧
  (∀ e q, e < i → th_e E e → th_pl P N 0 e = some q → ∃ r, r < k ∧ A (o + r) = nI q ∧ B (o + r) = F e ∧ G (o + r) = C e) ∧
  (∀ r r', r < k → r' < k → A (o + r) = A (o + r') → r = r')
theorem wo_fin {o k : Nat} {A B G : Nat → Int32} (J : wo_J E F P N C o k 24 A B G) : sn_L A B G o k (th_R E F P N C) := by
  refine ⟨fun i hi => ?_, fun q f c r => ?_, J.2.2⟩
  · obtain ⟨e, q, _, he, g, a, b, c⟩ := J.1 i hi
    exact ⟨q, a, e, he.1, he.2, g, b.symm, c.symm⟩
  · obtain ⟨e, he, z, g, hf, hc⟩ := r
    obtain ⟨i, hi, a, b, c⟩ := J.2.1 e q he.1 ⟨he, z⟩ g
    exact ⟨i, hi, a, b.trans hf, c.trans hc⟩
theorem wo_skip {o k i : Nat} {A B G : Nat → Int32} (J : wo_J E F P N C o k i A B G) (hn : ¬ th_e E i) : wo_J E F P N C o k (i + 1) A B G := by
  refine ⟨fun r hr => ?_, fun e q he h g => ?_, J.2.2⟩
  · obtain ⟨e, q, a, b⟩ := J.1 r hr
    exact ⟨e, q, by omega, b⟩
  · by_cases z : e = i
    · subst z; exact absurd h hn
    · exact J.2.1 e q (by omega) h g
theorem wo_step (T : th_T E F P N C D) {o k i q : Nat} {A B G : Nat → Int32} (J : wo_J E F P N C o k i A B G) (he : th_e E i) (g : th_pl P N 0 i = some q) :
    wo_J E F P N C o (k + 1) (i + 1) (upd A (o + k) (nI q)) (upd B (o + k) (F i)) (upd G (o + k) (C i)) := by
  have H := T.1
  have hq := (th_pl_D H i he.1 q g).1
  have new : ∀ r, r < k → ¬ A (o + r) = nI q := by
    intro r hr w
    obtain ⟨e, q', a, b, g', c, _⟩ := J.1 r hr
    have hq' := (th_pl_D H e b.1 q' g').1
    have := sn_inj hq' hq (c.symm.trans w)
    subst this
    have := th_pl_inj H T.2.2.2.2.2.2 e b.1 i q' he.1 g' g
    omega
  refine ⟨fun r hr => ?_, fun e q' h h2 g2 => ?_, fun r r' hr hr' w => ?_⟩
  · by_cases z : r = k
    · subst z
      exact ⟨i, q, by omega, he, g, pk_us, pk_us, pk_us⟩
    · obtain ⟨e, q', a, b, c⟩ := J.1 r (by omega)
      rw [pk_un (by omega), pk_un (by omega), pk_un (by omega)]
      exact ⟨e, q', by omega, b, c⟩
  · by_cases z : e = i
    · subst z
      rw [g] at g2; cases g2
      exact ⟨k, by omega, pk_us, pk_us, pk_us⟩
    · obtain ⟨r, hr, a⟩ := J.2.1 e q' (by omega) h2 g2
      refine ⟨r, by omega, ?_⟩
      rw [pk_un (by omega), pk_un (by omega), pk_un (by omega)]
      exact a
  · by_cases z : r = k
    · by_cases z' : r' = k
      · omega
      · rw [z, pk_us, pk_un (by omega)] at w
        exact absurd w.symm (new r' (by omega))
    · by_cases z' : r' = k
      · rw [z', pk_us, pk_un (by omega)] at w
        exact absurd w (new r (by omega))
      · rw [pk_un (by omega), pk_un (by omega)] at w
        exact J.2.2 r r' (by omega) (by omega) w
theorem sv_Y (T : th_T E F P N C D) {t : Nat} (ht : t < 4) {post : Int32 → SY → Prop} (h : ∀ YP' YF' YC', sn_L YP' YF' YC' (24 * t) (cn_c (th_e E) 24) (th_R E F P N C) →
    (∀ j, (j < 24 * t ∨ 24 * t + 24 ≤ j) → YP' j = YP j ∧ YF' j = YF j ∧ YC' j = YC j) → post (nI (cn_c (th_e E) 24)) (E, F, P, N, C, M, YP', YF', YC', upd YN t (nI (cn_c (th_e E) 24)))) : wpY_writeOut post (E, F, P, N, C, M, YP, YF, YC, YN) (nI t) := by
  have H := T.1
  have key : ∀ d i YP' YF' YC', i + d = 24 → 1 ≤ i → cn_c (th_e E) i < i → wo_J E F P N C (24 * t) (cn_c (th_e E) i) i YP' YF' YC' → (∀ j, (j < 24 * t ∨ 24 * t + 24 ≤ j) → YP' j = YP j ∧ YF' j = YF j ∧ YC' j = YC j) →
      wY_writeOut_4 post (nI t) (d + 1) (nI (cn_c (th_e E) i)) (nI i) E F P N C M YP' YF' YC' YN := by
    intro d
    induction d with
    | zero =>
      intro i YP' YF' YC' hi h1 hc J hu
      have : i = 24 := by omega
      subst this
      exact pk_le 24 24 (fun _ => th_uc rfl ht (by omega) rfl (h YP' YF' YC' (wo_fin J) hu)) (fun _ => by omega)
    | succ d ih =>
      intro i YP' YF' YC' hi h1 hc J hu
      have i24 : i < 24 := by omega
      refine pk_le 24 i (fun _ => by omega) (fun _ => ⟨pk_in i 24 i24, ?_⟩)
      by_cases hE : E i = 0
      · have hn : ¬ th_e E i := fun z => z.1.2 hE
        have := ih (i + 1) YP' YF' YC' (by omega) (by omega) (by rw [cn_s0 hn]; omega) (by rw [cn_s0 hn]; exact wo_skip J hn) hu
        rw [cn_s0 hn] at this
        exact th_bt i24 hE (nm_r (nI_1 i) this)
      · have iS : th_S E i := ⟨i24, hE⟩
        have ie : th_e E i := ⟨iS, by omega⟩
        obtain ⟨q, g⟩ := th_pl_root H i iS
        refine th_bf i24 hE (th_ypb (t := 0) H (by omega) iS ?_)
        rw [g]
        generalize hk : cn_c (th_e E) i = k at hc J
        have hcell : 24 * t + k < 96 := by omega
        have fin := ih (i + 1) (upd YP' (24 * t + k) (nI q)) (upd YF' (24 * t + k) (F i)) (upd YC' (24 * t + k) (C i)) (by omega) (by omega) (by rw [cn_s1 ie]; omega) (by rw [cn_s1 ie, hk]; exact wo_step T J ie g) (fun j hj => by
          rw [pk_un (by omega), pk_un (by omega), pk_un (by omega)]
          exact hu j hj)
        rw [cn_s1 ie, hk] at fin
        refine th_uc (th_cY t k) hcell (by omega) rfl ⟨pk_in i 24 i24, th_uc (th_cY t k) hcell (by omega) (b := F i) (by rw [th_cl i24, th_nb (T.2.2.2.1 i)]) ⟨pk_in i 24 i24, ?_⟩⟩
        by_cases hF : F i = 0
        · exact th_bt i24 hF (th_uc (th_cY t k) hcell (by omega) (b := C i) (T.2.2.2.2.1 i iS hF).symm (nm_r (nI_1 k) (nm_r (nI_1 i) fin)))
        · exact th_bf i24 hF ⟨pk_in i 24 i24, th_uc (th_cY t k) hcell (by omega) (b := C i) (by rw [th_cl i24]) (nm_r (nI_1 k) (nm_r (nI_1 i) fin))⟩
  have h0 : ¬ th_e E 0 := fun z => z.2 rfl
  have c1 : cn_c (th_e E) 1 = 0 := cn_s0 h0
  have := key 23 1 YP YF YC rfl (by omega) (by omega) (by
    rw [c1]
    refine ⟨fun r hr => by omega, fun e q he h => ?_, fun r r' hr => by omega⟩
    have := h.2
    omega) (fun j _ => ⟨rfl, rfl, rfl⟩)
  rw [c1] at this
  exact Exists.intro 24 this
end
theorem th_Sn_cg {RC RP RF RO YP YF YC YN RC' RP' RF' RO' YP' YF' YC' YN' : Nat → Int32} {s : Nat} (h : th_Sn RC RP RF RO YP YF YC YN s) (h1 : RC' s = RC s) (h2 : YN' s = YN s)
    (hX : ∀ j, s * 23 ≤ j → j < s * 23 + 23 → RP' j = RP j ∧ RF' j = RF j ∧ RO' j = RO j) (hY : ∀ j, 24 * s ≤ j → j < 24 * s + 24 → YP' j = YP j ∧ YF' j = YF j ∧ YC' j = YC j) : th_Sn RC' RP' RF' RO' YP' YF' YC' YN' s := by
  obtain ⟨n, R, a, b, c, d, e, f, g⟩ := h
  exact ⟨n, R, a, h1.trans b, h2.trans c, d, sn_cg (fun i hi => hX _ (by omega) (by omega)) e, sn_cgS (fun i hi => (hX _ (by omega) (by omega)).1) f, sn_cg (fun i hi => hY _ (by omega) (by omega)) g⟩
theorem i_vc_save {k : Nat} {u : SX} {v : SY} (I : i_Rel k u v) (hk : k + 4 ≤ 2048) (v1 : Int32) : wpX_save (fun r u' => wpY_save (fun r' v' => r' = r ∧ i_Rel (k + 4) u' v') v v1) u v1 := by
  obtain ⟨E, F, P, N, C, RC, RP, RF, RO, M, YP, YF, YC, YN, D, rfl, rfl, T, Sn⟩ := I
  unfold wpX_save wpY_save
  by_cases g : th_Q 3 v1
  · obtain ⟨s, hs, rfl⟩ := g
    have g : th_Q 3 (nI s) := ⟨s, hs, rfl⟩
    refine th_xs1 g (br_f th_10 (sv_X T hs (fun RP' RF' RO' LX SX' uX => ?_)))
    refine th_ys1 g (br_t rfl (sv_Y T (by omega) (fun YP' YF' YC' LY uY => ?_)))
    refine ⟨rfl, th_rel T (fun s' hs' => ?_)⟩
    by_cases z : s' = s
    · subst z
      exact ⟨_, _, th_e23 (E := E), pk_us, pk_us, th_RW T, LX, SX', LY⟩
    · refine th_Sn_cg (Sn s' hs') (pk_un z) (pk_un z) (fun j h1 h2 => uX j ?_) (fun j h1 h2 => uY j ?_)
      · omega
      · omega
  · exact th_xs0 g (br_t rfl (th_ys0 g (br_f th_10 ⟨rfl, th_rel T Sn⟩)))
