/-! write, kind, content, path, entries -/
theorem i_vc_write {k : Nat} {u : SX} {v : SY} (I : i_Rel k u v) (hk : k + 4 ≤ 2048) (v1 : Int32) (v2 : Int32) : wpX_write (fun r u' => wpY_write (fun r' v' => r' = r ∧ i_Rel (k + 4) u' v') v v1 v2) u v1 v2 := by
  obtain ⟨E, F, P, N, C, RC, RP, RF, RO, M, YP, YF, YC, YN, D, rfl, rfl, T, Sn⟩ := I
  unfold wpX_write wpY_write
  by_cases g : th_G E v1
  · obtain ⟨e, he, rfl, hE⟩ := g
    have g : th_G E (nI e) := ⟨e, he, rfl, hE⟩
    by_cases hF : F e = 0
    · exact th_xg1 g (br_f th_10 ⟨pk_in e 24 he, th_bt he hF (th_yg1 g (br_t rfl ⟨pk_in e 24 he, th_bt he hF ⟨rfl, th_rel T Sn⟩⟩))⟩)
    · exact th_xg1 g (br_f th_10 ⟨pk_in e 24 he, th_bf he hF (th_up he rfl (th_yg1 g (br_t rfl ⟨pk_in e 24 he, th_bf he hF (th_up he rfl ⟨rfl, th_rel (th_T_wr T hF) Sn⟩)⟩)))⟩)
  · exact th_xg0 g (br_t rfl (th_yg0 g (br_f th_10 ⟨rfl, th_rel T Sn⟩)))
theorem i_vc_kind {k : Nat} {u : SX} {v : SY} (I : i_Rel k u v) (hk : k + 4 ≤ 2048) (v1 : Int32) : wpX_kind (fun r => wpY_kind (fun r' => r' = r ∧ i_Rel (k + 4) u v) v v1) u v1 := by
  have I' : i_Rel (k + 4) u v := I
  obtain ⟨E, F, P, N, C, RC, RP, RF, RO, M, YP, YF, YC, YN, D, rfl, rfl, T, Sn⟩ := I
  unfold wpX_kind wpY_kind
  by_cases g : th_G E v1
  · obtain ⟨e, he, rfl, hE⟩ := g
    have g : th_G E (nI e) := ⟨e, he, rfl, hE⟩
    by_cases hF : F e = 0
    · exact th_xg1 g (br_f th_10 ⟨pk_in e 24 he, th_bt he hF (th_yg1 g (br_t rfl ⟨pk_in e 24 he, th_bt he hF ⟨rfl, I'⟩⟩))⟩)
    · exact th_xg1 g (br_f th_10 ⟨pk_in e 24 he, th_bf he hF (th_yg1 g (br_t rfl ⟨pk_in e 24 he, th_bf he hF ⟨rfl, I'⟩⟩))⟩)
  · exact th_xg0 g (br_t rfl (th_yg0 g (br_f th_10 ⟨rfl, I'⟩)))
theorem i_vc_content {k : Nat} {u : SX} {v : SY} (I : i_Rel k u v) (hk : k + 4 ≤ 2048) (v1 : Int32) : wpX_content (fun r => wpY_content (fun r' => r' = r ∧ i_Rel (k + 4) u v) v v1) u v1 := by
  have I' : i_Rel (k + 4) u v := I
  obtain ⟨E, F, P, N, C, RC, RP, RF, RO, M, YP, YF, YC, YN, D, rfl, rfl, T, Sn⟩ := I
  unfold wpX_content wpY_content
  by_cases g : th_G E v1
  · obtain ⟨e, he, rfl, hE⟩ := g
    have g : th_G E (nI e) := ⟨e, he, rfl, hE⟩
    by_cases hF : F e = 0
    · have hC := T.2.2.2.2.1 e ⟨he, hE⟩ hF
      exact th_xg1 g (br_f th_10 ⟨pk_in e 24 he, th_yg1 g (br_t rfl ⟨pk_in e 24 he, th_bt he hF ⟨by rw [th_cl he]; exact hC.symm, I'⟩⟩)⟩)
    · exact th_xg1 g (br_f th_10 ⟨pk_in e 24 he, th_yg1 g (br_t rfl ⟨pk_in e 24 he, th_bf he hF ⟨pk_in e 24 he, rfl, I'⟩⟩)⟩)
  · exact th_xg0 g (br_t rfl (th_yg0 g (br_f th_10 ⟨rfl, I'⟩)))
theorem i_vc_path {k : Nat} {u : SX} {v : SY} (I : i_Rel k u v) (hk : k + 4 ≤ 2048) (v1 : Int32) : wpX_path (fun r => wpY_path (fun r' => r' = r ∧ i_Rel (k + 4) u v) v v1) u v1 := by
  have I' : i_Rel (k + 4) u v := I
  obtain ⟨E, F, P, N, C, RC, RP, RF, RO, M, YP, YF, YC, YN, D, rfl, rfl, T, Sn⟩ := I
  unfold wpX_path wpY_path
  by_cases g : th_G E v1
  · obtain ⟨e, he, rfl, hE⟩ := g
    have g : th_G E (nI e) := ⟨e, he, rfl, hE⟩
    refine th_xg1 g (br_f th_10 ?_)
    refine th_xpb (t := 0) T.1 (by omega) ⟨he, hE⟩ ?_
    refine th_yg1 g (br_t rfl ?_)
    refine th_ypb (t := 0) T.1 (by omega) ⟨he, hE⟩ ?_
    exact ⟨rfl, I'⟩
  · exact th_xg0 g (br_t rfl (th_yg0 g (br_f th_10 ⟨rfl, I'⟩)))
section
variable {S : Nat → Prop} {D : Nat → Nat} {E F P N C RC RP RF RO M YP YF YC YN : Nat → Int32}
/-- how many entries are there -/
theorem th_enl {postX postY : Int32 → Prop} : ∀ d j, j + d = 24 → (postX (nI (cn_c (fun x => ¬ E x = 0) 24)) → wX_entries_4 postX E F P N C RC RP RF RO (d + 1) (nI (cn_c (fun x => ¬ E x = 0) j)) (nI j)) ∧
    (postY (nI (cn_c (fun x => ¬ E x = 0) 24)) → wY_entries_4 postY E F P N C M YP YF YC YN (d + 1) (nI (cn_c (fun x => ¬ E x = 0) j)) (nI j)) := by
  intro d
  induction d with
  | zero =>
    intro j hj
    have : j = 24 := by omega
    subst this
    exact ⟨fun hp => pk_le 24 24 (fun _ => hp) (fun _ => by omega), fun hp => pk_le 24 24 (fun _ => hp) (fun _ => by omega)⟩
  | succ d ih =>
    intro j hj
    have j24 : j < 24 := by omega
    obtain ⟨hX, hY⟩ := ih (j + 1) (by omega)
    by_cases hE : E j = 0
    · rw [cn_s0 (B := fun x => ¬ E x = 0) (fun z => z hE)] at hX hY
      exact ⟨fun hp => pk_le 24 j (fun _ => by omega) (fun _ => ⟨pk_in j 24 j24, th_bt j24 hE (nm_r (nI_1 j) (hX hp))⟩), fun hp => pk_le 24 j (fun _ => by omega) (fun _ => ⟨pk_in j 24 j24, th_bt j24 hE (nm_r (nI_1 j) (hY hp))⟩)⟩
    · rw [cn_s1 (B := fun x => ¬ E x = 0) hE] at hX hY
      exact ⟨fun hp => pk_le 24 j (fun _ => by omega) (fun _ => ⟨pk_in j 24 j24, th_bf j24 hE (nm_r (nI_1 _) (nm_r (nI_1 j) (hX hp)))⟩), fun hp => pk_le 24 j (fun _ => by omega) (fun _ => ⟨pk_in j 24 j24, th_bf j24 hE (nm_r (nI_1 _) (nm_r (nI_1 j) (hY hp)))⟩)⟩
/-- the entry with a path below t -/
def th_F (E P N : Nat → Int32) (t q : Nat) (r : Int32) : Prop := (r = -1 ∧ ∀ x, th_S E x → ¬ th_pl P N t x = some q) ∨ (∃ x, th_S E x ∧ r = nI x ∧ th_pl P N t x = some q)
theorem th_xel (H : th_Ch (th_S E) P N D) {t q : Nat} (ht : t < 24) (hq : q < 2 ^ 31) {post : Int32 → Prop} (h : ∀ r, th_F E P N t q r → post r) : ∀ d j, j + d = 24 → (∀ x, th_S E x → x < j → ¬ th_pl P N t x = some q) →
    wX_entryBelow_8 post (nI t) (nI q) E F P N C RC RP RF RO (d + 1) (nI j) := by
  intro d
  induction d with
  | zero =>
    intro j hj hb
    exact pk_le 24 j (fun _ => h (-1) (Or.inl ⟨rfl, fun x hx => hb x hx (by have := hx.1; omega)⟩)) (fun _ => by omega)
  | succ d ih =>
    intro j hj hb
    have j24 : j < 24 := by omega
    refine pk_le 24 j (fun _ => by omega) (fun _ => ⟨pk_in j 24 j24, ?_⟩)
    by_cases hE : E j = 0
    · refine th_bt j24 hE (nm_r (nI_1 j) (ih (j + 1) (by omega) (fun x hx hxj => ?_)))
      by_cases z : x = j
      · subst z; exact absurd hE hx.2
      · exact hb x hx (by omega)
    · have hS : th_S E j := ⟨j24, hE⟩
      refine th_bf j24 hE (th_xpb H ht hS ?_)
      have next : ¬ th_pl P N t j = some q → wX_entryBelow_8 post (nI t) (nI q) E F P N C RC RP RF RO (d + 1) (nI (j + 1)) := by
        intro hn
        refine ih (j + 1) (by omega) (fun x hx hxj => ?_)
        by_cases z : x = j
        · subst z; exact hn
        · exact hb x hx (by omega)
      cases g : th_pl P N t j with
      | none => exact br_f (th_m1' hq) (nm_r (nI_1 j) (next (by rw [g]; exact fun z => nomatch z)))
      | some y =>
        have hy := (th_pl_D H j hS y g).1
        refine pk_eq y q (fun z => ?_) (fun z => ?_)
        · subst z; exact h (nI j) (Or.inr ⟨j, hS, rfl, g⟩)
        · exact nm_r (nI_1 j) (next (by rw [g]; exact fun w => z (Option.some.inj w)))
theorem th_xe (H : th_Ch (th_S E) P N D) {t q : Nat} (ht : t < 24) (hq : q < 2 ^ 31) {post : Int32 → Prop} (h : ∀ r, th_F E P N t q r → post r) : wpX_entryBelow post (E, F, P, N, C, RC, RP, RF, RO) (nI t) (nI q) :=
  br_t (nI_pos' hq) (Exists.intro 25 (th_xel H ht hq h 24 0 rfl (fun x _ hx => by omega)))
theorem th_yel (H : th_Ch (th_S E) P N D) {q : Nat} (hq : q < 2 ^ 31) {post : Int32 → Prop} (h : ∀ r, th_F E P N 0 q r → post r) : ∀ d j, j + d = 24 → (∀ x, th_S E x → x < j → ¬ th_pl P N 0 x = some q) →
    wY_find_2 post (nI q) E F P N C M YP YF YC YN (d + 1) (nI j) := by
  intro d
  induction d with
  | zero =>
    intro j hj hb
    exact pk_le 24 j (fun _ => h (-1) (Or.inl ⟨rfl, fun x hx => hb x hx (by have := hx.1; omega)⟩)) (fun _ => by omega)
  | succ d ih =>
    intro j hj hb
    have j24 : j < 24 := by omega
    refine pk_le 24 j (fun _ => by omega) (fun _ => ⟨pk_in j 24 j24, ?_⟩)
    by_cases hE : E j = 0
    · refine th_bt j24 hE (nm_r (nI_1 j) (ih (j + 1) (by omega) (fun x hx hxj => ?_)))
      by_cases z : x = j
      · subst z; exact absurd hE hx.2
      · exact hb x hx (by omega)
    · have hS : th_S E j := ⟨j24, hE⟩
      refine th_bf j24 hE (th_ypb (t := 0) H (by omega) hS ?_)
      have next : ¬ th_pl P N 0 j = some q → wY_find_2 post (nI q) E F P N C M YP YF YC YN (d + 1) (nI (j + 1)) := by
        intro hn
        refine ih (j + 1) (by omega) (fun x hx hxj => ?_)
        by_cases z : x = j
        · subst z; exact hn
        · exact hb x hx (by omega)
      cases g : th_pl P N 0 j with
      | none => exact br_f (th_m1' hq) (nm_r (nI_1 j) (next (by rw [g]; exact fun z => nomatch z)))
      | some y =>
        have hy := (th_pl_D H j hS y g).1
        refine pk_eq y q (fun z => ?_) (fun z => ?_)
        · subst z; exact h (nI j) (Or.inr ⟨j, hS, rfl, g⟩)
        · exact nm_r (nI_1 j) (next (by rw [g]; exact fun w => z (Option.some.inj w)))
theorem th_ye (H : th_Ch (th_S E) P N D) {q : Nat} (hq : q < 2 ^ 31) {post : Int32 → Prop} (h : ∀ r, th_F E P N 0 q r → post r) : wpY_find post (E, F, P, N, C, M, YP, YF, YC, YN) (nI q) :=
  Exists.intro 25 (th_yel H hq h 24 0 rfl (fun x _ hx => by omega))
/-- no path is negative -/
theorem th_ynl (H : th_Ch (th_S E) P N D) {v : Int32} (hv : v < 0) {post : Int32 → Prop} (h : post (-1)) : ∀ d j, j + d = 24 → wY_find_2 post v E F P N C M YP YF YC YN (d + 1) (nI j) := by
  intro d
  induction d with
  | zero => intro j hj; exact pk_le 24 j (fun _ => h) (fun _ => by omega)
  | succ d ih =>
    intro j hj
    have j24 : j < 24 := by omega
    refine pk_le 24 j (fun _ => by omega) (fun _ => ⟨pk_in j 24 j24, ?_⟩)
    by_cases hE : E j = 0
    · exact th_bt j24 hE (nm_r (nI_1 j) (ih (j + 1) (by omega)))
    · have hS : th_S E j := ⟨j24, hE⟩
      refine th_bf j24 hE (th_ypb (t := 0) H (by omega) hS ?_)
      obtain ⟨q, g⟩ := th_pl_root H j hS
      have hq := (th_pl_D H j hS q g).1
      rw [g]
      exact br_f (fun z => nI_pos (n := q) (by omega) (by rw [show nI q = v from z]; exact hv)) (nm_r (nI_1 j) (ih (j + 1) (by omega)))
theorem th_Fu (H : th_Ch (th_S E) P N D) (U : th_U (th_S E) P N) {t q : Nat} {r r' : Int32} (h : th_F E P N t q r) (h' : th_F E P N t q r') : r = r' := by
  obtain ⟨a, b⟩ | ⟨x, a, b, c⟩ := h
  · obtain ⟨a', b'⟩ | ⟨x', a', b', c'⟩ := h'
    · rw [a, a']
    · exact absurd c' (b x' a')
  · obtain ⟨a', b'⟩ | ⟨x', a', b', c'⟩ := h'
    · exact absurd c (b' x a)
    · have := th_pl_inj H U x a x' q a' c c'
      rw [b, b', this]
end
theorem i_vc_entries {k : Nat} {u : SX} {v : SY} (I : i_Rel k u v) (hk : k + 4 ≤ 2048) : wpX_entries (fun r => wpY_entries (fun r' => r' = r ∧ i_Rel (k + 4) u v) v) u := by
  have I' : i_Rel (k + 4) u v := I
  obtain ⟨E, F, P, N, C, RC, RP, RF, RO, M, YP, YF, YC, YN, D, rfl, rfl, T, Sn⟩ := I
  refine Exists.intro 25 ((th_enl (M := M) (YP := YP) (YF := YF) (YC := YC) (YN := YN) (postY := fun _ => True) 24 0 rfl).1 ?_)
  exact Exists.intro 25 ((th_enl (RC := RC) (RP := RP) (RF := RF) (RO := RO) (postX := fun _ => True) 24 0 rfl).2 ⟨rfl, I'⟩)
theorem i_vc_lookup {k : Nat} {u : SX} {v : SY} (I : i_Rel k u v) (hk : k + 4 ≤ 2048) (v1 : Int32) : wpX_lookup (fun r => wpY_lookup (fun r' => r' = r ∧ i_Rel (k + 4) u v) v v1) u v1 := by
  have I' : i_Rel (k + 4) u v := I
  obtain ⟨E, F, P, N, C, RC, RP, RF, RO, M, YP, YF, YC, YN, D, rfl, rfl, T, Sn⟩ := I
  have H := T.1
  unfold wpX_lookup wpY_lookup
  by_cases h0 : v1 < 0
  · refine br_f (Int32.not_le.mpr h0) ?_
    exact Exists.intro 25 (th_ynl H h0 ⟨rfl, I'⟩ 24 0 rfl)
  · obtain ⟨q, hq, rfl⟩ := nI_of h0
    refine th_xe (t := 0) H (by omega) hq (fun r hr => ?_)
    refine th_ye H hq (fun r' hr' => ?_)
    exact ⟨th_Fu H T.2.2.2.2.2.2 hr' hr, I'⟩
