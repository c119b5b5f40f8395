/-! the walks of the small helpers: each gives its pure value -/
def th_v (o : Option Nat) : Int32 := match o with
  | none => -1
  | some q => nI q
theorem th_ar (acc w q n : Nat) : acc + (n + 1) * w + w * 9 * q = acc + w * (q * 9 + (n + 1)) := by
  rw [Nat.mul_add w, Nat.mul_comm (n + 1) w, Nat.mul_comm q 9, Nat.mul_assoc w 9 q]
  omega
theorem th_mp (x : Option Nat) (acc w n : Nat) : x.map (fun q => acc + (n + 1) * w + w * 9 * q) = (x.map (fun q => q * 9 + (n + 1))).map (fun q => acc + w * q) := by
  cases x with
  | none => rfl
  | some q => exact congrArg some (th_ar acc w q n)
theorem th_mp0 (x : Option Nat) : x.map (fun q => 0 + 1 * q) = x := by
  cases x with
  | none => rfl
  | some q => show some (0 + 1 * q) = some q; exact congrArg some (by omega)
section
variable {S : Nat → Prop} {D : Nat → Nat} {E F P N C RC RP RF RO : Nat → Int32}
theorem th_xpb_l (H : th_Ch S P N D) {t : Nat} (ht : t < 24) {post : Int32 → Prop} : ∀ j s a acc w, s + j = 5 → S a → post (th_v ((th_pb P N t j a).map (fun q => acc + w * q))) →
    wX_pathBelow_11 post (nI t) E F P N C RC RP RF RO (j + 1) (nI acc) (nI w) (nI a) (nI s) := by
  intro j
  induction j with
  | zero =>
    intro s a acc w hs ha hp
    have ha24 := (H.2 a ha).1
    refine pk_le 5 s (fun _ => ?_) (fun _ => by omega)
    refine pk_eq a t (fun z => ?_) (fun z => ?_)
    · rw [th_pb, if_pos z] at hp; exact hp
    · rw [th_pb, if_neg z] at hp; exact hp
  | succ j ih =>
    intro s a acc w hs ha hp
    have ha24 := (H.2 a ha).1
    refine pk_le 5 s (fun _ => by omega) (fun _ => ?_)
    rw [th_pb_s] at hp
    refine pk_eq a t (fun z => ?_) (fun z => ?_)
    · rw [if_pos z] at hp
      exact pk_eq a t (fun z => hp) (fun y => absurd z y)
    · rw [if_neg z] at hp
      refine pk_eq a 0 (fun y => ?_) (fun y => ?_)
      · rw [if_pos y] at hp
        exact pk_eq a t (fun x => absurd x z) (fun x => hp)
      · rw [if_neg y] at hp
        obtain ⟨p, q, hP, hN, hq, hpS, hD, h5⟩ := (H.2 a ha).2 y
        have hp24 := (H.2 p hpS).1
        rw [hP, th_cl hp24, hN, th_cl (by omega), ← th_mp] at hp
        refine ⟨pk_in a 24 ha24, nm_r (e' := nI (acc + (q + 1) * w)) (by rw [th_cl ha24, hN, nI_1, pk_mul, nI_add]) (nm_r (e' := nI (w * 9)) (pk_mul w 9) ⟨pk_in a 24 ha24, nm_r (e' := nI p) (by rw [th_cl ha24, hP]) (nm_r (e' := nI (s + 1)) (nI_1 s) ?_)⟩)⟩
        exact ih (s + 1) p (acc + (q + 1) * w) (w * 9) (by omega) hpS hp
theorem th_xpb (H : th_Ch S P N D) {t e : Nat} (ht : t < 24) (he : S e) {post : Int32 → Prop} (h : post (th_v (th_pl P N t e))) : wpX_pathBelow post (E, F, P, N, C, RC, RP, RF, RO) (nI t) (nI e) :=
  Exists.intro 6 (th_xpb_l H ht 5 0 e 0 1 rfl he (by rw [th_mp0]; exact h))
theorem th_xln_l {post : Int32 → Prop} : ∀ d q l, th_ln q = d → l + d ≤ 5 → q < 59049 → post (nI (l + d)) → wX_lengthOf_7 post E F P N C RC RP RF RO (d + 1) (nI l) (nI q) (nI l) := by
  intro d
  induction d with
  | zero =>
    intro q l hd hl hq hp
    have z : q = 0 := by
      by_cases z : q = 0
      · exact z
      · rw [th_lnD (by omega) hq] at hd; omega
    exact pk_le 5 l (fun _ => hp) (fun _ => pk_le q 0 (fun _ => hp) (fun _ => by omega))
  | succ d ih =>
    intro q l hd hl hq hp
    have z : 0 < q := by
      by_cases z : q = 0
      · subst z; rw [th_ln0] at hd; omega
      · omega
    rw [th_lnD z hq] at hd
    refine pk_le 5 l (fun _ => by omega) (fun _ => pk_le q 0 (fun _ => by omega) (fun _ => ⟨th_90, nm_r (e' := nI (q / 9)) (pk_div (d := 9) (by omega) (by omega) (by omega)) (nm_r (nI_1 l) (nm_r (nI_1 l) ?_))⟩))
    exact ih (q / 9) (l + 1) (by omega) (by omega) (by omega) (by rw [show l + 1 + d = l + (d + 1) by omega]; exact hp)
theorem th_xln {q : Nat} (hq : q < 59049) {post : Int32 → Prop} (h : post (nI (th_ln q))) : wpX_lengthOf post (E, F, P, N, C, RC, RP, RF, RO) (nI q) :=
  Exists.intro (th_ln q + 1) (th_xln_l (th_ln q) q 0 rfl (by have := th_ln5 q; omega) hq (by rw [Nat.zero_add]; exact h))
theorem th_xdp (H : th_Ch S P N D) {e : Nat} (he : S e) {post : Int32 → Prop} (h : post (nI (D e))) : wpX_depthOf post (E, F, P, N, C, RC, RP, RF, RO) (nI e) := by
  obtain ⟨q, hq⟩ := th_pl_root H e he
  obtain ⟨h1, h2⟩ := th_pl_D H e he q hq
  rw [H.1, Nat.zero_add] at h2
  unfold wpX_depthOf
  refine th_xpb (t := 0) H (by omega) he ?_
  rw [hq]
  refine th_xln h1 ?_
  rw [← h2]; exact h
def th_G (E : Nat → Int32) (v : Int32) : Prop := ∃ e, e < 24 ∧ v = nI e ∧ ¬ E e = 0
def th_Q (n : Nat) (v : Int32) : Prop := ∃ q, q < n ∧ v = nI q
theorem th_xg1 {v : Int32} (g : th_G E v) {post : Int32 → Prop} (h : post 1) : wpX_isGoodEntry post (E, F, P, N, C, RC, RP, RF, RO) v := by
  obtain ⟨e, he, rfl, hE⟩ := g
  refine br_f (nI_pos (by omega)) (br_f (nI_ge (b := 24) he (by decide)) ⟨pk_in e 24 he, ?_⟩)
  rw [th_cl he]
  exact br_f hE h
theorem th_xg0 {v : Int32} (g : ¬ th_G E v) {post : Int32 → Prop} (h : post 0) : wpX_isGoodEntry post (E, F, P, N, C, RC, RP, RF, RO) v := by
  refine br_c (fun _ => h) (fun h0 => br_c (fun _ => h) (fun h24 => ?_))
  obtain h1 | h1 | ⟨j, hj, rfl⟩ := pk_ix v (n := 24) (by omega)
  · exact absurd h1 h0
  · exact absurd h1 h24
  · refine ⟨pk_in j 24 hj, ?_⟩
    rw [th_cl hj]
    exact br_c (fun _ => h) (fun z => absurd ⟨j, hj, rfl, z⟩ g)
theorem th_xn1 {v : Int32} (g : th_Q 8 v) {post : Int32 → Prop} (h : post 1) : wpX_isGoodName post (E, F, P, N, C, RC, RP, RF, RO) v := by
  obtain ⟨e, he, rfl⟩ := g
  exact br_f (nI_pos (by omega)) (br_f (nI_ge (b := 8) he (by decide)) h)
theorem th_xn0 {v : Int32} (g : ¬ th_Q 8 v) {post : Int32 → Prop} (h : post 0) : wpX_isGoodName post (E, F, P, N, C, RC, RP, RF, RO) v := by
  refine br_c (fun _ => h) (fun h0 => br_c (fun _ => h) (fun h24 => ?_))
  obtain h1 | h1 | ⟨j, hj, rfl⟩ := pk_ix v (n := 8) (by omega)
  · exact absurd h1 h0
  · exact absurd h1 h24
  · exact absurd ⟨j, hj, rfl⟩ g
theorem th_xs1 {v : Int32} (g : th_Q 3 v) {post : Int32 → Prop} (h : post 1) : wpX_isGoodSnapshot post (E, F, P, N, C, RC, RP, RF, RO) v := by
  obtain ⟨e, he, rfl⟩ := g
  exact br_f (nI_pos (by omega)) (br_f (nI_ge (b := 3) he (by decide)) h)
theorem th_xs0 {v : Int32} (g : ¬ th_Q 3 v) {post : Int32 → Prop} (h : post 0) : wpX_isGoodSnapshot post (E, F, P, N, C, RC, RP, RF, RO) v := by
  refine br_c (fun _ => h) (fun h0 => br_c (fun _ => h) (fun h24 => ?_))
  obtain h1 | h1 | ⟨j, hj, rfl⟩ := pk_ix v (n := 3) (by omega)
  · exact absurd h1 h0
  · exact absurd h1 h24
  · exact absurd ⟨j, hj, rfl⟩ g
end
section
variable {S : Nat → Prop} {D : Nat → Nat} {E F P N C M YP YF YC YN : Nat → Int32}
theorem th_ypb_l (H : th_Ch S P N D) {t : Nat} (ht : t < 24) {post : Int32 → Prop} : ∀ j s a acc w, s + j = 5 → S a → D a ≤ j → post (th_v ((th_pb P N t j a).map (fun q => acc + w * q))) →
    wY_from_11 post (nI t) E F P N C M YP YF YC YN (j + 1) (nI acc) (nI w) (nI a) (nI s) := by
  intro j
  induction j with
  | zero =>
    intro s a acc w hs ha hDa hp
    have ha24 := (H.2 a ha).1
    have a0 := th_D0 H ha (by omega)
    refine pk_le 6 s (fun _ => by omega) (fun _ => ?_)
    refine pk_eq a t (fun z => ?_) (fun z => pk_eq a 0 (fun _ => ?_) (fun y => absurd a0 y))
    · rw [th_pb, if_pos z] at hp; exact hp
    · rw [th_pb, if_neg z] at hp; exact hp
  | succ j ih =>
    intro s a acc w hs ha hDa hp
    have ha24 := (H.2 a ha).1
    refine pk_le 6 s (fun _ => by omega) (fun _ => ?_)
    rw [th_pb_s] at hp
    refine pk_eq a t (fun z => ?_) (fun z => ?_)
    · rw [if_pos z] at hp
      exact hp
    · rw [if_neg z] at hp
      refine pk_eq a 0 (fun y => ?_) (fun y => ?_)
      · rw [if_pos y] at hp
        exact hp
      · rw [if_neg y] at hp
        obtain ⟨p, q, hP, hN, hq, hpS, hD, h5⟩ := (H.2 a ha).2 y
        have hp24 := (H.2 p hpS).1
        rw [hP, th_cl hp24, hN, th_cl (by omega), ← th_mp] at hp
        refine ⟨pk_in a 24 ha24, nm_r (e' := nI (acc + (q + 1) * w)) (by rw [th_cl ha24, hN, nI_1, pk_mul, nI_add]) (nm_r (e' := nI (w * 9)) (by rw [Nat.mul_comm w 9]; exact pk_mul 9 w) ⟨pk_in a 24 ha24, nm_r (e' := nI p) (by rw [th_cl ha24, hP]) (nm_r (e' := nI (s + 1)) (nI_1 s) ?_)⟩)⟩
        exact ih (s + 1) p (acc + (q + 1) * w) (w * 9) (by omega) hpS (by omega) hp
theorem th_ypb (H : th_Ch S P N D) {t e : Nat} (ht : t < 24) (he : S e) {post : Int32 → Prop} (h : post (th_v (th_pl P N t e))) : wpY_from post (E, F, P, N, C, M, YP, YF, YC, YN) (nI t) (nI e) :=
  Exists.intro 6 (th_ypb_l H ht 5 0 e 0 1 rfl he (th_D5 H he) (by rw [th_mp0]; exact h))
theorem th_ydp_l (H : th_Ch S P N D) {post : Int32 → Prop} : ∀ j s a l, s + j = 6 → S a → D a ≤ j → post (nI (l + D a)) → wY_depth_7 post E F P N C M YP YF YC YN (j + 1) (nI l) (nI a) (nI s) := by
  intro j
  induction j with
  | zero =>
    intro s a l hs ha hDa hp
    rw [show D a = 0 by omega, Nat.add_zero] at hp
    exact pk_le 6 s (fun _ => hp) (fun _ => by omega)
  | succ j ih =>
    intro s a l hs ha hDa hp
    have ha24 := (H.2 a ha).1
    refine pk_le 6 s (fun _ => by omega) (fun _ => pk_eq a 0 (fun y => ?_) (fun y => ?_))
    · refine nm_r (nI_1 s) ?_
      refine ih (s + 1) a l (by omega) ha ?_ hp
      rw [y, H.1]; omega
    · obtain ⟨p, q, hP, hN, hq, hpS, hD, h5⟩ := (H.2 a ha).2 y
      refine ⟨pk_in a 24 ha24, nm_r (e' := nI p) (by rw [th_cl ha24, hP]) (nm_r (nI_1 l) (nm_r (nI_1 s) ?_))⟩
      exact ih (s + 1) p (l + 1) (by omega) hpS (by omega) (by rw [show l + 1 + D p = l + D a by omega]; exact hp)
theorem th_ydp (H : th_Ch S P N D) {e : Nat} (he : S e) {post : Int32 → Prop} (h : post (nI (D e))) : wpY_depth post (E, F, P, N, C, M, YP, YF, YC, YN) (nI e) :=
  Exists.intro 7 (th_ydp_l H 6 0 e 0 rfl he (by have := th_D5 H he; omega) (by rw [Nat.zero_add]; exact h))
theorem th_yg1 {v : Int32} (g : th_G E v) {post : Int32 → Prop} (h : post 0) : wpY_bad post (E, F, P, N, C, M, YP, YF, YC, YN) v := by
  obtain ⟨e, he, rfl, hE⟩ := g
  refine br_f (nI_pos (by omega)) (pk_lt 23 e (fun _ => by omega) (fun _ => ⟨pk_in e 24 he, ?_⟩))
  rw [th_cl he]
  exact br_f hE h
theorem th_yg0 {v : Int32} (g : ¬ th_G E v) {post : Int32 → Prop} (h : post 1) : wpY_bad post (E, F, P, N, C, M, YP, YF, YC, YN) v := by
  refine br_c (fun _ => h) (fun h0 => br_c (fun _ => h) (fun h24 => ?_))
  obtain ⟨j, hj, rfl⟩ := nI_of h0
  have h2 : j < 24 := by
    by_cases z : j < 24
    · exact z
    · exact absurd (nI_lt (a := 23) (b := j) (by omega) hj) h24
  refine ⟨pk_in j 24 h2, ?_⟩
  rw [th_cl h2]
  exact br_c (fun _ => h) (fun z => absurd ⟨j, h2, rfl, z⟩ g)
theorem th_ys1 {v : Int32} (g : th_Q 3 v) {post : Int32 → Prop} (h : post 0) : wpY_badShot post (E, F, P, N, C, M, YP, YF, YC, YN) v := by
  obtain ⟨e, he, rfl⟩ := g
  exact br_f (nI_pos (by omega)) (pk_le e 2 (fun _ => h) (fun _ => by omega))
theorem th_ys0 {v : Int32} (g : ¬ th_Q 3 v) {post : Int32 → Prop} (h : post 1) : wpY_badShot post (E, F, P, N, C, M, YP, YF, YC, YN) v := by
  refine br_c (fun _ => h) (fun h0 => ?_)
  obtain ⟨j, hj, rfl⟩ := nI_of h0
  exact pk_le j 2 (fun z => absurd ⟨j, by omega, rfl⟩ g) (fun _ => h)
end
