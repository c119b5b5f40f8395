/-! move -/
section
variable {D : Nat → Nat} {E F P N C RC RP RF RO M YP YF YC YN : Nat → Int32}
theorem th_move (T : th_T E F P N C D) (v1 v2 v3 : Int32) : ∃ r P' N' D', (∀ post : Int32 → SX → Prop, post r (E, F, P', N', C, RC, RP, RF, RO) → wpX_move post (E, F, P, N, C, RC, RP, RF, RO) v1 v2 v3) ∧
    (∀ post : Int32 → SY → Prop, post r (E, F, P', N', C, M, YP, YF, YC, YN) → wpY_move post (E, F, P, N, C, M, YP, YF, YC, YN) v1 v2 v3) ∧ th_T E F P' N' C D' := by
  have H := T.1
  by_cases g : th_G E v1
  · obtain ⟨t, ht, rfl, hE⟩ := g
    have tS : th_S E t := ⟨ht, hE⟩
    have g : th_G E (nI t) := ⟨t, ht, rfl, hE⟩
    by_cases t0 : t = 0
    · subst t0
      refine ⟨-1, P, N, D, fun post h => ?_, fun post h => ?_, T⟩
      · unfold wpX_move; exact th_xg1 g (br_f th_10 (br_t rfl h))
      · unfold wpY_move; exact th_yg1 g (br_t rfl (br_t rfl h))
    · have tn : ¬ nI t = 0 := nI_ne0 (by omega) (by omega)
      by_cases g2 : th_G E v2
      · obtain ⟨p, hp, rfl, hpE⟩ := g2
        have pS : th_S E p := ⟨hp, hpE⟩
        have g2 : th_G E (nI p) := ⟨p, hp, rfl, hpE⟩
        by_cases hF : F p = 0
        · by_cases gn : th_Q 8 v3
          · obtain ⟨q, hq, rfl⟩ := gn
            have gn : th_Q 8 (nI q) := ⟨q, hq, rfl⟩
            cases hb : th_pl P N t p with
            | some y =>
              have hy := (th_pl_D H p pS y hb).1
              refine ⟨-4, P, N, D, fun post h => ?_, fun post h => ?_, T⟩
              · unfold wpX_move
                refine th_xg1 g (br_f th_10 (br_f tn (th_xg1 g2 (br_f th_10 ⟨pk_in p 24 hp, th_bt hp hF (th_xn1 gn (br_f th_10 (th_xpb H ht pS ?_)))⟩))))
                rw [hb]; exact br_f (th_m1 (by omega)) h
              · unfold wpY_move
                refine th_yg1 g (br_t rfl (br_f tn (th_yg1 g2 (br_t rfl ⟨pk_in p 24 hp, th_bt hp hF (br_f (nI_pos (by omega)) (pk_le q 7 (fun _ => th_ypb H ht pS ?_) (fun _ => by omega)))⟩))))
                rw [hb]; exact br_f (nI_pos (by omega)) h
            | none =>
              obtain ⟨r, hX, hY, hs⟩ := th_chd (E := E) (F := F) (P := P) (N := N) (C := C) (RC := RC) (RP := RP) (RF := RF) (RO := RO) (M := M) (YP := YP) (YF := YF) (YC := YC) (YN := YN) p q
              have pre : ∀ (r : Int32) (P' N' : Nat → Int32), (∀ post : Int32 → SX → Prop, post r (E, F, P', N', C, RC, RP, RF, RO) → wpX_childNamed (fun r_48 => (((r_48 = (-1) → (wX_move_81 post (nI t) (nI p) (nI q) E F P N C RC RP RF RO)) ∧ (¬ r_48 = (-1) → (((r_48 = nI t → (wX_move_81 post (nI t) (nI p) (nI q) E F P N C RC RP RF RO)) ∧ (¬ r_48 = nI t → (post (-5) (E, F, P, N, C, RC, RP, RF, RO))))))))) (E, F, P, N, C, RC, RP, RF, RO) (nI p) (nI q)) →
                  (∀ post : Int32 → SX → Prop, post r (E, F, P', N', C, RC, RP, RF, RO) → wpX_move post (E, F, P, N, C, RC, RP, RF, RO) (nI t) (nI p) (nI q)) := by
                intro r P' N' hh post h
                unfold wpX_move
                refine th_xg1 g (br_f th_10 (br_f tn (th_xg1 g2 (br_f th_10 ⟨pk_in p 24 hp, th_bt hp hF (th_xn1 gn (br_f th_10 (th_xpb H ht pS ?_)))⟩))))
                rw [hb]; exact br_t rfl (hh post h)
              have pre2 : ∀ (r : Int32) (P' N' : Nat → Int32), (∀ post : Int32 → SY → Prop, post r (E, F, P', N', C, M, YP, YF, YC, YN) → wpY_child (fun r_42 => (((r_42 < 0 → (wY_move_84 post (nI t) (nI p) (nI q) E F P N C M YP YF YC YN)) ∧ (¬ r_42 < 0 → (((r_42 = nI t → (wY_move_84 post (nI t) (nI p) (nI q) E F P N C M YP YF YC YN)) ∧ (¬ r_42 = nI t → (post (-5) (E, F, P, N, C, M, YP, YF, YC, YN))))))))) (E, F, P, N, C, M, YP, YF, YC, YN) (nI p) (nI q)) →
                  (∀ post : Int32 → SY → Prop, post r (E, F, P', N', C, M, YP, YF, YC, YN) → wpY_move post (E, F, P, N, C, M, YP, YF, YC, YN) (nI t) (nI p) (nI q)) := by
                intro r P' N' hh post h
                unfold wpY_move
                refine th_yg1 g (br_t rfl (br_f tn (th_yg1 g2 (br_t rfl ⟨pk_in p 24 hp, th_bt hp hF (br_f (nI_pos (by omega)) (pk_le q 7 (fun _ => th_ypb H ht pS ?_) (fun _ => by omega)))⟩))))
                rw [hb]; exact br_t th_m1lt (hh post h)
              by_cases hc : ∀ x, th_S E x → ¬ x = 0 → P x = nI p → N x = nI q → x = t
              · -- the place is free, or the entry's own
                have stepX : ∀ (r : Int32) (P' N' : Nat → Int32), (∀ post : Int32 → SX → Prop, post r (E, F, P', N', C, RC, RP, RF, RO) → wX_move_81 post (nI t) (nI p) (nI q) E F P N C RC RP RF RO) →
                    (∀ post : Int32 → SX → Prop, post r (E, F, P', N', C, RC, RP, RF, RO) → wpX_move post (E, F, P, N, C, RC, RP, RF, RO) (nI t) (nI p) (nI q)) := by
                  intro r' P' N' hh
                  refine pre r' P' N' (fun post h => hX _ ?_)
                  obtain ⟨e1, _⟩ | ⟨x, hx, x0, e1, hP, hN⟩ := hs
                  · exact br_t e1 (hh post h)
                  · have := hc x hx x0 hP hN
                    subst this
                    exact br_f (by rw [e1]; exact th_m1 (by omega)) (br_t e1 (hh post h))
                have stepY : ∀ (r : Int32) (P' N' : Nat → Int32), (∀ post : Int32 → SY → Prop, post r (E, F, P', N', C, M, YP, YF, YC, YN) → wY_move_84 post (nI t) (nI p) (nI q) E F P N C M YP YF YC YN) →
                    (∀ post : Int32 → SY → Prop, post r (E, F, P', N', C, M, YP, YF, YC, YN) → wpY_move post (E, F, P, N, C, M, YP, YF, YC, YN) (nI t) (nI p) (nI q)) := by
                  intro r' P' N' hh
                  refine pre2 r' P' N' (fun post h => hY _ ?_)
                  obtain ⟨e1, _⟩ | ⟨x, hx, x0, e1, hP, hN⟩ := hs
                  · exact br_t (by rw [e1]; exact th_m1lt) (hh post h)
                  · have := hc x hx x0 hP hN
                    subst this
                    exact br_f (by rw [e1]; exact nI_pos (by omega)) (br_t e1 (hh post h))
                have hD5 := th_D5 H pS
                by_cases hh : ∀ x, th_B E P N t x → D p + 1 + (D x - D t) ≤ 5
                · obtain ⟨D', T'⟩ := th_T_mv T tS t0 pS hF hq hb hc (fun x hx hn => hh x ⟨hx, hn⟩)
                  have small : ∀ n, th_H E P N D t n → D p + 1 + n ≤ 5 := by
                    intro n hn
                    obtain ⟨x, hx, e⟩ := hn.1
                    have := hh x hx
                    omega
                  refine ⟨0, _, _, D', stepX 0 _ _ (fun post h => ?_), stepY 0 _ _ (fun post h => ?_), T'⟩
                  · unfold wX_move_81
                    refine th_xdp H pS (th_xht H tS t0 (fun n hn => ?_))
                    have := small n hn
                    exact pk_le (D p + 1 + n) 5 (fun _ => th_up ht rfl (th_up ht rfl h)) (fun _ => by omega) (by rw [nI_1, nI_add])
                  · unfold wY_move_84
                    refine th_ydp H pS (th_yht H tS (fun n hn => ?_))
                    have := small n hn
                    exact pk_le (D p + 1 + n) 5 (fun _ => th_up ht rfl (th_up ht rfl h)) (fun _ => by omega) (by rw [nI_1, nI_add])
                · have big : ∀ n, th_H E P N D t n → 5 < D p + 1 + n ∧ n ≤ 5 := by
                    intro n hn
                    constructor
                    · by_cases z : 5 < D p + 1 + n
                      · exact z
                      · exact absurd (fun x hx => by have := hn.2 x hx; omega) hh
                    · obtain ⟨x, hx, e⟩ := hn.1
                      have := th_D5 H hx.1
                      omega
                  refine ⟨-6, _, _, D, stepX (-6) P N (fun post h => ?_), stepY (-6) P N (fun post h => ?_), T⟩
                  · unfold wX_move_81
                    refine th_xdp H pS (th_xht H tS t0 (fun n hn => ?_))
                    have := big n hn
                    exact pk_le (D p + 1 + n) 5 (fun _ => by omega) (fun _ => h) (by rw [nI_1, nI_add])
                  · unfold wY_move_84
                    refine th_ydp H pS (th_yht H tS (fun n hn => ?_))
                    have := big n hn
                    exact pk_le (D p + 1 + n) 5 (fun _ => by omega) (fun _ => h) (by rw [nI_1, nI_add])
              · have hc' : ∃ x, th_S E x ∧ ¬ x = t ∧ r = nI x := by
                  obtain ⟨e1, h2⟩ | ⟨x, hx, x0, e1, hP, hN⟩ := hs
                  · exact absurd (fun x hx x0 hP hN => absurd (h2 x hx x0 hP hN) id) hc
                  · refine ⟨x, hx, fun z => hc (fun y hy y0 hyP hyN => ?_), e1⟩
                    rw [← z]
                    exact T.2.2.2.2.2.2 y x hy hx y0 x0 (hyP.trans hP.symm) (hyN.trans hN.symm)
                obtain ⟨x, hx, xt, e1⟩ := hc'
                have x24 := hx.1
                subst e1
                refine ⟨-5, P, N, D, pre (-5) P N (fun post h => hX _ ?_), pre2 (-5) P N (fun post h => hY _ ?_), T⟩
                · exact br_f (th_m1 (by omega)) (pk_eq x t (fun z => absurd z xt) (fun _ => h))
                · exact br_f (nI_pos (by omega)) (pk_eq x t (fun z => absurd z xt) (fun _ => h))
          · refine ⟨-3, P, N, D, fun post h => ?_, fun post h => ?_, T⟩
            · unfold wpX_move
              exact th_xg1 g (br_f th_10 (br_f tn (th_xg1 g2 (br_f th_10 ⟨pk_in p 24 hp, th_bt hp hF (th_xn0 gn (br_t rfl h))⟩))))
            · unfold wpY_move
              refine th_yg1 g (br_t rfl (br_f tn (th_yg1 g2 (br_t rfl ⟨pk_in p 24 hp, th_bt hp hF (br_c (fun _ => h) (fun h0 => ?_))⟩))))
              obtain ⟨j, hj, rfl⟩ := nI_of h0
              exact pk_le j 7 (fun z => absurd ⟨j, by omega, rfl⟩ gn) (fun _ => h)
        · refine ⟨-2, P, N, D, fun post h => ?_, fun post h => ?_, T⟩
          · unfold wpX_move
            exact th_xg1 g (br_f th_10 (br_f tn (th_xg1 g2 (br_f th_10 ⟨pk_in p 24 hp, th_bf hp hF h⟩))))
          · unfold wpY_move
            exact th_yg1 g (br_t rfl (br_f tn (th_yg1 g2 (br_t rfl ⟨pk_in p 24 hp, th_bf hp hF h⟩))))
      · refine ⟨-2, P, N, D, fun post h => ?_, fun post h => ?_, T⟩
        · unfold wpX_move
          exact th_xg1 g (br_f th_10 (br_f tn (th_xg0 g2 (br_t rfl h))))
        · unfold wpY_move
          exact th_yg1 g (br_t rfl (br_f tn (th_yg0 g2 (br_f th_10 h))))
  · refine ⟨-1, P, N, D, fun post h => ?_, fun post h => ?_, T⟩
    · unfold wpX_move; exact th_xg0 g (br_t rfl h)
    · unfold wpY_move; exact th_yg0 g (br_f th_10 h)
end
theorem i_vc_move {k : Nat} {u : SX} {v : SY} (I : i_Rel k u v) (hk : k + 4 ≤ 2048) (v1 : Int32) (v2 : Int32) (v3 : Int32) : wpX_move (fun r u' => wpY_move (fun r' v' => r' = r ∧ i_Rel (k + 4) u' v') v v1 v2 v3) u v1 v2 v3 := by
  obtain ⟨E, F, P, N, C, RC, RP, RF, RO, M, YP, YF, YC, YN, D, rfl, rfl, T, Sn⟩ := I
  obtain ⟨r, P', N', D', hX, hY, T'⟩ := th_move (RC := RC) (RP := RP) (RF := RF) (RO := RO) (M := M) (YP := YP) (YF := YF) (YC := YC) (YN := YN) T v1 v2 v3
  exact hX _ (hY _ ⟨rfl, th_rel T' Sn⟩)
