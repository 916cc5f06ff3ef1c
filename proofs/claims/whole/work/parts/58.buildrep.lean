/-! the heap after the constructors holds the first machine's picture -/
theorem rep_obj {G : nG} {h : nH} {H : Heap} {k r i ci : Nat} {v : vw_C} (hR : nRep G h H) (ho : of_ k r i < h.2) (hk : (h.1 (of_ k r i)).1 = .inl ci) (hcl : vwCl[ci]? = some v) (hz : v.2.2 = kz k) (hc : kc k = some ci) (he : ∀ s, s < kz k → cv (aN G.1) ((h.1 (of_ k r i)).2 s) = cv (G1 G).1 (sv hI_ k r i s)) : atK (G1 G) hI_ H k r i := by
  rw [atK_obj hc]
  have A := nAt_obj hk hcl (hR.2 _ ho)
  rw [hz] at A
  exact A.to he
theorem rep_arr {G : nG} {h : nH} {H : Heap} {k r i : Nat} (hR : nRep G h H) (ho : of_ k r i < h.2) (hk : (h.1 (of_ k r i)).1 = .inr (kt k, kz k)) (hc : kc k = none) (he : ∀ s, s < kz k → cv (aN G.1) ((h.1 (of_ k r i)).2 s) = cv (G1 G).1 (sv hI_ k r i s)) : atK (G1 G) hI_ H k r i := by
  rw [atK_arr hc]
  exact (nAt_arr hk (hR.2 _ ho)).trans (congrArg some (arrV_cong he))
theorem rq_2 {s : Nat} (h : s < 7) : rq (2 + s) = 109 + 51 * s := by
  rcases rq_c (2 + s) with ⟨a, b⟩ | ⟨a, b⟩ | ⟨a, c, b⟩ | ⟨a, b⟩ <;> omega
theorem rq_9 {s : Nat} (h : s < 2) : rq (9 + s) = 469 + 51 * s := by
  rcases rq_c (9 + s) with ⟨a, b⟩ | ⟨a, b⟩ | ⟨a, c, b⟩ | ⟨a, b⟩ <;> omega
theorem rds_all {g : Nat → nO} (r0 : RD g 1 2 40 6 80) (r1 : RD g 52 53 40 6 80) (H : RoI g 108 109 7 7) (S : RoI g 467 469 2 2) : ∀ r, r < 11 → RD g (rq r) (rq r + 1) 40 6 80 := by
  intro r hr
  rcases rq_c r with ⟨a, b⟩ | ⟨a, b⟩ | ⟨a, c, b⟩ | ⟨a, b⟩
  · rw [b]
    exact r0
  · rw [b]
    exact r1
  · rw [b]
    exact H.2 (r - 2) (by omega)
  · rw [b]
    exact S.2 (r - 9) (by omega)
theorem fin_rep {G : nG} {h6 h : nH} {H : Heap} (B : BigI h6) (M : ModI (nPush h6 (.inl 7, fun j => zV (tyX7 j))) 571 h) (hR : nRep G h H) : Rep (G1 G) hI_ H := by
  obtain ⟨b1, ⟨b2, b3⟩, ⟨b4, b5⟩, b6, b7, b8, b9, b10, b11, b12, b13, b14⟩ := B
  have e0 : (nPush h6 (.inl 7, fun j => zV (tyX7 j))).2 = 572 := by
    show h6.2 + 1 = 572
    rw [b1]
  obtain ⟨m1, m2, m3, m4, m5, m6, m7, m8⟩ := M
  rw [e0] at m1 m2 m4 m6 m7 m8
  have fr : ∀ y, y < 571 → h.1 y = h6.1 y := fun y hy => by rw [m2 y (by omega) (by omega), nPush_ne (by omega)]
  have hn : h.2 = 581 := m1
  have lt : ∀ {k r i : Nat}, okId k r i → of_ k r i < h.2 := fun ok => by rw [hn]; exact of_lt ok
  have R0 : RD h.1 1 2 40 6 80 := b4.keep (fun y hy => fr y (by omega))
  have R1 : RD h.1 52 53 40 6 80 := b5.keep (fun y hy => fr y (by omega))
  have RH : RoI h.1 108 109 7 7 := b11.keep (fun y hy => fr y (by omega))
  have RS : RoI h.1 467 469 2 2 := b13.keep (fun y hy => fr y (by omega))
  have RR := rds_all R0 R1 RH RS
  rw [← fr 0 (by omega)] at b2 b3
  rw [← fr 103 (by omega)] at b6
  rw [← fr 104 (by omega)] at b7
  rw [← fr 105 (by omega)] at b8
  rw [← fr 106 (by omega)] at b9
  rw [← fr 107 (by omega)] at b10
  rw [← fr 466 (by omega)] at b12
  rw [← fr 468 (by omega)] at b14
  intro k r i ok
  rcases ok_30 ok with e | e | e | e | e | e | e | e | e | e | e | e | e | e | e | e | e | e | e | e | e | e | e | e | e | e | e | e | e | e <;> subst e
  · obtain ⟨h1, h2⟩ : r < 11 ∧ i = 0 := id ok
    subst h2
    obtain ⟨k0, ⟨s0, s1, s2, s3⟩, ⟨s4, s5, s6⟩, s7, s8⟩ := (RR r h1).1
    refine rep_obj hR (lt ok) (ci := 4) k0 rfl rfl rfl (fun s hs => ?_)
    have hs : s < 9 := hs
    show cv (aN G.1) ((h.1 (rq r)).2 s) = _
    rcases (show s = 0 ∨ s = 1 ∨ s = 2 ∨ s = 3 ∨ s = 4 ∨ s = 5 ∨ s = 6 ∨ s = 7 ∨ s = 8 by omega) with rfl | rfl | rfl | rfl | rfl | rfl | rfl | rfl | rfl
    · rw [s0]; rfl
    · rw [s1]; rfl
    · rw [s2]; rfl
    · rw [s3]; rfl
    · rw [s4]; rfl
    · rw [s5]; rfl
    · rw [s6]; rfl
    · rw [s7]; rfl
    · rw [s8]; rfl
  · obtain ⟨h1, h2⟩ : r < 11 ∧ i = 0 := id ok
    subst h2
    have o := (RR r h1).2.1
    refine rep_arr hR (lt ok) o.1 rfl (fun s hs => ?_)
    show cv (aN G.1) ((h.1 (rq r + 1)).2 s) = Value.ref (G.1 + (rq r + 5 + s))
    rw [o.2 s hs]
    exact congrArg Value.ref (show G.1 + (rq r + 1 + 4 + s) = G.1 + (rq r + 5 + s) by omega)
  · obtain ⟨h1, h2⟩ : r < 11 ∧ i = 0 := id ok
    subst h2
    have o := (RR r h1).2.2.1
    refine rep_arr hR (lt ok) o.1 rfl (fun s hs => ?_)
    show cv (aN G.1) ((h.1 (rq r + 1 + 1)).2 s) = Value.ref (G.1 + (if r = 11 then 103 else rq r + 45 + s))
    rw [o.2 s hs, if_neg (by omega)]
    exact congrArg Value.ref (show G.1 + (rq r + 1 + 44 + s) = G.1 + (rq r + 45 + s) by omega)
  · obtain ⟨h1, h2⟩ : r < 11 ∧ i = 0 := id ok
    subst h2
    have o := (RR r h1).2.2.2.1
    refine rep_arr hR (lt ok) o.1 rfl (fun s hs => ?_)
    show cv (aN G.1) ((h.1 (rq r + 1 + 2)).2 s) = _
    rw [o.2 s hs]
    rfl
  · obtain ⟨h1, h2⟩ : r < 11 ∧ i = 0 := id ok
    subst h2
    have o := (RR r h1).2.2.2.2.1
    refine rep_arr hR (lt ok) o.1 rfl (fun s hs => ?_)
    show cv (aN G.1) ((h.1 (rq r + 1 + 3)).2 s) = _
    rw [o.2 s]
    rfl
  · obtain ⟨h1, h2⟩ : r < 11 ∧ i < 40 := id ok
    have o := (RR r h1).2.2.2.2.2.1 i h2
    rw [show rq r + 1 + 4 + i = rq r + 5 + i by omega] at o
    refine rep_obj hR (lt ok) (ci := 0) o.1 rfl rfl rfl (fun s hs => ?_)
    show cv (aN G.1) ((h.1 (rq r + 5 + i)).2 s) = _
    cases s with
    | zero =>
      rw [o.2.1]
      rfl
    | succ s =>
      rw [o.2.2 (s + 1) (by omega) hs]
      rfl
  · have ok2 : (r < 11 ∧ i < 6) ∨ (r = 11 ∧ i = 0) := ok
    have eo : of_ 6 r i = if r = 11 then 103 else rq r + 45 + i := rfl
    have o : LopO (h.1 (of_ 6 r i)) := by
      rcases ok2 with ⟨h1, h2⟩ | ⟨h1, h2⟩
      · have o := (RR r h1).2.2.2.2.2.2 i h2
        rw [eo, if_neg (by omega), show rq r + 45 + i = rq r + 1 + 44 + i by omega]
        exact o
      · rw [eo, if_pos h1]
        exact b6
    refine rep_obj hR (lt ok) (ci := 2) o.1 rfl rfl rfl (fun s hs => ?_)
    rw [o.2 s hs]
    rfl
  · obtain ⟨-, h1, h2⟩ : _ < 30 ∧ r = 0 ∧ i = 0 := id ok
    subst h1 h2
    obtain ⟨s0, s1, s2, s3, s4, s5, s6⟩ := b3
    refine rep_obj hR (lt ok) (ci := 6) b2 rfl rfl rfl (fun s hs => ?_)
    have hs : s < 7 := hs
    show cv (aN G.1) ((h.1 0).2 s) = _
    rcases (show s = 0 ∨ s = 1 ∨ s = 2 ∨ s = 3 ∨ s = 4 ∨ s = 5 ∨ s = 6 by omega) with rfl | rfl | rfl | rfl | rfl | rfl | rfl
    · rw [s0]; rfl
    · rw [s1]; rfl
    · rw [s2]; rfl
    · rw [s3]; rfl
    · rw [s4]; rfl
    · rw [s5]; rfl
    · rw [s6]; rfl
  · obtain ⟨-, h1, h2⟩ : _ < 30 ∧ r = 0 ∧ i = 0 := id ok
    subst h1 h2
    refine rep_arr hR (lt ok) b7.1 rfl (fun s hs => ?_)
    show cv (aN G.1) ((h.1 104).2 s) = _
    rw [b7.2 s]
    rfl
  · obtain ⟨-, h1, h2⟩ : _ < 30 ∧ r = 0 ∧ i = 0 := id ok
    subst h1 h2
    refine rep_obj hR (lt ok) (ci := 3) b8.1 rfl rfl rfl (fun s hs => ?_)
    have hs : s < 2 := hs
    show cv (aN G.1) ((h.1 105).2 s) = _
    rcases (show s = 0 ∨ s = 1 by omega) with rfl | rfl
    · rw [b8.2.1]; rfl
    · rw [b8.2.2]; rfl
  · obtain ⟨-, h1, h2⟩ : _ < 30 ∧ r = 0 ∧ i = 0 := id ok
    subst h1 h2
    refine rep_arr hR (lt ok) b9.1 rfl (fun s hs => ?_)
    show cv (aN G.1) ((h.1 106).2 s) = _
    rw [b9.2 s]
    rfl
  · obtain ⟨-, h1, h2⟩ : _ < 30 ∧ r = 0 ∧ i = 0 := id ok
    subst h1 h2
    refine rep_obj hR (lt ok) (ci := 1) b10.1 rfl rfl rfl (fun s hs => ?_)
    have hs : s < 3 := hs
    show cv (aN G.1) ((h.1 107).2 s) = _
    rcases (show s = 0 ∨ s = 1 ∨ s = 2 by omega) with rfl | rfl | rfl
    · rw [b10.2.1]; rfl
    · rw [b10.2.2.1]; rfl
    · rw [b10.2.2.2]; rfl
  · obtain ⟨-, h1, h2⟩ : _ < 30 ∧ r = 0 ∧ i = 0 := id ok
    subst h1 h2
    refine rep_arr hR (lt ok) RH.1.1 rfl (fun s hs => ?_)
    show cv (aN G.1) ((h.1 108).2 s) = Value.ref (G.1 + rq (2 + s))
    rw [RH.1.2 s hs, rq_2 hs]
    rfl
  · obtain ⟨-, h1, h2⟩ : _ < 30 ∧ r = 0 ∧ i = 0 := id ok
    subst h1 h2
    refine rep_obj hR (lt ok) (ci := 5) b12.1 rfl rfl rfl (fun s hs => ?_)
    have hs : s < 2 := hs
    show cv (aN G.1) ((h.1 466).2 s) = _
    rcases (show s = 0 ∨ s = 1 by omega) with rfl | rfl
    · rw [b12.2.1]; rfl
    · rw [b12.2.2]; rfl
  · obtain ⟨-, h1, h2⟩ : _ < 30 ∧ r = 0 ∧ i = 0 := id ok
    subst h1 h2
    refine rep_arr hR (lt ok) RS.1.1 rfl (fun s hs => ?_)
    show cv (aN G.1) ((h.1 467).2 s) = Value.ref (G.1 + rq (9 + s))
    rw [RS.1.2 s hs, rq_9 hs]
    rfl
  · obtain ⟨-, h1, h2⟩ : _ < 30 ∧ r = 0 ∧ i = 0 := id ok
    subst h1 h2
    refine rep_arr hR (lt ok) b14.1 rfl (fun s hs => ?_)
    show cv (aN G.1) ((h.1 468).2 s) = _
    rw [b14.2 s]
    rfl
  · exact absurd ok (fun z => z)
  · exact absurd ok (fun z => z)
  · exact absurd ok (fun z => z)
  · exact absurd ok (fun z => z)
  · obtain ⟨-, h1, h2⟩ : _ < 30 ∧ r = 0 ∧ i = 0 := id ok
    subst h1 h2
    have ot : ∀ j, (∀ k, k < 9 → j ≠ asl k) → (h.1 571).2 j = zV (tyX7 j) := fun j hj => by rw [m5 j hj, nPush_eq (by omega)] <;> rfl
    refine rep_obj hR (lt ok) (ci := 7) m3 rfl rfl rfl (fun s hs => ?_)
    have hs : s < 15 := hs
    show cv (aN G.1) ((h.1 571).2 s) = _
    rcases (show s = 0 ∨ s = 1 ∨ s = 2 ∨ s = 3 ∨ s = 4 ∨ s = 5 ∨ s = 6 ∨ s = 7 ∨ s = 8 ∨ s = 9 ∨ s = 10 ∨ s = 11 ∨ s = 12 ∨ s = 13 ∨ s = 14 by omega) with rfl | rfl | rfl | rfl | rfl | rfl | rfl | rfl | rfl | rfl | rfl | rfl | rfl | rfl | rfl
    · rw [show (h.1 571).2 0 = vQ (572 + 0) from m4 0 (by decide)]; rfl
    · rw [show (h.1 571).2 1 = vQ (572 + 1) from m4 1 (by decide)]; rfl
    · rw [show (h.1 571).2 2 = vQ (572 + 2) from m4 2 (by decide)]; rfl
    · rw [ot 3 (by decide +kernel)]; rfl
    · rw [show (h.1 571).2 4 = vQ (572 + 3) from m4 3 (by decide)]; rfl
    · rw [show (h.1 571).2 5 = vQ (572 + 4) from m4 4 (by decide)]; rfl
    · rw [show (h.1 571).2 6 = vQ (572 + 5) from m4 5 (by decide)]; rfl
    · rw [ot 7 (by decide +kernel)]; rfl
    · rw [ot 8 (by decide +kernel)]; rfl
    · rw [show (h.1 571).2 9 = vQ (572 + 6) from m4 6 (by decide)]; rfl
    · rw [show (h.1 571).2 10 = vQ (572 + 7) from m4 7 (by decide)]; rfl
    · rw [show (h.1 571).2 11 = vQ (572 + 8) from m4 8 (by decide)]; rfl
    · rw [ot 12 (by decide +kernel)]; rfl
    · rw [ot 13 (by decide +kernel)]; rfl
    · rw [ot 14 (by decide +kernel)]; rfl
  · obtain ⟨-, h1, h2⟩ : _ < 30 ∧ r = 0 ∧ i = 0 := id ok
    subst h1 h2
    refine rep_arr hR (lt ok) (m6 0 (by decide)) rfl (fun s hs => ?_)
    show cv (aN G.1) ((h.1 572).2 s) = _
    rw [m8 s]
    rfl
  · obtain ⟨-, h1, h2⟩ : _ < 30 ∧ r = 0 ∧ i = 0 := id ok
    subst h1 h2
    refine rep_arr hR (lt ok) (m6 1 (by decide)) rfl (fun s hs => ?_)
    show cv (aN G.1) ((h.1 573).2 s) = _
    rw [show (h.1 573).2 s = vI 0 from m7 1 s (by decide) (by decide)]
    rfl
  · obtain ⟨-, h1, h2⟩ : _ < 30 ∧ r = 0 ∧ i = 0 := id ok
    subst h1 h2
    refine rep_arr hR (lt ok) (m6 2 (by decide)) rfl (fun s hs => ?_)
    show cv (aN G.1) ((h.1 574).2 s) = _
    rw [show (h.1 574).2 s = vI 0 from m7 2 s (by decide) (by decide)]
    rfl
  · obtain ⟨-, h1, h2⟩ : _ < 30 ∧ r = 0 ∧ i = 0 := id ok
    subst h1 h2
    refine rep_arr hR (lt ok) (m6 3 (by decide)) rfl (fun s hs => ?_)
    show cv (aN G.1) ((h.1 575).2 s) = _
    rw [show (h.1 575).2 s = vI 0 from m7 3 s (by decide) (by decide)]
    rfl
  · obtain ⟨-, h1, h2⟩ : _ < 30 ∧ r = 0 ∧ i = 0 := id ok
    subst h1 h2
    refine rep_arr hR (lt ok) (m6 4 (by decide)) rfl (fun s hs => ?_)
    show cv (aN G.1) ((h.1 576).2 s) = _
    rw [show (h.1 576).2 s = vI 0 from m7 4 s (by decide) (by decide)]
    rfl
  · obtain ⟨-, h1, h2⟩ : _ < 30 ∧ r = 0 ∧ i = 0 := id ok
    subst h1 h2
    refine rep_arr hR (lt ok) (m6 5 (by decide)) rfl (fun s hs => ?_)
    show cv (aN G.1) ((h.1 577).2 s) = _
    rw [show (h.1 577).2 s = vI 0 from m7 5 s (by decide) (by decide)]
    rfl
  · obtain ⟨-, h1, h2⟩ : _ < 30 ∧ r = 0 ∧ i = 0 := id ok
    subst h1 h2
    refine rep_arr hR (lt ok) (m6 6 (by decide)) rfl (fun s hs => ?_)
    show cv (aN G.1) ((h.1 578).2 s) = _
    rw [show (h.1 578).2 s = vI 0 from m7 6 s (by decide) (by decide)]
    rfl
  · obtain ⟨-, h1, h2⟩ : _ < 30 ∧ r = 0 ∧ i = 0 := id ok
    subst h1 h2
    refine rep_arr hR (lt ok) (m6 7 (by decide)) rfl (fun s hs => ?_)
    show cv (aN G.1) ((h.1 579).2 s) = _
    rw [show (h.1 579).2 s = vI 0 from m7 7 s (by decide) (by decide)]
    rfl
  · obtain ⟨-, h1, h2⟩ : _ < 30 ∧ r = 0 ∧ i = 0 := id ok
    subst h1 h2
    refine rep_arr hR (lt ok) (m6 8 (by decide)) rfl (fun s hs => ?_)
    show cv (aN G.1) ((h.1 580).2 s) = _
    rw [show (h.1 580).2 s = vI 0 from m7 8 s (by decide) (by decide)]
    rfl
