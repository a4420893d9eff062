def μL : List (Nat → Int32) := [(fun _ => 0), (fun _ => 0), (r4 1 1 1 1), (r4 5 5 5 5), (fun _ => 0), (r4 0 2 4 6), (fun _ => 0), (fun _ => 0), (fun _ => 0), (fun _ => 0), (fun _ => 0), (fun _ => 0), (upd (upd (fun _ => 0) 18 (-9)) 19 (-9)), (r4 1 1 1 1), (r4 5 5 5 5), (fun _ => 0), (r4 0 2 4 6), (fun _ => 0), (fun _ => 0), (fun _ => 0), (fun _ => 0), (fun _ => 0), (fun _ => 0), (fun _ => 0), (fun _ => 0), (fun _ => 0), (fun _ => 0), (fun _ => 0), (r4 1 1 1 1), (r4 5 5 5 5), (fun _ => 0), (r4 0 2 4 6), (fun _ => 0), (fun _ => 0), (fun _ => 0), (fun _ => 0), (fun _ => 0), (fun _ => 0), (fun _ => 0), (fun _ => 0), (fun _ => 0), (r4 1 1 1 1), (r4 5 5 5 5), (fun _ => 0), (r4 0 2 4 6), (fun _ => 0), (fun _ => 0), (fun _ => 0), (fun _ => 0), (fun _ => 0), (fun _ => 0), (fun _ => 0), (r4 1 1 1 1), (r4 5 5 5 5), (fun _ => 0), (r4 0 2 4 6), (fun _ => 0), (fun _ => 0), (fun _ => 0), (fun _ => 0), (fun _ => 0), (fun _ => 0), (fun _ => 0), (r4 1 1 1 1), (r4 5 5 5 5), (fun _ => 0), (r4 0 2 4 6), (fun _ => 0), (fun _ => 0), (fun _ => 0), (fun _ => 0), (fun _ => 0), (fun _ => 0), (fun _ => 0), (r4 1 1 1 1), (r4 5 5 5 5), (fun _ => 0), (r4 0 2 4 6), (fun _ => 0), (fun _ => 0), (fun _ => 0), (fun _ => 0), (fun _ => 0), (fun _ => 0), (fun _ => 0), (r4 1 1 1 1), (r4 5 5 5 5), (fun _ => 0), (r4 0 2 4 6), (fun _ => 0), (fun _ => 0), (fun _ => 0), (fun _ => 0), (fun _ => 0), (fun _ => 0), (fun _ => 0), (r4 1 1 1 1), (r4 5 5 5 5), (fun _ => 0), (r4 0 2 4 6), (fun _ => 0), (fun _ => 0), (fun _ => 0), (fun _ => 0), (fun _ => 0), (fun _ => 0), (fun _ => 0), (r4 1 1 1 1), (r4 5 5 5 5), (fun _ => 0), (r4 0 2 4 6), (fun _ => 0), (fun _ => 0), (fun _ => 0), (fun _ => 0), (fun _ => 0), (fun _ => 0), (fun _ => 0), (r4 1 1 1 1), (r4 5 5 5 5), (fun _ => 0), (r4 0 2 4 6), (fun _ => 0), (fun _ => 0), (fun _ => 0), (fun _ => 0), (fun _ => 0), (fun _ => 0), (fun _ => 0), (fun _ => 0), (fun _ => 0), (fun _ => 0), (fun _ => 0), (fun _ => 0)]
def μ0 : Mem := fun i => μL.getD i (fun _ => 0)
def a0 : Ab := (fun r o => if r = 0 then 1 else if r = 1 then 5 else if r = 3 then 2 * (o : Int) else 0, 0)
theorem good0 : good a0 0 := by
  refine ⟨⟨by decide, fun o ho => ?_, fun s hs => absurd hs (by show ¬ s < 0; omega), by decide, by decide⟩, fun o ho => ?_, by decide, by decide, fun s hs => absurd hs (by show ¬ s < 0; omega), fun s t hs => absurd hs (by show ¬ s < 0; omega)⟩
  · rcases (show o = 0 ∨ o = 1 ∨ o = 2 ∨ o = 3 by omega) with rfl | rfl | rfl | rfl <;> decide
  · show (5 : Int) ≤ 30
    decide
theorem RC0 : RC 1 μ0 a0 := by
  refine ⟨fun o ho => ?_, fun s hs => absurd hs (by show ¬ s < 0; omega), by decide +kernel, by decide +kernel, by decide +kernel⟩
  rcases (show o = 0 ∨ o = 1 ∨ o = 2 ∨ o = 3 by omega) with rfl | rfl | rfl | rfl <;> decide +kernel
theorem J0 : J a0 none none μ0 := ⟨RC0, (fun b hb => nomatch hb), ⟨0, 0, by decide, by decide, by decide +kernel, by decide +kernel, fun b hb => nomatch hb⟩, by decide +kernel⟩
theorem pa_map (A : Nat → Nat) : (fun j : Nat => [A 40, A 51, A 62, A 73, A 84, A 95, A 106, A 117][j]?) = (fun j : Nat => ([40, 51, 62, 73, 84, 95, 106, 117][j]?).map A) := by
  funext j
  rw [← List.getElem?_map]
  rfl
theorem ly_40 : lay 40 = .inr (.inr (0, flF 40 ++ [])) := by decide +kernel
theorem ly_41 : lay 41 = .inl 4 := by decide +kernel
theorem ly_42 : lay 42 = .inl 4 := by decide +kernel
theorem ly_43 : lay 43 = .inl 4 := by decide +kernel
theorem ly_44 : lay 44 = .inl 4 := by decide +kernel
theorem ly_45 : lay 45 = .inl 9 := by decide +kernel
theorem ly_46 : lay 46 = .inl 9 := by decide +kernel
theorem ly_47 : lay 47 = .inl 9 := by decide +kernel
theorem ly_48 : lay 48 = .inl 9 := by decide +kernel
theorem ly_49 : lay 49 = .inl 9 := by decide +kernel
theorem ly_50 : lay 50 = .inl 9 := by decide +kernel
theorem ly_51 : lay 51 = .inr (.inr (0, flF 51 ++ [])) := by decide +kernel
theorem ly_52 : lay 52 = .inl 4 := by decide +kernel
theorem ly_53 : lay 53 = .inl 4 := by decide +kernel
theorem ly_54 : lay 54 = .inl 4 := by decide +kernel
theorem ly_55 : lay 55 = .inl 4 := by decide +kernel
theorem ly_56 : lay 56 = .inl 9 := by decide +kernel
theorem ly_57 : lay 57 = .inl 9 := by decide +kernel
theorem ly_58 : lay 58 = .inl 9 := by decide +kernel
theorem ly_59 : lay 59 = .inl 9 := by decide +kernel
theorem ly_60 : lay 60 = .inl 9 := by decide +kernel
theorem ly_61 : lay 61 = .inl 9 := by decide +kernel
theorem ly_62 : lay 62 = .inr (.inr (0, flF 62 ++ [])) := by decide +kernel
theorem ly_63 : lay 63 = .inl 4 := by decide +kernel
theorem ly_64 : lay 64 = .inl 4 := by decide +kernel
theorem ly_65 : lay 65 = .inl 4 := by decide +kernel
theorem ly_66 : lay 66 = .inl 4 := by decide +kernel
theorem ly_67 : lay 67 = .inl 9 := by decide +kernel
theorem ly_68 : lay 68 = .inl 9 := by decide +kernel
theorem ly_69 : lay 69 = .inl 9 := by decide +kernel
theorem ly_70 : lay 70 = .inl 9 := by decide +kernel
theorem ly_71 : lay 71 = .inl 9 := by decide +kernel
theorem ly_72 : lay 72 = .inl 9 := by decide +kernel
theorem ly_73 : lay 73 = .inr (.inr (0, flF 73 ++ [])) := by decide +kernel
theorem ly_74 : lay 74 = .inl 4 := by decide +kernel
theorem ly_75 : lay 75 = .inl 4 := by decide +kernel
theorem ly_76 : lay 76 = .inl 4 := by decide +kernel
theorem ly_77 : lay 77 = .inl 4 := by decide +kernel
theorem ly_78 : lay 78 = .inl 9 := by decide +kernel
theorem ly_79 : lay 79 = .inl 9 := by decide +kernel
theorem ly_80 : lay 80 = .inl 9 := by decide +kernel
theorem ly_81 : lay 81 = .inl 9 := by decide +kernel
theorem ly_82 : lay 82 = .inl 9 := by decide +kernel
theorem ly_83 : lay 83 = .inl 9 := by decide +kernel
theorem ly_84 : lay 84 = .inr (.inr (0, flF 84 ++ [])) := by decide +kernel
theorem ly_85 : lay 85 = .inl 4 := by decide +kernel
theorem ly_86 : lay 86 = .inl 4 := by decide +kernel
theorem ly_87 : lay 87 = .inl 4 := by decide +kernel
theorem ly_88 : lay 88 = .inl 4 := by decide +kernel
theorem ly_89 : lay 89 = .inl 9 := by decide +kernel
theorem ly_90 : lay 90 = .inl 9 := by decide +kernel
theorem ly_91 : lay 91 = .inl 9 := by decide +kernel
theorem ly_92 : lay 92 = .inl 9 := by decide +kernel
theorem ly_93 : lay 93 = .inl 9 := by decide +kernel
theorem ly_94 : lay 94 = .inl 9 := by decide +kernel
theorem ly_95 : lay 95 = .inr (.inr (0, flF 95 ++ [])) := by decide +kernel
theorem ly_96 : lay 96 = .inl 4 := by decide +kernel
theorem ly_97 : lay 97 = .inl 4 := by decide +kernel
theorem ly_98 : lay 98 = .inl 4 := by decide +kernel
theorem ly_99 : lay 99 = .inl 4 := by decide +kernel
theorem ly_100 : lay 100 = .inl 9 := by decide +kernel
theorem ly_101 : lay 101 = .inl 9 := by decide +kernel
theorem ly_102 : lay 102 = .inl 9 := by decide +kernel
theorem ly_103 : lay 103 = .inl 9 := by decide +kernel
theorem ly_104 : lay 104 = .inl 9 := by decide +kernel
theorem ly_105 : lay 105 = .inl 9 := by decide +kernel
theorem ly_106 : lay 106 = .inr (.inr (0, flF 106 ++ [])) := by decide +kernel
theorem ly_107 : lay 107 = .inl 4 := by decide +kernel
theorem ly_108 : lay 108 = .inl 4 := by decide +kernel
theorem ly_109 : lay 109 = .inl 4 := by decide +kernel
theorem ly_110 : lay 110 = .inl 4 := by decide +kernel
theorem ly_111 : lay 111 = .inl 9 := by decide +kernel
theorem ly_112 : lay 112 = .inl 9 := by decide +kernel
theorem ly_113 : lay 113 = .inl 9 := by decide +kernel
theorem ly_114 : lay 114 = .inl 9 := by decide +kernel
theorem ly_115 : lay 115 = .inl 9 := by decide +kernel
theorem ly_116 : lay 116 = .inl 9 := by decide +kernel
theorem ly_117 : lay 117 = .inr (.inr (0, flF 117 ++ [])) := by decide +kernel
theorem ly_118 : lay 118 = .inl 4 := by decide +kernel
theorem ly_119 : lay 119 = .inl 4 := by decide +kernel
theorem ly_120 : lay 120 = .inl 4 := by decide +kernel
theorem ly_121 : lay 121 = .inl 4 := by decide +kernel
theorem ly_122 : lay 122 = .inl 9 := by decide +kernel
theorem ly_123 : lay 123 = .inl 9 := by decide +kernel
theorem ly_124 : lay 124 = .inl 9 := by decide +kernel
theorem ly_125 : lay 125 = .inl 9 := by decide +kernel
theorem ly_126 : lay 126 = .inl 9 := by decide +kernel
theorem ly_127 : lay 127 = .inl 9 := by decide +kernel
theorem ce_0 (G : Gh) : cellE G 0 (μ0 0) = .inr (3, [.ref (gA G 1), .ref (gA G 12), .ref (gA G 27), .int 0, .ref (gA G 38), .ref (gA G 128), .int 0, .ref (gA G 129), .int 0, .ref (gA G 130), .ref (gA G 131), .ref (gA G 132), .ref (gA G 133), .int 0]) := by
  have h : cellE G 0 (μ0 0) = .inr (3, [.ref (gA G 1), .ref (gA G 12), .ref (gA G 27), .int (μ0 0 3), .ref (gA G 38), .ref (gA G 128), .int (μ0 0 6), .ref (gA G 129), .int (μ0 0 8), .ref (gA G 130), .ref (gA G 131), .ref (gA G 132), .ref (gA G 133), .int (μ0 0 13)]) := by unfold cellE; rw [ly_0]; generalize μ0 0 = row; simp [rowV, flF, List.mapIdx_cons]
  rw [h, show μ0 0 3 = 0 from by decide +kernel, show μ0 0 6 = 0 from by decide +kernel, show μ0 0 8 = 0 from by decide +kernel, show μ0 0 13 = 0 from by decide +kernel]
theorem ce_12 (G : Gh) : cellE G 12 (μ0 12) = .inr (1, [.ref (gA G 13), .ref (gA G 14), .ref (gA G 15), .ref (gA G 16), .ref (gA G 17), .ref (gA G 18), .ref (gA G 19), .ref (gA G 20), .ref (gA G 21), .ref (gA G 22), .int 0, .int 0, .int 0, .int 0, .ref (gA G 23), .ref (gA G 24), .ref (gA G 25), .ref (gA G 26), .int (-9), .int (-9)]) := by
  have h : cellE G 12 (μ0 12) = .inr (1, [.ref (gA G 13), .ref (gA G 14), .ref (gA G 15), .ref (gA G 16), .ref (gA G 17), .ref (gA G 18), .ref (gA G 19), .ref (gA G 20), .ref (gA G 21), .ref (gA G 22), .int (μ0 12 10), .int (μ0 12 11), .int (μ0 12 12), .int (μ0 12 13), .ref (gA G 23), .ref (gA G 24), .ref (gA G 25), .ref (gA G 26), .int (μ0 12 18), .int (μ0 12 19)]) := by unfold cellE; rw [ly_12]; generalize μ0 12 = row; simp [rowV, flF, List.mapIdx_cons]
  rw [h, show μ0 12 10 = 0 from by decide +kernel, show μ0 12 11 = 0 from by decide +kernel, show μ0 12 12 = 0 from by decide +kernel, show μ0 12 13 = 0 from by decide +kernel, show μ0 12 18 = (-9) from by decide +kernel, show μ0 12 19 = (-9) from by decide +kernel]
theorem ce_1 (G : Gh) : cellE G 1 (μ0 1) = .inr (0, [.ref (gA G 2), .ref (gA G 3), .ref (gA G 4), .ref (gA G 5), .ref (gA G 6), .ref (gA G 7), .ref (gA G 8), .ref (gA G 9), .ref (gA G 10), .ref (gA G 11), .int 0, .int 0, .int 0]) := by unfold cellE; rw [ly_1]; rfl
theorem ce_2 (G : Gh) : cellE G 2 (μ0 2) = .inl (gI G, 4, .inl (r4 1 1 1 1)) := by unfold cellE; rw [ly_2]; rfl
theorem ce_3 (G : Gh) : cellE G 3 (μ0 3) = .inl (gI G, 4, .inl (r4 5 5 5 5)) := by unfold cellE; rw [ly_3]; rfl
theorem ce_4 (G : Gh) : cellE G 4 (μ0 4) = .inl (gI G, 4, .inl (fun _ => 0)) := by unfold cellE; rw [ly_4]; rfl
theorem ce_5 (G : Gh) : cellE G 5 (μ0 5) = .inl (gI G, 4, .inl (r4 0 2 4 6)) := by unfold cellE; rw [ly_5]; rfl
theorem ce_6 (G : Gh) : cellE G 6 (μ0 6) = .inl (gI G, 9, .inl (fun _ => 0)) := by unfold cellE; rw [ly_6]; rfl
theorem ce_7 (G : Gh) : cellE G 7 (μ0 7) = .inl (gI G, 9, .inl (fun _ => 0)) := by unfold cellE; rw [ly_7]; rfl
theorem ce_8 (G : Gh) : cellE G 8 (μ0 8) = .inl (gI G, 9, .inl (fun _ => 0)) := by unfold cellE; rw [ly_8]; rfl
theorem ce_9 (G : Gh) : cellE G 9 (μ0 9) = .inl (gI G, 9, .inl (fun _ => 0)) := by unfold cellE; rw [ly_9]; rfl
theorem ce_10 (G : Gh) : cellE G 10 (μ0 10) = .inl (gI G, 9, .inl (fun _ => 0)) := by unfold cellE; rw [ly_10]; rfl
theorem ce_11 (G : Gh) : cellE G 11 (μ0 11) = .inl (gI G, 9, .inl (fun _ => 0)) := by unfold cellE; rw [ly_11]; rfl
theorem ce_13 (G : Gh) : cellE G 13 (μ0 13) = .inl (gI G, 4, .inl (r4 1 1 1 1)) := by unfold cellE; rw [ly_13]; rfl
theorem ce_14 (G : Gh) : cellE G 14 (μ0 14) = .inl (gI G, 4, .inl (r4 5 5 5 5)) := by unfold cellE; rw [ly_14]; rfl
theorem ce_15 (G : Gh) : cellE G 15 (μ0 15) = .inl (gI G, 4, .inl (fun _ => 0)) := by unfold cellE; rw [ly_15]; rfl
theorem ce_16 (G : Gh) : cellE G 16 (μ0 16) = .inl (gI G, 4, .inl (r4 0 2 4 6)) := by unfold cellE; rw [ly_16]; rfl
theorem ce_17 (G : Gh) : cellE G 17 (μ0 17) = .inl (gI G, 9, .inl (fun _ => 0)) := by unfold cellE; rw [ly_17]; rfl
theorem ce_18 (G : Gh) : cellE G 18 (μ0 18) = .inl (gI G, 9, .inl (fun _ => 0)) := by unfold cellE; rw [ly_18]; rfl
theorem ce_19 (G : Gh) : cellE G 19 (μ0 19) = .inl (gI G, 9, .inl (fun _ => 0)) := by unfold cellE; rw [ly_19]; rfl
theorem ce_20 (G : Gh) : cellE G 20 (μ0 20) = .inl (gI G, 9, .inl (fun _ => 0)) := by unfold cellE; rw [ly_20]; rfl
theorem ce_21 (G : Gh) : cellE G 21 (μ0 21) = .inl (gI G, 9, .inl (fun _ => 0)) := by unfold cellE; rw [ly_21]; rfl
theorem ce_22 (G : Gh) : cellE G 22 (μ0 22) = .inl (gI G, 9, .inl (fun _ => 0)) := by unfold cellE; rw [ly_22]; rfl
theorem ce_23 (G : Gh) : cellE G 23 (μ0 23) = .inl (gI G, 9, .inl (fun _ => 0)) := by unfold cellE; rw [ly_23]; rfl
theorem ce_24 (G : Gh) : cellE G 24 (μ0 24) = .inl (gI G, 9, .inl (fun _ => 0)) := by unfold cellE; rw [ly_24]; rfl
theorem ce_25 (G : Gh) : cellE G 25 (μ0 25) = .inl (gI G, 9, .inl (fun _ => 0)) := by unfold cellE; rw [ly_25]; rfl
theorem ce_26 (G : Gh) : cellE G 26 (μ0 26) = .inl (gI G, 4, .inl (fun _ => 0)) := by unfold cellE; rw [ly_26]; rfl
theorem ce_27 (G : Gh) : cellE G 27 (μ0 27) = .inr (0, [.ref (gA G 28), .ref (gA G 29), .ref (gA G 30), .ref (gA G 31), .ref (gA G 32), .ref (gA G 33), .ref (gA G 34), .ref (gA G 35), .ref (gA G 36), .ref (gA G 37), .int 0, .int 0, .int 0]) := by unfold cellE; rw [ly_27]; rfl
theorem ce_28 (G : Gh) : cellE G 28 (μ0 28) = .inl (gI G, 4, .inl (r4 1 1 1 1)) := by unfold cellE; rw [ly_28]; rfl
theorem ce_29 (G : Gh) : cellE G 29 (μ0 29) = .inl (gI G, 4, .inl (r4 5 5 5 5)) := by unfold cellE; rw [ly_29]; rfl
theorem ce_30 (G : Gh) : cellE G 30 (μ0 30) = .inl (gI G, 4, .inl (fun _ => 0)) := by unfold cellE; rw [ly_30]; rfl
theorem ce_31 (G : Gh) : cellE G 31 (μ0 31) = .inl (gI G, 4, .inl (r4 0 2 4 6)) := by unfold cellE; rw [ly_31]; rfl
theorem ce_32 (G : Gh) : cellE G 32 (μ0 32) = .inl (gI G, 9, .inl (fun _ => 0)) := by unfold cellE; rw [ly_32]; rfl
theorem ce_33 (G : Gh) : cellE G 33 (μ0 33) = .inl (gI G, 9, .inl (fun _ => 0)) := by unfold cellE; rw [ly_33]; rfl
theorem ce_34 (G : Gh) : cellE G 34 (μ0 34) = .inl (gI G, 9, .inl (fun _ => 0)) := by unfold cellE; rw [ly_34]; rfl
theorem ce_35 (G : Gh) : cellE G 35 (μ0 35) = .inl (gI G, 9, .inl (fun _ => 0)) := by unfold cellE; rw [ly_35]; rfl
theorem ce_36 (G : Gh) : cellE G 36 (μ0 36) = .inl (gI G, 9, .inl (fun _ => 0)) := by unfold cellE; rw [ly_36]; rfl
theorem ce_37 (G : Gh) : cellE G 37 (μ0 37) = .inl (gI G, 9, .inl (fun _ => 0)) := by unfold cellE; rw [ly_37]; rfl
theorem ce_38 (G : Gh) : cellE G 38 (μ0 38) = .inr (2, [.ref (gA G 39), .int 0, .int 0]) := by unfold cellE; rw [ly_38]; rfl
theorem ce_39 (G : Gh) : cellE G 39 (μ0 39) = .inl (gF G, 8, .inr (.inr (.inr (.inr (fun j => ([40, 51, 62, 73, 84, 95, 106, 117][j]?).map (gA G)))))) := by unfold cellE; rw [ly_39]; rfl
theorem ce_40 (G : Gh) : cellE G 40 (μ0 40) = .inr (0, [.ref (gA G 41), .ref (gA G 42), .ref (gA G 43), .ref (gA G 44), .ref (gA G 45), .ref (gA G 46), .ref (gA G 47), .ref (gA G 48), .ref (gA G 49), .ref (gA G 50), .int 0, .int 0, .int 0]) := by unfold cellE; rw [ly_40]; rfl
theorem ce_41 (G : Gh) : cellE G 41 (μ0 41) = .inl (gI G, 4, .inl (r4 1 1 1 1)) := by unfold cellE; rw [ly_41]; rfl
theorem ce_42 (G : Gh) : cellE G 42 (μ0 42) = .inl (gI G, 4, .inl (r4 5 5 5 5)) := by unfold cellE; rw [ly_42]; rfl
theorem ce_43 (G : Gh) : cellE G 43 (μ0 43) = .inl (gI G, 4, .inl (fun _ => 0)) := by unfold cellE; rw [ly_43]; rfl
theorem ce_44 (G : Gh) : cellE G 44 (μ0 44) = .inl (gI G, 4, .inl (r4 0 2 4 6)) := by unfold cellE; rw [ly_44]; rfl
theorem ce_45 (G : Gh) : cellE G 45 (μ0 45) = .inl (gI G, 9, .inl (fun _ => 0)) := by unfold cellE; rw [ly_45]; rfl
theorem ce_46 (G : Gh) : cellE G 46 (μ0 46) = .inl (gI G, 9, .inl (fun _ => 0)) := by unfold cellE; rw [ly_46]; rfl
theorem ce_47 (G : Gh) : cellE G 47 (μ0 47) = .inl (gI G, 9, .inl (fun _ => 0)) := by unfold cellE; rw [ly_47]; rfl
theorem ce_48 (G : Gh) : cellE G 48 (μ0 48) = .inl (gI G, 9, .inl (fun _ => 0)) := by unfold cellE; rw [ly_48]; rfl
theorem ce_49 (G : Gh) : cellE G 49 (μ0 49) = .inl (gI G, 9, .inl (fun _ => 0)) := by unfold cellE; rw [ly_49]; rfl
theorem ce_50 (G : Gh) : cellE G 50 (μ0 50) = .inl (gI G, 9, .inl (fun _ => 0)) := by unfold cellE; rw [ly_50]; rfl
theorem ce_51 (G : Gh) : cellE G 51 (μ0 51) = .inr (0, [.ref (gA G 52), .ref (gA G 53), .ref (gA G 54), .ref (gA G 55), .ref (gA G 56), .ref (gA G 57), .ref (gA G 58), .ref (gA G 59), .ref (gA G 60), .ref (gA G 61), .int 0, .int 0, .int 0]) := by unfold cellE; rw [ly_51]; rfl
theorem ce_52 (G : Gh) : cellE G 52 (μ0 52) = .inl (gI G, 4, .inl (r4 1 1 1 1)) := by unfold cellE; rw [ly_52]; rfl
theorem ce_53 (G : Gh) : cellE G 53 (μ0 53) = .inl (gI G, 4, .inl (r4 5 5 5 5)) := by unfold cellE; rw [ly_53]; rfl
theorem ce_54 (G : Gh) : cellE G 54 (μ0 54) = .inl (gI G, 4, .inl (fun _ => 0)) := by unfold cellE; rw [ly_54]; rfl
theorem ce_55 (G : Gh) : cellE G 55 (μ0 55) = .inl (gI G, 4, .inl (r4 0 2 4 6)) := by unfold cellE; rw [ly_55]; rfl
theorem ce_56 (G : Gh) : cellE G 56 (μ0 56) = .inl (gI G, 9, .inl (fun _ => 0)) := by unfold cellE; rw [ly_56]; rfl
theorem ce_57 (G : Gh) : cellE G 57 (μ0 57) = .inl (gI G, 9, .inl (fun _ => 0)) := by unfold cellE; rw [ly_57]; rfl
theorem ce_58 (G : Gh) : cellE G 58 (μ0 58) = .inl (gI G, 9, .inl (fun _ => 0)) := by unfold cellE; rw [ly_58]; rfl
theorem ce_59 (G : Gh) : cellE G 59 (μ0 59) = .inl (gI G, 9, .inl (fun _ => 0)) := by unfold cellE; rw [ly_59]; rfl
theorem ce_60 (G : Gh) : cellE G 60 (μ0 60) = .inl (gI G, 9, .inl (fun _ => 0)) := by unfold cellE; rw [ly_60]; rfl
theorem ce_61 (G : Gh) : cellE G 61 (μ0 61) = .inl (gI G, 9, .inl (fun _ => 0)) := by unfold cellE; rw [ly_61]; rfl
theorem ce_62 (G : Gh) : cellE G 62 (μ0 62) = .inr (0, [.ref (gA G 63), .ref (gA G 64), .ref (gA G 65), .ref (gA G 66), .ref (gA G 67), .ref (gA G 68), .ref (gA G 69), .ref (gA G 70), .ref (gA G 71), .ref (gA G 72), .int 0, .int 0, .int 0]) := by unfold cellE; rw [ly_62]; rfl
theorem ce_63 (G : Gh) : cellE G 63 (μ0 63) = .inl (gI G, 4, .inl (r4 1 1 1 1)) := by unfold cellE; rw [ly_63]; rfl
theorem ce_64 (G : Gh) : cellE G 64 (μ0 64) = .inl (gI G, 4, .inl (r4 5 5 5 5)) := by unfold cellE; rw [ly_64]; rfl
theorem ce_65 (G : Gh) : cellE G 65 (μ0 65) = .inl (gI G, 4, .inl (fun _ => 0)) := by unfold cellE; rw [ly_65]; rfl
theorem ce_66 (G : Gh) : cellE G 66 (μ0 66) = .inl (gI G, 4, .inl (r4 0 2 4 6)) := by unfold cellE; rw [ly_66]; rfl
theorem ce_67 (G : Gh) : cellE G 67 (μ0 67) = .inl (gI G, 9, .inl (fun _ => 0)) := by unfold cellE; rw [ly_67]; rfl
theorem ce_68 (G : Gh) : cellE G 68 (μ0 68) = .inl (gI G, 9, .inl (fun _ => 0)) := by unfold cellE; rw [ly_68]; rfl
theorem ce_69 (G : Gh) : cellE G 69 (μ0 69) = .inl (gI G, 9, .inl (fun _ => 0)) := by unfold cellE; rw [ly_69]; rfl
theorem ce_70 (G : Gh) : cellE G 70 (μ0 70) = .inl (gI G, 9, .inl (fun _ => 0)) := by unfold cellE; rw [ly_70]; rfl
theorem ce_71 (G : Gh) : cellE G 71 (μ0 71) = .inl (gI G, 9, .inl (fun _ => 0)) := by unfold cellE; rw [ly_71]; rfl
theorem ce_72 (G : Gh) : cellE G 72 (μ0 72) = .inl (gI G, 9, .inl (fun _ => 0)) := by unfold cellE; rw [ly_72]; rfl
theorem ce_73 (G : Gh) : cellE G 73 (μ0 73) = .inr (0, [.ref (gA G 74), .ref (gA G 75), .ref (gA G 76), .ref (gA G 77), .ref (gA G 78), .ref (gA G 79), .ref (gA G 80), .ref (gA G 81), .ref (gA G 82), .ref (gA G 83), .int 0, .int 0, .int 0]) := by unfold cellE; rw [ly_73]; rfl
theorem ce_74 (G : Gh) : cellE G 74 (μ0 74) = .inl (gI G, 4, .inl (r4 1 1 1 1)) := by unfold cellE; rw [ly_74]; rfl
theorem ce_75 (G : Gh) : cellE G 75 (μ0 75) = .inl (gI G, 4, .inl (r4 5 5 5 5)) := by unfold cellE; rw [ly_75]; rfl
theorem ce_76 (G : Gh) : cellE G 76 (μ0 76) = .inl (gI G, 4, .inl (fun _ => 0)) := by unfold cellE; rw [ly_76]; rfl
theorem ce_77 (G : Gh) : cellE G 77 (μ0 77) = .inl (gI G, 4, .inl (r4 0 2 4 6)) := by unfold cellE; rw [ly_77]; rfl
theorem ce_78 (G : Gh) : cellE G 78 (μ0 78) = .inl (gI G, 9, .inl (fun _ => 0)) := by unfold cellE; rw [ly_78]; rfl
theorem ce_79 (G : Gh) : cellE G 79 (μ0 79) = .inl (gI G, 9, .inl (fun _ => 0)) := by unfold cellE; rw [ly_79]; rfl
theorem ce_80 (G : Gh) : cellE G 80 (μ0 80) = .inl (gI G, 9, .inl (fun _ => 0)) := by unfold cellE; rw [ly_80]; rfl
theorem ce_81 (G : Gh) : cellE G 81 (μ0 81) = .inl (gI G, 9, .inl (fun _ => 0)) := by unfold cellE; rw [ly_81]; rfl
theorem ce_82 (G : Gh) : cellE G 82 (μ0 82) = .inl (gI G, 9, .inl (fun _ => 0)) := by unfold cellE; rw [ly_82]; rfl
theorem ce_83 (G : Gh) : cellE G 83 (μ0 83) = .inl (gI G, 9, .inl (fun _ => 0)) := by unfold cellE; rw [ly_83]; rfl
theorem ce_84 (G : Gh) : cellE G 84 (μ0 84) = .inr (0, [.ref (gA G 85), .ref (gA G 86), .ref (gA G 87), .ref (gA G 88), .ref (gA G 89), .ref (gA G 90), .ref (gA G 91), .ref (gA G 92), .ref (gA G 93), .ref (gA G 94), .int 0, .int 0, .int 0]) := by unfold cellE; rw [ly_84]; rfl
theorem ce_85 (G : Gh) : cellE G 85 (μ0 85) = .inl (gI G, 4, .inl (r4 1 1 1 1)) := by unfold cellE; rw [ly_85]; rfl
theorem ce_86 (G : Gh) : cellE G 86 (μ0 86) = .inl (gI G, 4, .inl (r4 5 5 5 5)) := by unfold cellE; rw [ly_86]; rfl
theorem ce_87 (G : Gh) : cellE G 87 (μ0 87) = .inl (gI G, 4, .inl (fun _ => 0)) := by unfold cellE; rw [ly_87]; rfl
theorem ce_88 (G : Gh) : cellE G 88 (μ0 88) = .inl (gI G, 4, .inl (r4 0 2 4 6)) := by unfold cellE; rw [ly_88]; rfl
theorem ce_89 (G : Gh) : cellE G 89 (μ0 89) = .inl (gI G, 9, .inl (fun _ => 0)) := by unfold cellE; rw [ly_89]; rfl
theorem ce_90 (G : Gh) : cellE G 90 (μ0 90) = .inl (gI G, 9, .inl (fun _ => 0)) := by unfold cellE; rw [ly_90]; rfl
theorem ce_91 (G : Gh) : cellE G 91 (μ0 91) = .inl (gI G, 9, .inl (fun _ => 0)) := by unfold cellE; rw [ly_91]; rfl
theorem ce_92 (G : Gh) : cellE G 92 (μ0 92) = .inl (gI G, 9, .inl (fun _ => 0)) := by unfold cellE; rw [ly_92]; rfl
theorem ce_93 (G : Gh) : cellE G 93 (μ0 93) = .inl (gI G, 9, .inl (fun _ => 0)) := by unfold cellE; rw [ly_93]; rfl
theorem ce_94 (G : Gh) : cellE G 94 (μ0 94) = .inl (gI G, 9, .inl (fun _ => 0)) := by unfold cellE; rw [ly_94]; rfl
theorem ce_95 (G : Gh) : cellE G 95 (μ0 95) = .inr (0, [.ref (gA G 96), .ref (gA G 97), .ref (gA G 98), .ref (gA G 99), .ref (gA G 100), .ref (gA G 101), .ref (gA G 102), .ref (gA G 103), .ref (gA G 104), .ref (gA G 105), .int 0, .int 0, .int 0]) := by unfold cellE; rw [ly_95]; rfl
theorem ce_96 (G : Gh) : cellE G 96 (μ0 96) = .inl (gI G, 4, .inl (r4 1 1 1 1)) := by unfold cellE; rw [ly_96]; rfl
theorem ce_97 (G : Gh) : cellE G 97 (μ0 97) = .inl (gI G, 4, .inl (r4 5 5 5 5)) := by unfold cellE; rw [ly_97]; rfl
theorem ce_98 (G : Gh) : cellE G 98 (μ0 98) = .inl (gI G, 4, .inl (fun _ => 0)) := by unfold cellE; rw [ly_98]; rfl
theorem ce_99 (G : Gh) : cellE G 99 (μ0 99) = .inl (gI G, 4, .inl (r4 0 2 4 6)) := by unfold cellE; rw [ly_99]; rfl
theorem ce_100 (G : Gh) : cellE G 100 (μ0 100) = .inl (gI G, 9, .inl (fun _ => 0)) := by unfold cellE; rw [ly_100]; rfl
theorem ce_101 (G : Gh) : cellE G 101 (μ0 101) = .inl (gI G, 9, .inl (fun _ => 0)) := by unfold cellE; rw [ly_101]; rfl
theorem ce_102 (G : Gh) : cellE G 102 (μ0 102) = .inl (gI G, 9, .inl (fun _ => 0)) := by unfold cellE; rw [ly_102]; rfl
theorem ce_103 (G : Gh) : cellE G 103 (μ0 103) = .inl (gI G, 9, .inl (fun _ => 0)) := by unfold cellE; rw [ly_103]; rfl
theorem ce_104 (G : Gh) : cellE G 104 (μ0 104) = .inl (gI G, 9, .inl (fun _ => 0)) := by unfold cellE; rw [ly_104]; rfl
theorem ce_105 (G : Gh) : cellE G 105 (μ0 105) = .inl (gI G, 9, .inl (fun _ => 0)) := by unfold cellE; rw [ly_105]; rfl
theorem ce_106 (G : Gh) : cellE G 106 (μ0 106) = .inr (0, [.ref (gA G 107), .ref (gA G 108), .ref (gA G 109), .ref (gA G 110), .ref (gA G 111), .ref (gA G 112), .ref (gA G 113), .ref (gA G 114), .ref (gA G 115), .ref (gA G 116), .int 0, .int 0, .int 0]) := by unfold cellE; rw [ly_106]; rfl
theorem ce_107 (G : Gh) : cellE G 107 (μ0 107) = .inl (gI G, 4, .inl (r4 1 1 1 1)) := by unfold cellE; rw [ly_107]; rfl
theorem ce_108 (G : Gh) : cellE G 108 (μ0 108) = .inl (gI G, 4, .inl (r4 5 5 5 5)) := by unfold cellE; rw [ly_108]; rfl
theorem ce_109 (G : Gh) : cellE G 109 (μ0 109) = .inl (gI G, 4, .inl (fun _ => 0)) := by unfold cellE; rw [ly_109]; rfl
theorem ce_110 (G : Gh) : cellE G 110 (μ0 110) = .inl (gI G, 4, .inl (r4 0 2 4 6)) := by unfold cellE; rw [ly_110]; rfl
theorem ce_111 (G : Gh) : cellE G 111 (μ0 111) = .inl (gI G, 9, .inl (fun _ => 0)) := by unfold cellE; rw [ly_111]; rfl
theorem ce_112 (G : Gh) : cellE G 112 (μ0 112) = .inl (gI G, 9, .inl (fun _ => 0)) := by unfold cellE; rw [ly_112]; rfl
theorem ce_113 (G : Gh) : cellE G 113 (μ0 113) = .inl (gI G, 9, .inl (fun _ => 0)) := by unfold cellE; rw [ly_113]; rfl
theorem ce_114 (G : Gh) : cellE G 114 (μ0 114) = .inl (gI G, 9, .inl (fun _ => 0)) := by unfold cellE; rw [ly_114]; rfl
theorem ce_115 (G : Gh) : cellE G 115 (μ0 115) = .inl (gI G, 9, .inl (fun _ => 0)) := by unfold cellE; rw [ly_115]; rfl
theorem ce_116 (G : Gh) : cellE G 116 (μ0 116) = .inl (gI G, 9, .inl (fun _ => 0)) := by unfold cellE; rw [ly_116]; rfl
theorem ce_117 (G : Gh) : cellE G 117 (μ0 117) = .inr (0, [.ref (gA G 118), .ref (gA G 119), .ref (gA G 120), .ref (gA G 121), .ref (gA G 122), .ref (gA G 123), .ref (gA G 124), .ref (gA G 125), .ref (gA G 126), .ref (gA G 127), .int 0, .int 0, .int 0]) := by unfold cellE; rw [ly_117]; rfl
theorem ce_118 (G : Gh) : cellE G 118 (μ0 118) = .inl (gI G, 4, .inl (r4 1 1 1 1)) := by unfold cellE; rw [ly_118]; rfl
theorem ce_119 (G : Gh) : cellE G 119 (μ0 119) = .inl (gI G, 4, .inl (r4 5 5 5 5)) := by unfold cellE; rw [ly_119]; rfl
theorem ce_120 (G : Gh) : cellE G 120 (μ0 120) = .inl (gI G, 4, .inl (fun _ => 0)) := by unfold cellE; rw [ly_120]; rfl
theorem ce_121 (G : Gh) : cellE G 121 (μ0 121) = .inl (gI G, 4, .inl (r4 0 2 4 6)) := by unfold cellE; rw [ly_121]; rfl
theorem ce_122 (G : Gh) : cellE G 122 (μ0 122) = .inl (gI G, 9, .inl (fun _ => 0)) := by unfold cellE; rw [ly_122]; rfl
theorem ce_123 (G : Gh) : cellE G 123 (μ0 123) = .inl (gI G, 9, .inl (fun _ => 0)) := by unfold cellE; rw [ly_123]; rfl
theorem ce_124 (G : Gh) : cellE G 124 (μ0 124) = .inl (gI G, 9, .inl (fun _ => 0)) := by unfold cellE; rw [ly_124]; rfl
theorem ce_125 (G : Gh) : cellE G 125 (μ0 125) = .inl (gI G, 9, .inl (fun _ => 0)) := by unfold cellE; rw [ly_125]; rfl
theorem ce_126 (G : Gh) : cellE G 126 (μ0 126) = .inl (gI G, 9, .inl (fun _ => 0)) := by unfold cellE; rw [ly_126]; rfl
theorem ce_127 (G : Gh) : cellE G 127 (μ0 127) = .inl (gI G, 9, .inl (fun _ => 0)) := by unfold cellE; rw [ly_127]; rfl
theorem ce_128 (G : Gh) : cellE G 128 (μ0 128) = .inl (gI G, 96, .inl (fun _ => 0)) := by unfold cellE; rw [ly_128]; rfl
theorem ce_129 (G : Gh) : cellE G 129 (μ0 129) = .inl (gI G, 12, .inl (fun _ => 0)) := by unfold cellE; rw [ly_129]; rfl
theorem ce_130 (G : Gh) : cellE G 130 (μ0 130) = .inl (gI G, 7, .inl (fun _ => 0)) := by unfold cellE; rw [ly_130]; rfl
theorem ce_131 (G : Gh) : cellE G 131 (μ0 131) = .inl (gI G, 9, .inl (fun _ => 0)) := by unfold cellE; rw [ly_131]; rfl
theorem ce_132 (G : Gh) : cellE G 132 (μ0 132) = .inl (gI G, 4, .inl (fun _ => 0)) := by unfold cellE; rw [ly_132]; rfl
theorem ce_133 (G : Gh) : cellE G 133 (μ0 133) = .inl (gI G, 4, .inl (fun _ => 0)) := by unfold cellE; rw [ly_133]; rfl
set_option maxHeartbeats 4000000 in
set_option maxRecDepth 100000 in
theorem init_ex (G : Gh) : mkws G μ0 = [(gA G 0, cellE G 0 (μ0 0)), (gA G 1, cellE G 1 (μ0 1)), (gA G 2, cellE G 2 (μ0 2)), (gA G 3, cellE G 3 (μ0 3)), (gA G 4, cellE G 4 (μ0 4)), (gA G 5, cellE G 5 (μ0 5)), (gA G 6, cellE G 6 (μ0 6)), (gA G 7, cellE G 7 (μ0 7)), (gA G 8, cellE G 8 (μ0 8)), (gA G 9, cellE G 9 (μ0 9)), (gA G 10, cellE G 10 (μ0 10)), (gA G 11, cellE G 11 (μ0 11)), (gA G 12, cellE G 12 (μ0 12)), (gA G 13, cellE G 13 (μ0 13)), (gA G 14, cellE G 14 (μ0 14)), (gA G 15, cellE G 15 (μ0 15)), (gA G 16, cellE G 16 (μ0 16)), (gA G 17, cellE G 17 (μ0 17)), (gA G 18, cellE G 18 (μ0 18)), (gA G 19, cellE G 19 (μ0 19)), (gA G 20, cellE G 20 (μ0 20)), (gA G 21, cellE G 21 (μ0 21)), (gA G 22, cellE G 22 (μ0 22)), (gA G 23, cellE G 23 (μ0 23)), (gA G 24, cellE G 24 (μ0 24)), (gA G 25, cellE G 25 (μ0 25)), (gA G 26, cellE G 26 (μ0 26)), (gA G 27, cellE G 27 (μ0 27)), (gA G 28, cellE G 28 (μ0 28)), (gA G 29, cellE G 29 (μ0 29)), (gA G 30, cellE G 30 (μ0 30)), (gA G 31, cellE G 31 (μ0 31)), (gA G 32, cellE G 32 (μ0 32)), (gA G 33, cellE G 33 (μ0 33)), (gA G 34, cellE G 34 (μ0 34)), (gA G 35, cellE G 35 (μ0 35)), (gA G 36, cellE G 36 (μ0 36)), (gA G 37, cellE G 37 (μ0 37)), (gA G 38, cellE G 38 (μ0 38)), (gA G 39, cellE G 39 (μ0 39)), (gA G 40, cellE G 40 (μ0 40)), (gA G 41, cellE G 41 (μ0 41)), (gA G 42, cellE G 42 (μ0 42)), (gA G 43, cellE G 43 (μ0 43)), (gA G 44, cellE G 44 (μ0 44)), (gA G 45, cellE G 45 (μ0 45)), (gA G 46, cellE G 46 (μ0 46)), (gA G 47, cellE G 47 (μ0 47)), (gA G 48, cellE G 48 (μ0 48)), (gA G 49, cellE G 49 (μ0 49)), (gA G 50, cellE G 50 (μ0 50)), (gA G 51, cellE G 51 (μ0 51)), (gA G 52, cellE G 52 (μ0 52)), (gA G 53, cellE G 53 (μ0 53)), (gA G 54, cellE G 54 (μ0 54)), (gA G 55, cellE G 55 (μ0 55)), (gA G 56, cellE G 56 (μ0 56)), (gA G 57, cellE G 57 (μ0 57)), (gA G 58, cellE G 58 (μ0 58)), (gA G 59, cellE G 59 (μ0 59)), (gA G 60, cellE G 60 (μ0 60)), (gA G 61, cellE G 61 (μ0 61)), (gA G 62, cellE G 62 (μ0 62)), (gA G 63, cellE G 63 (μ0 63)), (gA G 64, cellE G 64 (μ0 64)), (gA G 65, cellE G 65 (μ0 65)), (gA G 66, cellE G 66 (μ0 66)), (gA G 67, cellE G 67 (μ0 67)), (gA G 68, cellE G 68 (μ0 68)), (gA G 69, cellE G 69 (μ0 69)), (gA G 70, cellE G 70 (μ0 70)), (gA G 71, cellE G 71 (μ0 71)), (gA G 72, cellE G 72 (μ0 72)), (gA G 73, cellE G 73 (μ0 73)), (gA G 74, cellE G 74 (μ0 74)), (gA G 75, cellE G 75 (μ0 75)), (gA G 76, cellE G 76 (μ0 76)), (gA G 77, cellE G 77 (μ0 77)), (gA G 78, cellE G 78 (μ0 78)), (gA G 79, cellE G 79 (μ0 79)), (gA G 80, cellE G 80 (μ0 80)), (gA G 81, cellE G 81 (μ0 81)), (gA G 82, cellE G 82 (μ0 82)), (gA G 83, cellE G 83 (μ0 83)), (gA G 84, cellE G 84 (μ0 84)), (gA G 85, cellE G 85 (μ0 85)), (gA G 86, cellE G 86 (μ0 86)), (gA G 87, cellE G 87 (μ0 87)), (gA G 88, cellE G 88 (μ0 88)), (gA G 89, cellE G 89 (μ0 89)), (gA G 90, cellE G 90 (μ0 90)), (gA G 91, cellE G 91 (μ0 91)), (gA G 92, cellE G 92 (μ0 92)), (gA G 93, cellE G 93 (μ0 93)), (gA G 94, cellE G 94 (μ0 94)), (gA G 95, cellE G 95 (μ0 95)), (gA G 96, cellE G 96 (μ0 96)), (gA G 97, cellE G 97 (μ0 97)), (gA G 98, cellE G 98 (μ0 98)), (gA G 99, cellE G 99 (μ0 99)), (gA G 100, cellE G 100 (μ0 100)), (gA G 101, cellE G 101 (μ0 101)), (gA G 102, cellE G 102 (μ0 102)), (gA G 103, cellE G 103 (μ0 103)), (gA G 104, cellE G 104 (μ0 104)), (gA G 105, cellE G 105 (μ0 105)), (gA G 106, cellE G 106 (μ0 106)), (gA G 107, cellE G 107 (μ0 107)), (gA G 108, cellE G 108 (μ0 108)), (gA G 109, cellE G 109 (μ0 109)), (gA G 110, cellE G 110 (μ0 110)), (gA G 111, cellE G 111 (μ0 111)), (gA G 112, cellE G 112 (μ0 112)), (gA G 113, cellE G 113 (μ0 113)), (gA G 114, cellE G 114 (μ0 114)), (gA G 115, cellE G 115 (μ0 115)), (gA G 116, cellE G 116 (μ0 116)), (gA G 117, cellE G 117 (μ0 117)), (gA G 118, cellE G 118 (μ0 118)), (gA G 119, cellE G 119 (μ0 119)), (gA G 120, cellE G 120 (μ0 120)), (gA G 121, cellE G 121 (μ0 121)), (gA G 122, cellE G 122 (μ0 122)), (gA G 123, cellE G 123 (μ0 123)), (gA G 124, cellE G 124 (μ0 124)), (gA G 125, cellE G 125 (μ0 125)), (gA G 126, cellE G 126 (μ0 126)), (gA G 127, cellE G 127 (μ0 127)), (gA G 128, cellE G 128 (μ0 128)), (gA G 129, cellE G 129 (μ0 129)), (gA G 130, cellE G 130 (μ0 130)), (gA G 131, cellE G 131 (μ0 131)), (gA G 132, cellE G 132 (μ0 132)), (gA G 133, cellE G 133 (μ0 133))] := by
  show (List.range 134).map (fun i => (gA G i, cellE G i (μ0 i))) = _
  rw [show List.range 134 = [0, 1, 2, 3, 4, 5, 6, 7, 8, 9, 10, 11, 12, 13, 14, 15, 16, 17, 18, 19, 20, 21, 22, 23, 24, 25, 26, 27, 28, 29, 30, 31, 32, 33, 34, 35, 36, 37, 38, 39, 40, 41, 42, 43, 44, 45, 46, 47, 48, 49, 50, 51, 52, 53, 54, 55, 56, 57, 58, 59, 60, 61, 62, 63, 64, 65, 66, 67, 68, 69, 70, 71, 72, 73, 74, 75, 76, 77, 78, 79, 80, 81, 82, 83, 84, 85, 86, 87, 88, 89, 90, 91, 92, 93, 94, 95, 96, 97, 98, 99, 100, 101, 102, 103, 104, 105, 106, 107, 108, 109, 110, 111, 112, 113, 114, 115, 116, 117, 118, 119, 120, 121, 122, 123, 124, 125, 126, 127, 128, 129, 130, 131, 132, 133] from by decide +kernel]
  simp only [List.map_cons, List.map_nil]
set_option maxHeartbeats 4000000 in
set_option maxRecDepth 100000 in
theorem init_ws (G : Gh) : clW (gI G) (gF G) (gA G 0) (gA G) = mkws G μ0 := by
  rw [init_ex]
  simp only [ce_0, ce_1, ce_2, ce_3, ce_4, ce_5, ce_6, ce_7, ce_8, ce_9, ce_10, ce_11, ce_12, ce_13, ce_14, ce_15, ce_16, ce_17, ce_18, ce_19, ce_20, ce_21, ce_22, ce_23, ce_24, ce_25, ce_26, ce_27, ce_28, ce_29, ce_30, ce_31, ce_32, ce_33, ce_34, ce_35, ce_36, ce_37, ce_38, ce_39, ce_40, ce_41, ce_42, ce_43, ce_44, ce_45, ce_46, ce_47, ce_48, ce_49, ce_50, ce_51, ce_52, ce_53, ce_54, ce_55, ce_56, ce_57, ce_58, ce_59, ce_60, ce_61, ce_62, ce_63, ce_64, ce_65, ce_66, ce_67, ce_68, ce_69, ce_70, ce_71, ce_72, ce_73, ce_74, ce_75, ce_76, ce_77, ce_78, ce_79, ce_80, ce_81, ce_82, ce_83, ce_84, ce_85, ce_86, ce_87, ce_88, ce_89, ce_90, ce_91, ce_92, ce_93, ce_94, ce_95, ce_96, ce_97, ce_98, ce_99, ce_100, ce_101, ce_102, ce_103, ce_104, ce_105, ce_106, ce_107, ce_108, ce_109, ce_110, ce_111, ce_112, ce_113, ce_114, ce_115, ce_116, ce_117, ce_118, ce_119, ce_120, ce_121, ce_122, ce_123, ce_124, ce_125, ce_126, ce_127, ce_128, ce_129, ce_130, ce_131, ce_132, ce_133]
  unfold clW paW
  rw [show (fun j : Nat => [(fun r => gA G (39 + r)) 1, (fun r => gA G (39 + r)) 12, (fun r => gA G (39 + r)) 23, (fun r => gA G (39 + r)) 34, (fun r => gA G (39 + r)) 45, (fun r => gA G (39 + r)) 56, (fun r => gA G (39 + r)) 67, (fun r => gA G (39 + r)) 78][j]?) = (fun j : Nat => ([40, 51, 62, 73, 84, 95, 106, 117][j]?).map (gA G)) from pa_map (gA G)]
  simp only [paX, flW, flX, miW, List.cons_append, List.nil_append, List.append_assoc, Nat.reduceAdd]
