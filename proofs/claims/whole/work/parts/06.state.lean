def cm_L : List (Nat × Nat × Nat × Nat) := [(1, 83, 1, 96), (3, 84, 1, 4), (4, 85, 0, 5), (5, 86, 0, 5), (6, 87, 0, 5), (8, 88, 0, 20), (12, 89, 2, 512), (15, 90, 0, 4), (16, 91, 2, 4), (18, 92, 0, 12), (19, 93, 0, 12), (20, 94, 0, 12), (21, 95, 0, 36), (22, 96, 0, 12), (24, 97, 0, 24), (25, 98, 1, 288), (26, 99, 0, 24), (27, 100, 0, 24), (28, 101, 0, 24), (29, 102, 0, 24), (30, 103, 0, 24), (32, 104, 0, 12), (33, 105, 0, 12), (34, 106, 0, 12), (35, 107, 0, 12), (36, 108, 0, 12), (37, 109, 2, 48), (38, 110, 0, 48), (41, 111, 0, 100), (43, 112, 0, 3), (44, 113, 0, 3)]
def cm_ok (h : cd_H) : Prop := cd_k h 82 = some (.inl 11) ∧ ∀ q ∈ cm_L, cd_r h 82 q.1 = some q.2.1 ∧ cd_k h q.2.1 = some (.inr (q.2.2.1, q.2.2.2))
theorem cm_k82 {h : cd_H} (F : cm_ok h) : cd_k h 82 = some (.inl 11) := F.1
theorem cm_k83 {h : cd_H} (F : cm_ok h) : cd_k h 83 = some (.inr (1, 96)) := (F.2 (1, 83, 1, 96) (List.mem_of_getElem? (i := 0) rfl)).2
theorem cm_r1 {h : cd_H} (F : cm_ok h) : cd_r h 82 1 = some 83 := (F.2 (1, 83, 1, 96) (List.mem_of_getElem? (i := 0) rfl)).1
theorem cm_k84 {h : cd_H} (F : cm_ok h) : cd_k h 84 = some (.inr (1, 4)) := (F.2 (3, 84, 1, 4) (List.mem_of_getElem? (i := 1) rfl)).2
theorem cm_r3 {h : cd_H} (F : cm_ok h) : cd_r h 82 3 = some 84 := (F.2 (3, 84, 1, 4) (List.mem_of_getElem? (i := 1) rfl)).1
theorem cm_k85 {h : cd_H} (F : cm_ok h) : cd_k h 85 = some (.inr (0, 5)) := (F.2 (4, 85, 0, 5) (List.mem_of_getElem? (i := 2) rfl)).2
theorem cm_r4 {h : cd_H} (F : cm_ok h) : cd_r h 82 4 = some 85 := (F.2 (4, 85, 0, 5) (List.mem_of_getElem? (i := 2) rfl)).1
theorem cm_k86 {h : cd_H} (F : cm_ok h) : cd_k h 86 = some (.inr (0, 5)) := (F.2 (5, 86, 0, 5) (List.mem_of_getElem? (i := 3) rfl)).2
theorem cm_r5 {h : cd_H} (F : cm_ok h) : cd_r h 82 5 = some 86 := (F.2 (5, 86, 0, 5) (List.mem_of_getElem? (i := 3) rfl)).1
theorem cm_k87 {h : cd_H} (F : cm_ok h) : cd_k h 87 = some (.inr (0, 5)) := (F.2 (6, 87, 0, 5) (List.mem_of_getElem? (i := 4) rfl)).2
theorem cm_r6 {h : cd_H} (F : cm_ok h) : cd_r h 82 6 = some 87 := (F.2 (6, 87, 0, 5) (List.mem_of_getElem? (i := 4) rfl)).1
theorem cm_k88 {h : cd_H} (F : cm_ok h) : cd_k h 88 = some (.inr (0, 20)) := (F.2 (8, 88, 0, 20) (List.mem_of_getElem? (i := 5) rfl)).2
theorem cm_r8 {h : cd_H} (F : cm_ok h) : cd_r h 82 8 = some 88 := (F.2 (8, 88, 0, 20) (List.mem_of_getElem? (i := 5) rfl)).1
theorem cm_k89 {h : cd_H} (F : cm_ok h) : cd_k h 89 = some (.inr (2, 512)) := (F.2 (12, 89, 2, 512) (List.mem_of_getElem? (i := 6) rfl)).2
theorem cm_r12 {h : cd_H} (F : cm_ok h) : cd_r h 82 12 = some 89 := (F.2 (12, 89, 2, 512) (List.mem_of_getElem? (i := 6) rfl)).1
theorem cm_k90 {h : cd_H} (F : cm_ok h) : cd_k h 90 = some (.inr (0, 4)) := (F.2 (15, 90, 0, 4) (List.mem_of_getElem? (i := 7) rfl)).2
theorem cm_r15 {h : cd_H} (F : cm_ok h) : cd_r h 82 15 = some 90 := (F.2 (15, 90, 0, 4) (List.mem_of_getElem? (i := 7) rfl)).1
theorem cm_k91 {h : cd_H} (F : cm_ok h) : cd_k h 91 = some (.inr (2, 4)) := (F.2 (16, 91, 2, 4) (List.mem_of_getElem? (i := 8) rfl)).2
theorem cm_r16 {h : cd_H} (F : cm_ok h) : cd_r h 82 16 = some 91 := (F.2 (16, 91, 2, 4) (List.mem_of_getElem? (i := 8) rfl)).1
theorem cm_k92 {h : cd_H} (F : cm_ok h) : cd_k h 92 = some (.inr (0, 12)) := (F.2 (18, 92, 0, 12) (List.mem_of_getElem? (i := 9) rfl)).2
theorem cm_r18 {h : cd_H} (F : cm_ok h) : cd_r h 82 18 = some 92 := (F.2 (18, 92, 0, 12) (List.mem_of_getElem? (i := 9) rfl)).1
theorem cm_k93 {h : cd_H} (F : cm_ok h) : cd_k h 93 = some (.inr (0, 12)) := (F.2 (19, 93, 0, 12) (List.mem_of_getElem? (i := 10) rfl)).2
theorem cm_r19 {h : cd_H} (F : cm_ok h) : cd_r h 82 19 = some 93 := (F.2 (19, 93, 0, 12) (List.mem_of_getElem? (i := 10) rfl)).1
theorem cm_k94 {h : cd_H} (F : cm_ok h) : cd_k h 94 = some (.inr (0, 12)) := (F.2 (20, 94, 0, 12) (List.mem_of_getElem? (i := 11) rfl)).2
theorem cm_r20 {h : cd_H} (F : cm_ok h) : cd_r h 82 20 = some 94 := (F.2 (20, 94, 0, 12) (List.mem_of_getElem? (i := 11) rfl)).1
theorem cm_k95 {h : cd_H} (F : cm_ok h) : cd_k h 95 = some (.inr (0, 36)) := (F.2 (21, 95, 0, 36) (List.mem_of_getElem? (i := 12) rfl)).2
theorem cm_r21 {h : cd_H} (F : cm_ok h) : cd_r h 82 21 = some 95 := (F.2 (21, 95, 0, 36) (List.mem_of_getElem? (i := 12) rfl)).1
theorem cm_k96 {h : cd_H} (F : cm_ok h) : cd_k h 96 = some (.inr (0, 12)) := (F.2 (22, 96, 0, 12) (List.mem_of_getElem? (i := 13) rfl)).2
theorem cm_r22 {h : cd_H} (F : cm_ok h) : cd_r h 82 22 = some 96 := (F.2 (22, 96, 0, 12) (List.mem_of_getElem? (i := 13) rfl)).1
theorem cm_k97 {h : cd_H} (F : cm_ok h) : cd_k h 97 = some (.inr (0, 24)) := (F.2 (24, 97, 0, 24) (List.mem_of_getElem? (i := 14) rfl)).2
theorem cm_r24 {h : cd_H} (F : cm_ok h) : cd_r h 82 24 = some 97 := (F.2 (24, 97, 0, 24) (List.mem_of_getElem? (i := 14) rfl)).1
theorem cm_k98 {h : cd_H} (F : cm_ok h) : cd_k h 98 = some (.inr (1, 288)) := (F.2 (25, 98, 1, 288) (List.mem_of_getElem? (i := 15) rfl)).2
theorem cm_r25 {h : cd_H} (F : cm_ok h) : cd_r h 82 25 = some 98 := (F.2 (25, 98, 1, 288) (List.mem_of_getElem? (i := 15) rfl)).1
theorem cm_k99 {h : cd_H} (F : cm_ok h) : cd_k h 99 = some (.inr (0, 24)) := (F.2 (26, 99, 0, 24) (List.mem_of_getElem? (i := 16) rfl)).2
theorem cm_r26 {h : cd_H} (F : cm_ok h) : cd_r h 82 26 = some 99 := (F.2 (26, 99, 0, 24) (List.mem_of_getElem? (i := 16) rfl)).1
theorem cm_k100 {h : cd_H} (F : cm_ok h) : cd_k h 100 = some (.inr (0, 24)) := (F.2 (27, 100, 0, 24) (List.mem_of_getElem? (i := 17) rfl)).2
theorem cm_r27 {h : cd_H} (F : cm_ok h) : cd_r h 82 27 = some 100 := (F.2 (27, 100, 0, 24) (List.mem_of_getElem? (i := 17) rfl)).1
theorem cm_k101 {h : cd_H} (F : cm_ok h) : cd_k h 101 = some (.inr (0, 24)) := (F.2 (28, 101, 0, 24) (List.mem_of_getElem? (i := 18) rfl)).2
theorem cm_r28 {h : cd_H} (F : cm_ok h) : cd_r h 82 28 = some 101 := (F.2 (28, 101, 0, 24) (List.mem_of_getElem? (i := 18) rfl)).1
theorem cm_k102 {h : cd_H} (F : cm_ok h) : cd_k h 102 = some (.inr (0, 24)) := (F.2 (29, 102, 0, 24) (List.mem_of_getElem? (i := 19) rfl)).2
theorem cm_r29 {h : cd_H} (F : cm_ok h) : cd_r h 82 29 = some 102 := (F.2 (29, 102, 0, 24) (List.mem_of_getElem? (i := 19) rfl)).1
theorem cm_k103 {h : cd_H} (F : cm_ok h) : cd_k h 103 = some (.inr (0, 24)) := (F.2 (30, 103, 0, 24) (List.mem_of_getElem? (i := 20) rfl)).2
theorem cm_r30 {h : cd_H} (F : cm_ok h) : cd_r h 82 30 = some 103 := (F.2 (30, 103, 0, 24) (List.mem_of_getElem? (i := 20) rfl)).1
theorem cm_k104 {h : cd_H} (F : cm_ok h) : cd_k h 104 = some (.inr (0, 12)) := (F.2 (32, 104, 0, 12) (List.mem_of_getElem? (i := 21) rfl)).2
theorem cm_r32 {h : cd_H} (F : cm_ok h) : cd_r h 82 32 = some 104 := (F.2 (32, 104, 0, 12) (List.mem_of_getElem? (i := 21) rfl)).1
theorem cm_k105 {h : cd_H} (F : cm_ok h) : cd_k h 105 = some (.inr (0, 12)) := (F.2 (33, 105, 0, 12) (List.mem_of_getElem? (i := 22) rfl)).2
theorem cm_r33 {h : cd_H} (F : cm_ok h) : cd_r h 82 33 = some 105 := (F.2 (33, 105, 0, 12) (List.mem_of_getElem? (i := 22) rfl)).1
theorem cm_k106 {h : cd_H} (F : cm_ok h) : cd_k h 106 = some (.inr (0, 12)) := (F.2 (34, 106, 0, 12) (List.mem_of_getElem? (i := 23) rfl)).2
theorem cm_r34 {h : cd_H} (F : cm_ok h) : cd_r h 82 34 = some 106 := (F.2 (34, 106, 0, 12) (List.mem_of_getElem? (i := 23) rfl)).1
theorem cm_k107 {h : cd_H} (F : cm_ok h) : cd_k h 107 = some (.inr (0, 12)) := (F.2 (35, 107, 0, 12) (List.mem_of_getElem? (i := 24) rfl)).2
theorem cm_r35 {h : cd_H} (F : cm_ok h) : cd_r h 82 35 = some 107 := (F.2 (35, 107, 0, 12) (List.mem_of_getElem? (i := 24) rfl)).1
theorem cm_k108 {h : cd_H} (F : cm_ok h) : cd_k h 108 = some (.inr (0, 12)) := (F.2 (36, 108, 0, 12) (List.mem_of_getElem? (i := 25) rfl)).2
theorem cm_r36 {h : cd_H} (F : cm_ok h) : cd_r h 82 36 = some 108 := (F.2 (36, 108, 0, 12) (List.mem_of_getElem? (i := 25) rfl)).1
theorem cm_k109 {h : cd_H} (F : cm_ok h) : cd_k h 109 = some (.inr (2, 48)) := (F.2 (37, 109, 2, 48) (List.mem_of_getElem? (i := 26) rfl)).2
theorem cm_r37 {h : cd_H} (F : cm_ok h) : cd_r h 82 37 = some 109 := (F.2 (37, 109, 2, 48) (List.mem_of_getElem? (i := 26) rfl)).1
theorem cm_k110 {h : cd_H} (F : cm_ok h) : cd_k h 110 = some (.inr (0, 48)) := (F.2 (38, 110, 0, 48) (List.mem_of_getElem? (i := 27) rfl)).2
theorem cm_r38 {h : cd_H} (F : cm_ok h) : cd_r h 82 38 = some 110 := (F.2 (38, 110, 0, 48) (List.mem_of_getElem? (i := 27) rfl)).1
theorem cm_k111 {h : cd_H} (F : cm_ok h) : cd_k h 111 = some (.inr (0, 100)) := (F.2 (41, 111, 0, 100) (List.mem_of_getElem? (i := 28) rfl)).2
theorem cm_r41 {h : cd_H} (F : cm_ok h) : cd_r h 82 41 = some 111 := (F.2 (41, 111, 0, 100) (List.mem_of_getElem? (i := 28) rfl)).1
theorem cm_k112 {h : cd_H} (F : cm_ok h) : cd_k h 112 = some (.inr (0, 3)) := (F.2 (43, 112, 0, 3) (List.mem_of_getElem? (i := 29) rfl)).2
theorem cm_r43 {h : cd_H} (F : cm_ok h) : cd_r h 82 43 = some 112 := (F.2 (43, 112, 0, 3) (List.mem_of_getElem? (i := 29) rfl)).1
theorem cm_k113 {h : cd_H} (F : cm_ok h) : cd_k h 113 = some (.inr (0, 3)) := (F.2 (44, 113, 0, 3) (List.mem_of_getElem? (i := 30) rfl)).2
theorem cm_r44 {h : cd_H} (F : cm_ok h) : cd_r h 82 44 = some 113 := (F.2 (44, 113, 0, 3) (List.mem_of_getElem? (i := 30) rfl)).1
def cc_KL : List (Nat × (Nat ⊕ (Nat × Nat))) := [(64, .inl 0), (65, .inr (4, 4)), (66, .inl 4), (67, .inl 4), (68, .inl 4), (69, .inl 4), (70, .inl 4), (71, .inl 6), (72, .inr (1, 96)), (73, .inr (0, 32)), (74, .inl 5), (75, .inr (2, 512)), (76, .inl 9), (77, .inr (0, 48)), (78, .inl 12), (79, .inl 12), (80, .inl 12), (81, .inl 12)]
def cc_RL : List (Nat × Nat × Nat) := [(64, 1, 65), (64, 2, 70), (64, 3, 71), (64, 4, 73), (64, 5, 74), (64, 6, 76), (64, 7, 77), (64, 8, 78), (64, 9, 79), (64, 10, 80), (64, 11, 81), (71, 0, 72), (74, 0, 75), (65, 0, 66), (65, 1, 67), (65, 2, 68), (65, 3, 69)]
def cc_ok (h : cd_H) : Prop := (∀ q ∈ cc_KL, cd_k h q.1 = some q.2) ∧ ∀ q ∈ cc_RL, cd_r h q.1 q.2.1 = some q.2.2
theorem cc_k64 {h : cd_H} (F : cc_ok h) : cd_k h 64 = some (.inl 0) := F.1 (64, .inl 0) (List.mem_of_getElem? (i := 0) rfl)
theorem cc_k65 {h : cd_H} (F : cc_ok h) : cd_k h 65 = some (.inr (4, 4)) := F.1 (65, .inr (4, 4)) (List.mem_of_getElem? (i := 1) rfl)
theorem cc_k66 {h : cd_H} (F : cc_ok h) : cd_k h 66 = some (.inl 4) := F.1 (66, .inl 4) (List.mem_of_getElem? (i := 2) rfl)
theorem cc_k67 {h : cd_H} (F : cc_ok h) : cd_k h 67 = some (.inl 4) := F.1 (67, .inl 4) (List.mem_of_getElem? (i := 3) rfl)
theorem cc_k68 {h : cd_H} (F : cc_ok h) : cd_k h 68 = some (.inl 4) := F.1 (68, .inl 4) (List.mem_of_getElem? (i := 4) rfl)
theorem cc_k69 {h : cd_H} (F : cc_ok h) : cd_k h 69 = some (.inl 4) := F.1 (69, .inl 4) (List.mem_of_getElem? (i := 5) rfl)
theorem cc_k70 {h : cd_H} (F : cc_ok h) : cd_k h 70 = some (.inl 4) := F.1 (70, .inl 4) (List.mem_of_getElem? (i := 6) rfl)
theorem cc_k71 {h : cd_H} (F : cc_ok h) : cd_k h 71 = some (.inl 6) := F.1 (71, .inl 6) (List.mem_of_getElem? (i := 7) rfl)
theorem cc_k72 {h : cd_H} (F : cc_ok h) : cd_k h 72 = some (.inr (1, 96)) := F.1 (72, .inr (1, 96)) (List.mem_of_getElem? (i := 8) rfl)
theorem cc_k73 {h : cd_H} (F : cc_ok h) : cd_k h 73 = some (.inr (0, 32)) := F.1 (73, .inr (0, 32)) (List.mem_of_getElem? (i := 9) rfl)
theorem cc_k74 {h : cd_H} (F : cc_ok h) : cd_k h 74 = some (.inl 5) := F.1 (74, .inl 5) (List.mem_of_getElem? (i := 10) rfl)
theorem cc_k75 {h : cd_H} (F : cc_ok h) : cd_k h 75 = some (.inr (2, 512)) := F.1 (75, .inr (2, 512)) (List.mem_of_getElem? (i := 11) rfl)
theorem cc_k76 {h : cd_H} (F : cc_ok h) : cd_k h 76 = some (.inl 9) := F.1 (76, .inl 9) (List.mem_of_getElem? (i := 12) rfl)
theorem cc_k77 {h : cd_H} (F : cc_ok h) : cd_k h 77 = some (.inr (0, 48)) := F.1 (77, .inr (0, 48)) (List.mem_of_getElem? (i := 13) rfl)
theorem cc_k78 {h : cd_H} (F : cc_ok h) : cd_k h 78 = some (.inl 12) := F.1 (78, .inl 12) (List.mem_of_getElem? (i := 14) rfl)
theorem cc_k79 {h : cd_H} (F : cc_ok h) : cd_k h 79 = some (.inl 12) := F.1 (79, .inl 12) (List.mem_of_getElem? (i := 15) rfl)
theorem cc_k80 {h : cd_H} (F : cc_ok h) : cd_k h 80 = some (.inl 12) := F.1 (80, .inl 12) (List.mem_of_getElem? (i := 16) rfl)
theorem cc_k81 {h : cd_H} (F : cc_ok h) : cd_k h 81 = some (.inl 12) := F.1 (81, .inl 12) (List.mem_of_getElem? (i := 17) rfl)
theorem cc_r64_1 {h : cd_H} (F : cc_ok h) : cd_r h 64 1 = some 65 := F.2 (64, 1, 65) (List.mem_of_getElem? (i := 0) rfl)
theorem cc_r64_2 {h : cd_H} (F : cc_ok h) : cd_r h 64 2 = some 70 := F.2 (64, 2, 70) (List.mem_of_getElem? (i := 1) rfl)
theorem cc_r64_3 {h : cd_H} (F : cc_ok h) : cd_r h 64 3 = some 71 := F.2 (64, 3, 71) (List.mem_of_getElem? (i := 2) rfl)
theorem cc_r64_4 {h : cd_H} (F : cc_ok h) : cd_r h 64 4 = some 73 := F.2 (64, 4, 73) (List.mem_of_getElem? (i := 3) rfl)
theorem cc_r64_5 {h : cd_H} (F : cc_ok h) : cd_r h 64 5 = some 74 := F.2 (64, 5, 74) (List.mem_of_getElem? (i := 4) rfl)
theorem cc_r64_6 {h : cd_H} (F : cc_ok h) : cd_r h 64 6 = some 76 := F.2 (64, 6, 76) (List.mem_of_getElem? (i := 5) rfl)
theorem cc_r64_7 {h : cd_H} (F : cc_ok h) : cd_r h 64 7 = some 77 := F.2 (64, 7, 77) (List.mem_of_getElem? (i := 6) rfl)
theorem cc_r64_8 {h : cd_H} (F : cc_ok h) : cd_r h 64 8 = some 78 := F.2 (64, 8, 78) (List.mem_of_getElem? (i := 7) rfl)
theorem cc_r64_9 {h : cd_H} (F : cc_ok h) : cd_r h 64 9 = some 79 := F.2 (64, 9, 79) (List.mem_of_getElem? (i := 8) rfl)
theorem cc_r64_10 {h : cd_H} (F : cc_ok h) : cd_r h 64 10 = some 80 := F.2 (64, 10, 80) (List.mem_of_getElem? (i := 9) rfl)
theorem cc_r64_11 {h : cd_H} (F : cc_ok h) : cd_r h 64 11 = some 81 := F.2 (64, 11, 81) (List.mem_of_getElem? (i := 10) rfl)
theorem cc_r71_0 {h : cd_H} (F : cc_ok h) : cd_r h 71 0 = some 72 := F.2 (71, 0, 72) (List.mem_of_getElem? (i := 11) rfl)
theorem cc_r74_0 {h : cd_H} (F : cc_ok h) : cd_r h 74 0 = some 75 := F.2 (74, 0, 75) (List.mem_of_getElem? (i := 12) rfl)
theorem cc_r65_0 {h : cd_H} (F : cc_ok h) : cd_r h 65 0 = some 66 := F.2 (65, 0, 66) (List.mem_of_getElem? (i := 13) rfl)
theorem cc_r65_1 {h : cd_H} (F : cc_ok h) : cd_r h 65 1 = some 67 := F.2 (65, 1, 67) (List.mem_of_getElem? (i := 14) rfl)
theorem cc_r65_2 {h : cd_H} (F : cc_ok h) : cd_r h 65 2 = some 68 := F.2 (65, 2, 68) (List.mem_of_getElem? (i := 15) rfl)
theorem cc_r65_3 {h : cd_H} (F : cc_ok h) : cd_r h 65 3 = some 69 := F.2 (65, 3, 69) (List.mem_of_getElem? (i := 16) rfl)
