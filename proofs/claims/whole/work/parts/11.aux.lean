def dr (d : Nat) : Nat := if d = 0 then 1 else 3 + 12 * d
def kkT : List (List Nat) := [[1, 13, 87, 90, 92, 95, 0, 0, 0, 0], [0, 2, 3, 0, 4, 5, 6, 7, 0, 8, 9, 10, 11, 12], [], [], [], [], [], [], [], [], [], [], [], [14, 0], [], [0, 16, 17, 0, 18, 19, 20, 21, 0, 22, 23, 24, 25, 26], [], [], [], [], [], [], [], [], [], [], [], [0, 28, 29, 0, 30, 31, 32, 33, 0, 34, 35, 36, 37, 38], [], [], [], [], [], [], [], [], [], [], [], [0, 40, 41, 0, 42, 43, 44, 45, 0, 46, 47, 48, 49, 50], [], [], [], [], [], [], [], [], [], [], [], [0, 52, 53, 0, 54, 55, 56, 57, 0, 58, 59, 60, 61, 62], [], [], [], [], [], [], [], [], [], [], [], [0, 64, 65, 0, 66, 67, 68, 69, 0, 70, 71, 72, 73, 74], [], [], [], [], [], [], [], [], [], [], [], [0, 76, 77, 0, 78, 79, 80, 81, 0, 82, 83, 84, 85, 86], [], [], [], [], [], [], [], [], [], [], [], [88, 89, 0], [], [], [91, 0], [], [93, 94, 0, 0, 0, 0], [], [], [], [97, 98, 99, 0, 100, 101, 102, 103, 0, 0, 0, 0, 104, 105, 0], [], [], [], [], [], [], [], [], []]
def KK (p : Nat → Nat) : MK := fun r k => if r = 14 then (if k < 6 then some (dr (p k)) else none) else match (kkT.getD r []).getD k 0 with
  | 0 => none
  | v => some v
abbrev HM (X : XT) (I : MI) (L : ML) (p : Nat → Nat) : Heap → Prop := HW (xE X) 106 I L (KK p)
theorem hPW {E : ET} {n : Nat} {I : MI} {L : ML} {K : MK} : ∀ H, HW E n I L K H → HW E n I L K H := fun _ h => h
theorem G.pick {X : XT} {cs sl pc : Nat} {ls ls' : List (Nat × Value)} {st : List Value} {P : Heap → Prop} {ks : List Nat} (h : lv_pick ls ks = ls') (k : G X cs sl pc ls' st P) : G X cs sl pc ls st P := G.less (fun q hq => by
  rw [← h] at hq
  obtain ⟨i, -, hi⟩ := List.mem_filterMap.mp hq
  exact List.mem_of_getElem? hi) k
theorem sh0 : shp 0 = (5, 10) := rfl
theorem so0 : (shp 0).1 = 5 := rfl
theorem sn0 : 0 < 106 := by decide
theorem sh1 : shp 1 = (0, 14) := rfl
theorem so1 : (shp 1).1 = 0 := rfl
theorem sn1 : 1 < 106 := by decide
theorem sh2 : shp 2 = (7, 10) := rfl
theorem so2 : (shp 2).1 = 7 := rfl
theorem sn2 : 2 < 106 := by decide
theorem sh3 : shp 3 = (7, 10) := rfl
theorem so3 : (shp 3).1 = 7 := rfl
theorem sn3 : 3 < 106 := by decide
theorem sh4 : shp 4 = (7, 16) := rfl
theorem so4 : (shp 4).1 = 7 := rfl
theorem sn4 : 4 < 106 := by decide
theorem sh5 : shp 5 = (7, 16) := rfl
theorem so5 : (shp 5).1 = 7 := rfl
theorem sn5 : 5 < 106 := by decide
theorem sh6 : shp 6 = (7, 16) := rfl
theorem so6 : (shp 6).1 = 7 := rfl
theorem sn6 : 6 < 106 := by decide
theorem sh7 : shp 7 = (7, 16) := rfl
theorem so7 : (shp 7).1 = 7 := rfl
theorem sn7 : 7 < 106 := by decide
theorem sh8 : shp 8 = (7, 12) := rfl
theorem so8 : (shp 8).1 = 7 := rfl
theorem sn8 : 8 < 106 := by decide
theorem sh9 : shp 9 = (7, 12) := rfl
theorem so9 : (shp 9).1 = 7 := rfl
theorem sn9 : 9 < 106 := by decide
theorem sh10 : shp 10 = (7, 12) := rfl
theorem so10 : (shp 10).1 = 7 := rfl
theorem sn10 : 10 < 106 := by decide
theorem sh11 : shp 11 = (7, 10) := rfl
theorem so11 : (shp 11).1 = 7 := rfl
theorem sn11 : 11 < 106 := by decide
theorem sh12 : shp 12 = (7, 16) := rfl
theorem so12 : (shp 12).1 = 7 := rfl
theorem sn12 : 12 < 106 := by decide
theorem sh13 : shp 13 = (3, 2) := rfl
theorem so13 : (shp 13).1 = 3 := rfl
theorem sn13 : 13 < 106 := by decide
theorem sh14 : shp 14 = (10, 6) := rfl
theorem so14 : (shp 14).1 = 10 := rfl
theorem sn14 : 14 < 106 := by decide
theorem sh15 : shp 15 = (0, 14) := rfl
theorem so15 : (shp 15).1 = 0 := rfl
theorem sn15 : 15 < 106 := by decide
theorem sh16 : shp 16 = (7, 10) := rfl
theorem so16 : (shp 16).1 = 7 := rfl
theorem sn16 : 16 < 106 := by decide
theorem sh17 : shp 17 = (7, 10) := rfl
theorem so17 : (shp 17).1 = 7 := rfl
theorem sn17 : 17 < 106 := by decide
theorem sh18 : shp 18 = (7, 16) := rfl
theorem so18 : (shp 18).1 = 7 := rfl
theorem sn18 : 18 < 106 := by decide
theorem sh19 : shp 19 = (7, 16) := rfl
theorem so19 : (shp 19).1 = 7 := rfl
theorem sn19 : 19 < 106 := by decide
theorem sh20 : shp 20 = (7, 16) := rfl
theorem so20 : (shp 20).1 = 7 := rfl
theorem sn20 : 20 < 106 := by decide
theorem sh21 : shp 21 = (7, 16) := rfl
theorem so21 : (shp 21).1 = 7 := rfl
theorem sn21 : 21 < 106 := by decide
theorem sh22 : shp 22 = (7, 12) := rfl
theorem so22 : (shp 22).1 = 7 := rfl
theorem sn22 : 22 < 106 := by decide
theorem sh23 : shp 23 = (7, 12) := rfl
theorem so23 : (shp 23).1 = 7 := rfl
theorem sn23 : 23 < 106 := by decide
theorem sh24 : shp 24 = (7, 12) := rfl
theorem so24 : (shp 24).1 = 7 := rfl
theorem sn24 : 24 < 106 := by decide
theorem sh25 : shp 25 = (7, 10) := rfl
theorem so25 : (shp 25).1 = 7 := rfl
theorem sn25 : 25 < 106 := by decide
theorem sh26 : shp 26 = (7, 16) := rfl
theorem so26 : (shp 26).1 = 7 := rfl
theorem sn26 : 26 < 106 := by decide
theorem sh27 : shp 27 = (0, 14) := rfl
theorem so27 : (shp 27).1 = 0 := rfl
theorem sn27 : 27 < 106 := by decide
theorem sh28 : shp 28 = (7, 10) := rfl
theorem so28 : (shp 28).1 = 7 := rfl
theorem sn28 : 28 < 106 := by decide
theorem sh29 : shp 29 = (7, 10) := rfl
theorem so29 : (shp 29).1 = 7 := rfl
theorem sn29 : 29 < 106 := by decide
theorem sh30 : shp 30 = (7, 16) := rfl
theorem so30 : (shp 30).1 = 7 := rfl
theorem sn30 : 30 < 106 := by decide
theorem sh31 : shp 31 = (7, 16) := rfl
theorem so31 : (shp 31).1 = 7 := rfl
theorem sn31 : 31 < 106 := by decide
theorem sh32 : shp 32 = (7, 16) := rfl
theorem so32 : (shp 32).1 = 7 := rfl
theorem sn32 : 32 < 106 := by decide
theorem sh33 : shp 33 = (7, 16) := rfl
theorem so33 : (shp 33).1 = 7 := rfl
theorem sn33 : 33 < 106 := by decide
theorem sh34 : shp 34 = (7, 12) := rfl
theorem so34 : (shp 34).1 = 7 := rfl
theorem sn34 : 34 < 106 := by decide
theorem sh35 : shp 35 = (7, 12) := rfl
theorem so35 : (shp 35).1 = 7 := rfl
theorem sn35 : 35 < 106 := by decide
theorem sh36 : shp 36 = (7, 12) := rfl
theorem so36 : (shp 36).1 = 7 := rfl
theorem sn36 : 36 < 106 := by decide
theorem sh37 : shp 37 = (7, 10) := rfl
theorem so37 : (shp 37).1 = 7 := rfl
theorem sn37 : 37 < 106 := by decide
theorem sh38 : shp 38 = (7, 16) := rfl
theorem so38 : (shp 38).1 = 7 := rfl
theorem sn38 : 38 < 106 := by decide
theorem sh39 : shp 39 = (0, 14) := rfl
theorem so39 : (shp 39).1 = 0 := rfl
theorem sn39 : 39 < 106 := by decide
theorem sh40 : shp 40 = (7, 10) := rfl
theorem so40 : (shp 40).1 = 7 := rfl
theorem sn40 : 40 < 106 := by decide
theorem sh41 : shp 41 = (7, 10) := rfl
theorem so41 : (shp 41).1 = 7 := rfl
theorem sn41 : 41 < 106 := by decide
theorem sh42 : shp 42 = (7, 16) := rfl
theorem so42 : (shp 42).1 = 7 := rfl
theorem sn42 : 42 < 106 := by decide
theorem sh43 : shp 43 = (7, 16) := rfl
theorem so43 : (shp 43).1 = 7 := rfl
theorem sn43 : 43 < 106 := by decide
theorem sh44 : shp 44 = (7, 16) := rfl
theorem so44 : (shp 44).1 = 7 := rfl
theorem sn44 : 44 < 106 := by decide
theorem sh45 : shp 45 = (7, 16) := rfl
theorem so45 : (shp 45).1 = 7 := rfl
theorem sn45 : 45 < 106 := by decide
theorem sh46 : shp 46 = (7, 12) := rfl
theorem so46 : (shp 46).1 = 7 := rfl
theorem sn46 : 46 < 106 := by decide
theorem sh47 : shp 47 = (7, 12) := rfl
theorem so47 : (shp 47).1 = 7 := rfl
theorem sn47 : 47 < 106 := by decide
theorem sh48 : shp 48 = (7, 12) := rfl
theorem so48 : (shp 48).1 = 7 := rfl
theorem sn48 : 48 < 106 := by decide
theorem sh49 : shp 49 = (7, 10) := rfl
theorem so49 : (shp 49).1 = 7 := rfl
theorem sn49 : 49 < 106 := by decide
theorem sh50 : shp 50 = (7, 16) := rfl
theorem so50 : (shp 50).1 = 7 := rfl
theorem sn50 : 50 < 106 := by decide
theorem sh51 : shp 51 = (0, 14) := rfl
theorem so51 : (shp 51).1 = 0 := rfl
theorem sn51 : 51 < 106 := by decide
theorem sh52 : shp 52 = (7, 10) := rfl
theorem so52 : (shp 52).1 = 7 := rfl
theorem sn52 : 52 < 106 := by decide
theorem sh53 : shp 53 = (7, 10) := rfl
theorem so53 : (shp 53).1 = 7 := rfl
theorem sn53 : 53 < 106 := by decide
theorem sh54 : shp 54 = (7, 16) := rfl
theorem so54 : (shp 54).1 = 7 := rfl
theorem sn54 : 54 < 106 := by decide
theorem sh55 : shp 55 = (7, 16) := rfl
theorem so55 : (shp 55).1 = 7 := rfl
theorem sn55 : 55 < 106 := by decide
theorem sh56 : shp 56 = (7, 16) := rfl
theorem so56 : (shp 56).1 = 7 := rfl
theorem sn56 : 56 < 106 := by decide
theorem sh57 : shp 57 = (7, 16) := rfl
theorem so57 : (shp 57).1 = 7 := rfl
theorem sn57 : 57 < 106 := by decide
theorem sh58 : shp 58 = (7, 12) := rfl
theorem so58 : (shp 58).1 = 7 := rfl
theorem sn58 : 58 < 106 := by decide
theorem sh59 : shp 59 = (7, 12) := rfl
theorem so59 : (shp 59).1 = 7 := rfl
theorem sn59 : 59 < 106 := by decide
theorem sh60 : shp 60 = (7, 12) := rfl
theorem so60 : (shp 60).1 = 7 := rfl
theorem sn60 : 60 < 106 := by decide
theorem sh61 : shp 61 = (7, 10) := rfl
theorem so61 : (shp 61).1 = 7 := rfl
theorem sn61 : 61 < 106 := by decide
theorem sh62 : shp 62 = (7, 16) := rfl
theorem so62 : (shp 62).1 = 7 := rfl
theorem sn62 : 62 < 106 := by decide
theorem sh63 : shp 63 = (0, 14) := rfl
theorem so63 : (shp 63).1 = 0 := rfl
theorem sn63 : 63 < 106 := by decide
theorem sh64 : shp 64 = (7, 10) := rfl
theorem so64 : (shp 64).1 = 7 := rfl
theorem sn64 : 64 < 106 := by decide
theorem sh65 : shp 65 = (7, 10) := rfl
theorem so65 : (shp 65).1 = 7 := rfl
theorem sn65 : 65 < 106 := by decide
theorem sh66 : shp 66 = (7, 16) := rfl
theorem so66 : (shp 66).1 = 7 := rfl
theorem sn66 : 66 < 106 := by decide
theorem sh67 : shp 67 = (7, 16) := rfl
theorem so67 : (shp 67).1 = 7 := rfl
theorem sn67 : 67 < 106 := by decide
theorem sh68 : shp 68 = (7, 16) := rfl
theorem so68 : (shp 68).1 = 7 := rfl
theorem sn68 : 68 < 106 := by decide
theorem sh69 : shp 69 = (7, 16) := rfl
theorem so69 : (shp 69).1 = 7 := rfl
theorem sn69 : 69 < 106 := by decide
theorem sh70 : shp 70 = (7, 12) := rfl
theorem so70 : (shp 70).1 = 7 := rfl
theorem sn70 : 70 < 106 := by decide
theorem sh71 : shp 71 = (7, 12) := rfl
theorem so71 : (shp 71).1 = 7 := rfl
theorem sn71 : 71 < 106 := by decide
theorem sh72 : shp 72 = (7, 12) := rfl
theorem so72 : (shp 72).1 = 7 := rfl
theorem sn72 : 72 < 106 := by decide
theorem sh73 : shp 73 = (7, 10) := rfl
theorem so73 : (shp 73).1 = 7 := rfl
theorem sn73 : 73 < 106 := by decide
theorem sh74 : shp 74 = (7, 16) := rfl
theorem so74 : (shp 74).1 = 7 := rfl
theorem sn74 : 74 < 106 := by decide
theorem sh75 : shp 75 = (0, 14) := rfl
theorem so75 : (shp 75).1 = 0 := rfl
theorem sn75 : 75 < 106 := by decide
theorem sh76 : shp 76 = (7, 10) := rfl
theorem so76 : (shp 76).1 = 7 := rfl
theorem sn76 : 76 < 106 := by decide
theorem sh77 : shp 77 = (7, 10) := rfl
theorem so77 : (shp 77).1 = 7 := rfl
theorem sn77 : 77 < 106 := by decide
theorem sh78 : shp 78 = (7, 16) := rfl
theorem so78 : (shp 78).1 = 7 := rfl
theorem sn78 : 78 < 106 := by decide
theorem sh79 : shp 79 = (7, 16) := rfl
theorem so79 : (shp 79).1 = 7 := rfl
theorem sn79 : 79 < 106 := by decide
theorem sh80 : shp 80 = (7, 16) := rfl
theorem so80 : (shp 80).1 = 7 := rfl
theorem sn80 : 80 < 106 := by decide
theorem sh81 : shp 81 = (7, 16) := rfl
theorem so81 : (shp 81).1 = 7 := rfl
theorem sn81 : 81 < 106 := by decide
theorem sh82 : shp 82 = (7, 12) := rfl
theorem so82 : (shp 82).1 = 7 := rfl
theorem sn82 : 82 < 106 := by decide
theorem sh83 : shp 83 = (7, 12) := rfl
theorem so83 : (shp 83).1 = 7 := rfl
theorem sn83 : 83 < 106 := by decide
theorem sh84 : shp 84 = (7, 12) := rfl
theorem so84 : (shp 84).1 = 7 := rfl
theorem sn84 : 84 < 106 := by decide
theorem sh85 : shp 85 = (7, 10) := rfl
theorem so85 : (shp 85).1 = 7 := rfl
theorem sn85 : 85 < 106 := by decide
theorem sh86 : shp 86 = (7, 16) := rfl
theorem so86 : (shp 86).1 = 7 := rfl
theorem sn86 : 86 < 106 := by decide
theorem sh87 : shp 87 = (1, 3) := rfl
theorem so87 : (shp 87).1 = 1 := rfl
theorem sn87 : 87 < 106 := by decide
theorem sh88 : shp 88 = (9, 10) := rfl
theorem so88 : (shp 88).1 = 9 := rfl
theorem sn88 : 88 < 106 := by decide
theorem sh89 : shp 89 = (7, 10) := rfl
theorem so89 : (shp 89).1 = 7 := rfl
theorem sn89 : 89 < 106 := by decide
theorem sh90 : shp 90 = (4, 2) := rfl
theorem so90 : (shp 90).1 = 4 := rfl
theorem sn90 : 90 < 106 := by decide
theorem sh91 : shp 91 = (7, 45) := rfl
theorem so91 : (shp 91).1 = 7 := rfl
theorem sn91 : 91 < 106 := by decide
theorem sh92 : shp 92 = (2, 6) := rfl
theorem so92 : (shp 92).1 = 2 := rfl
theorem sn92 : 92 < 106 := by decide
theorem sh93 : shp 93 = (7, 40) := rfl
theorem so93 : (shp 93).1 = 7 := rfl
theorem sn93 : 93 < 106 := by decide
theorem sh94 : shp 94 = (7, 160) := rfl
theorem so94 : (shp 94).1 = 7 := rfl
theorem sn94 : 94 < 106 := by decide
theorem sh95 : shp 95 = (8, 120) := rfl
theorem so95 : (shp 95).1 = 8 := rfl
theorem sn95 : 95 < 106 := by decide
theorem sh96 : shp 96 = (6, 15) := rfl
theorem so96 : (shp 96).1 = 6 := rfl
theorem sn96 : 96 < 106 := by decide
theorem sh97 : shp 97 = (7, 123) := rfl
theorem so97 : (shp 97).1 = 7 := rfl
theorem sn97 : 97 < 106 := by decide
theorem sh98 : shp 98 = (7, 123) := rfl
theorem so98 : (shp 98).1 = 7 := rfl
theorem sn98 : 98 < 106 := by decide
theorem sh99 : shp 99 = (7, 615) := rfl
theorem so99 : (shp 99).1 = 7 := rfl
theorem sn99 : 99 < 106 := by decide
theorem sh100 : shp 100 = (7, 3) := rfl
theorem so100 : (shp 100).1 = 7 := rfl
theorem sn100 : 100 < 106 := by decide
theorem sh101 : shp 101 = (9, 10) := rfl
theorem so101 : (shp 101).1 = 9 := rfl
theorem sn101 : 101 < 106 := by decide
theorem sh102 : shp 102 = (7, 10) := rfl
theorem so102 : (shp 102).1 = 7 := rfl
theorem sn102 : 102 < 106 := by decide
theorem sh103 : shp 103 = (7, 120) := rfl
theorem so103 : (shp 103).1 = 7 := rfl
theorem sn103 : 103 < 106 := by decide
theorem sh104 : shp 104 = (7, 40) := rfl
theorem so104 : (shp 104).1 = 7 := rfl
theorem sn104 : 104 < 106 := by decide
theorem sh105 : shp 105 = (7, 160) := rfl
theorem so105 : (shp 105).1 = 7 := rfl
theorem sn105 : 105 < 106 := by decide
theorem k0_0 (p : Nat → Nat) : KK p 0 0 = some 1 := rfl
theorem k0_1 (p : Nat → Nat) : KK p 0 1 = some 13 := rfl
theorem k0_2 (p : Nat → Nat) : KK p 0 2 = some 87 := rfl
theorem k0_3 (p : Nat → Nat) : KK p 0 3 = some 90 := rfl
theorem k0_4 (p : Nat → Nat) : KK p 0 4 = some 92 := rfl
theorem k0_5 (p : Nat → Nat) : KK p 0 5 = some 95 := rfl
theorem k1_1 (p : Nat → Nat) : KK p 1 1 = some 2 := rfl
theorem k1_2 (p : Nat → Nat) : KK p 1 2 = some 3 := rfl
theorem k1_4 (p : Nat → Nat) : KK p 1 4 = some 4 := rfl
theorem k1_5 (p : Nat → Nat) : KK p 1 5 = some 5 := rfl
theorem k1_6 (p : Nat → Nat) : KK p 1 6 = some 6 := rfl
theorem k1_7 (p : Nat → Nat) : KK p 1 7 = some 7 := rfl
theorem k1_9 (p : Nat → Nat) : KK p 1 9 = some 8 := rfl
theorem k1_10 (p : Nat → Nat) : KK p 1 10 = some 9 := rfl
theorem k1_11 (p : Nat → Nat) : KK p 1 11 = some 10 := rfl
theorem k1_12 (p : Nat → Nat) : KK p 1 12 = some 11 := rfl
theorem k1_13 (p : Nat → Nat) : KK p 1 13 = some 12 := rfl
theorem k13_0 (p : Nat → Nat) : KK p 13 0 = some 14 := rfl
theorem k15_1 (p : Nat → Nat) : KK p 15 1 = some 16 := rfl
theorem k15_2 (p : Nat → Nat) : KK p 15 2 = some 17 := rfl
theorem k15_4 (p : Nat → Nat) : KK p 15 4 = some 18 := rfl
theorem k15_5 (p : Nat → Nat) : KK p 15 5 = some 19 := rfl
theorem k15_6 (p : Nat → Nat) : KK p 15 6 = some 20 := rfl
theorem k15_7 (p : Nat → Nat) : KK p 15 7 = some 21 := rfl
theorem k15_9 (p : Nat → Nat) : KK p 15 9 = some 22 := rfl
theorem k15_10 (p : Nat → Nat) : KK p 15 10 = some 23 := rfl
theorem k15_11 (p : Nat → Nat) : KK p 15 11 = some 24 := rfl
theorem k15_12 (p : Nat → Nat) : KK p 15 12 = some 25 := rfl
theorem k15_13 (p : Nat → Nat) : KK p 15 13 = some 26 := rfl
theorem k27_1 (p : Nat → Nat) : KK p 27 1 = some 28 := rfl
theorem k27_2 (p : Nat → Nat) : KK p 27 2 = some 29 := rfl
theorem k27_4 (p : Nat → Nat) : KK p 27 4 = some 30 := rfl
theorem k27_5 (p : Nat → Nat) : KK p 27 5 = some 31 := rfl
theorem k27_6 (p : Nat → Nat) : KK p 27 6 = some 32 := rfl
theorem k27_7 (p : Nat → Nat) : KK p 27 7 = some 33 := rfl
theorem k27_9 (p : Nat → Nat) : KK p 27 9 = some 34 := rfl
theorem k27_10 (p : Nat → Nat) : KK p 27 10 = some 35 := rfl
theorem k27_11 (p : Nat → Nat) : KK p 27 11 = some 36 := rfl
theorem k27_12 (p : Nat → Nat) : KK p 27 12 = some 37 := rfl
theorem k27_13 (p : Nat → Nat) : KK p 27 13 = some 38 := rfl
theorem k39_1 (p : Nat → Nat) : KK p 39 1 = some 40 := rfl
theorem k39_2 (p : Nat → Nat) : KK p 39 2 = some 41 := rfl
theorem k39_4 (p : Nat → Nat) : KK p 39 4 = some 42 := rfl
theorem k39_5 (p : Nat → Nat) : KK p 39 5 = some 43 := rfl
theorem k39_6 (p : Nat → Nat) : KK p 39 6 = some 44 := rfl
theorem k39_7 (p : Nat → Nat) : KK p 39 7 = some 45 := rfl
theorem k39_9 (p : Nat → Nat) : KK p 39 9 = some 46 := rfl
theorem k39_10 (p : Nat → Nat) : KK p 39 10 = some 47 := rfl
theorem k39_11 (p : Nat → Nat) : KK p 39 11 = some 48 := rfl
theorem k39_12 (p : Nat → Nat) : KK p 39 12 = some 49 := rfl
theorem k39_13 (p : Nat → Nat) : KK p 39 13 = some 50 := rfl
theorem k51_1 (p : Nat → Nat) : KK p 51 1 = some 52 := rfl
theorem k51_2 (p : Nat → Nat) : KK p 51 2 = some 53 := rfl
theorem k51_4 (p : Nat → Nat) : KK p 51 4 = some 54 := rfl
theorem k51_5 (p : Nat → Nat) : KK p 51 5 = some 55 := rfl
theorem k51_6 (p : Nat → Nat) : KK p 51 6 = some 56 := rfl
theorem k51_7 (p : Nat → Nat) : KK p 51 7 = some 57 := rfl
theorem k51_9 (p : Nat → Nat) : KK p 51 9 = some 58 := rfl
theorem k51_10 (p : Nat → Nat) : KK p 51 10 = some 59 := rfl
theorem k51_11 (p : Nat → Nat) : KK p 51 11 = some 60 := rfl
theorem k51_12 (p : Nat → Nat) : KK p 51 12 = some 61 := rfl
theorem k51_13 (p : Nat → Nat) : KK p 51 13 = some 62 := rfl
theorem k63_1 (p : Nat → Nat) : KK p 63 1 = some 64 := rfl
theorem k63_2 (p : Nat → Nat) : KK p 63 2 = some 65 := rfl
theorem k63_4 (p : Nat → Nat) : KK p 63 4 = some 66 := rfl
theorem k63_5 (p : Nat → Nat) : KK p 63 5 = some 67 := rfl
theorem k63_6 (p : Nat → Nat) : KK p 63 6 = some 68 := rfl
theorem k63_7 (p : Nat → Nat) : KK p 63 7 = some 69 := rfl
theorem k63_9 (p : Nat → Nat) : KK p 63 9 = some 70 := rfl
theorem k63_10 (p : Nat → Nat) : KK p 63 10 = some 71 := rfl
theorem k63_11 (p : Nat → Nat) : KK p 63 11 = some 72 := rfl
theorem k63_12 (p : Nat → Nat) : KK p 63 12 = some 73 := rfl
theorem k63_13 (p : Nat → Nat) : KK p 63 13 = some 74 := rfl
theorem k75_1 (p : Nat → Nat) : KK p 75 1 = some 76 := rfl
theorem k75_2 (p : Nat → Nat) : KK p 75 2 = some 77 := rfl
theorem k75_4 (p : Nat → Nat) : KK p 75 4 = some 78 := rfl
theorem k75_5 (p : Nat → Nat) : KK p 75 5 = some 79 := rfl
theorem k75_6 (p : Nat → Nat) : KK p 75 6 = some 80 := rfl
theorem k75_7 (p : Nat → Nat) : KK p 75 7 = some 81 := rfl
theorem k75_9 (p : Nat → Nat) : KK p 75 9 = some 82 := rfl
theorem k75_10 (p : Nat → Nat) : KK p 75 10 = some 83 := rfl
theorem k75_11 (p : Nat → Nat) : KK p 75 11 = some 84 := rfl
theorem k75_12 (p : Nat → Nat) : KK p 75 12 = some 85 := rfl
theorem k75_13 (p : Nat → Nat) : KK p 75 13 = some 86 := rfl
theorem k87_0 (p : Nat → Nat) : KK p 87 0 = some 88 := rfl
theorem k87_1 (p : Nat → Nat) : KK p 87 1 = some 89 := rfl
theorem k90_0 (p : Nat → Nat) : KK p 90 0 = some 91 := rfl
theorem k92_0 (p : Nat → Nat) : KK p 92 0 = some 93 := rfl
theorem k92_1 (p : Nat → Nat) : KK p 92 1 = some 94 := rfl
theorem k96_0 (p : Nat → Nat) : KK p 96 0 = some 97 := rfl
theorem k96_1 (p : Nat → Nat) : KK p 96 1 = some 98 := rfl
theorem k96_2 (p : Nat → Nat) : KK p 96 2 = some 99 := rfl
theorem k96_4 (p : Nat → Nat) : KK p 96 4 = some 100 := rfl
theorem k96_5 (p : Nat → Nat) : KK p 96 5 = some 101 := rfl
theorem k96_6 (p : Nat → Nat) : KK p 96 6 = some 102 := rfl
theorem k96_7 (p : Nat → Nat) : KK p 96 7 = some 103 := rfl
theorem k96_12 (p : Nat → Nat) : KK p 96 12 = some 104 := rfl
theorem k96_13 (p : Nat → Nat) : KK p 96 13 = some 105 := rfl
theorem kkept {p : Nat → Nat} {j : Nat} (h : j < 6) : KK p 14 j = some (dr (p j)) := by simp [KK, h]
theorem dr_all : ∀ d, d < 7 → dr d < 106 ∧ (shp (dr d)).1 = 0 ∧ dr d ≠ 14 := by decide +kernel
theorem drlt {d : Nat} (h : d < 7) : dr d < 106 := (dr_all d h).1
theorem drso {d : Nat} (h : d < 7) : (shp (dr d)).1 = 0 := (dr_all d h).2.1
def drO : List (Nat × Nat) := [(1, 1), (2, 2), (4, 3), (5, 4), (6, 5), (7, 6), (9, 7), (10, 8), (11, 9), (12, 10), (13, 11)]
theorem drK0 : ∀ d, d < 7 → ∀ q ∈ drO, (kkT.getD (dr d) []).getD q.1 0 = dr d + q.2 ∧ dr d ≠ 14 := by decide +kernel
theorem drK {p : Nat → Nat} {d : Nat} (h : d < 7) {k o : Nat} (hk : (k, o) ∈ drO) : KK p (dr d) k = some (dr d + o) := by
  obtain ⟨h1, h2⟩ := drK0 d h (k, o) hk
  have h3 : dr d ≠ 0 := by unfold dr; split <;> omega
  unfold KK
  rw [if_neg h2, h1]
  split
  · next e => dsimp only at e; omega
  · rfl
theorem g_aastK {X : XT} {cc : ByteArray} {nL : Nat} {own : String} {Ts : List Cond} {R : Room} {cs sl pc : Nat} {ls : List (Nat × Value)} {st : List Value} {I : MI} {L : ML} {p : Nat → Nat} (hX : Cx X cc nL own Ts R) {d j : Nat} {i : Int32} (hi : i = nI j) (hj : j < 6) (hv : d < 7) (hd : decode cc pc = .ok (.aastore, 1)) (kk : G X cs sl (pc + 1) ls st (HM X I L (va_up p j d))) : G X cs sl pc ls (.ref (dr d) :: .int i :: .ref 14 :: st) (HM X I L p) := by
  refine g_aast hX sn14 sh14 (drlt hv) (drso hv) hi hj (by decide) hd ?_
  have e : upK (KK p) 14 j (some (dr d)) = KK (va_up p j d) := by
    funext r k
    by_cases hr : r = 14
    · subst hr
      by_cases hk : k = j
      · subst hk; simp [upK, KK, va_up, hj]
      · simp [upK, KK, va_up, hk]
    · simp [upK, KK, hr]
  rw [e]
  exact kk
theorem b01 {c : Prop} [Decidable c] : (if c then (1 : Int32) else 0) = 0 ∨ (if c then (1 : Int32) else 0) = 1 := by split <;> simp
theorem b10 {c : Prop} [Decidable c] : (if c then (0 : Int32) else 1) = 0 ∨ (if c then (0 : Int32) else 1) = 1 := by split <;> simp
theorem ydX0_init : yX0_init.cls ≠ "java/lang/invoke/MethodHandle" ∧ yX0_init.cls ≠ "java/lang/invoke/VarHandle" ∧ (parseMethodDescriptor yX0_init.desc).map (fun d => d.parameters.length) = some 0 := by decide +kernel
def rmX0_init : Room := { frames := 1, cells := 11, slots := 146, locals := 20 }
theorem ydX0_hasShaft : yX0_hasShaft.cls ≠ "java/lang/invoke/MethodHandle" ∧ yX0_hasShaft.cls ≠ "java/lang/invoke/VarHandle" ∧ (parseMethodDescriptor yX0_hasShaft.desc).map (fun d => d.parameters.length) = some 1 := by decide +kernel
def rmX0_hasShaft : Room := { frames := 1, cells := 0, slots := 0, locals := 22 }
theorem ydX0_hasPipe : yX0_hasPipe.cls ≠ "java/lang/invoke/MethodHandle" ∧ yX0_hasPipe.cls ≠ "java/lang/invoke/VarHandle" ∧ (parseMethodDescriptor yX0_hasPipe.desc).map (fun d => d.parameters.length) = some 1 := by decide +kernel
def rmX0_hasPipe : Room := { frames := 1, cells := 0, slots := 0, locals := 22 }
theorem ydX0_addShaft : yX0_addShaft.cls ≠ "java/lang/invoke/MethodHandle" ∧ yX0_addShaft.cls ≠ "java/lang/invoke/VarHandle" ∧ (parseMethodDescriptor yX0_addShaft.desc).map (fun d => d.parameters.length) = some 2 := by decide +kernel
def rmX0_addShaft : Room := { frames := 3, cells := 0, slots := 0, locals := 63 }
theorem ydX0_changeShaft : yX0_changeShaft.cls ≠ "java/lang/invoke/MethodHandle" ∧ yX0_changeShaft.cls ≠ "java/lang/invoke/VarHandle" ∧ (parseMethodDescriptor yX0_changeShaft.desc).map (fun d => d.parameters.length) = some 3 := by decide +kernel
def rmX0_changeShaft : Room := { frames := 2, cells := 0, slots := 0, locals := 43 }
theorem ydX0_addPipe : yX0_addPipe.cls ≠ "java/lang/invoke/MethodHandle" ∧ yX0_addPipe.cls ≠ "java/lang/invoke/VarHandle" ∧ (parseMethodDescriptor yX0_addPipe.desc).map (fun d => d.parameters.length) = some 4 := by decide +kernel
def rmX0_addPipe : Room := { frames := 3, cells := 0, slots := 0, locals := 63 }
theorem ydX0_dropPipe : yX0_dropPipe.cls ≠ "java/lang/invoke/MethodHandle" ∧ yX0_dropPipe.cls ≠ "java/lang/invoke/VarHandle" ∧ (parseMethodDescriptor yX0_dropPipe.desc).map (fun d => d.parameters.length) = some 1 := by decide +kernel
def rmX0_dropPipe : Room := { frames := 3, cells := 0, slots := 0, locals := 63 }
theorem ydX0_addSight : yX0_addSight.cls ≠ "java/lang/invoke/MethodHandle" ∧ yX0_addSight.cls ≠ "java/lang/invoke/VarHandle" ∧ (parseMethodDescriptor yX0_addSight.desc).map (fun d => d.parameters.length) = some 3 := by decide +kernel
def rmX0_addSight : Room := { frames := 2, cells := 0, slots := 0, locals := 43 }
theorem ydX0_dropSights : yX0_dropSights.cls ≠ "java/lang/invoke/MethodHandle" ∧ yX0_dropSights.cls ≠ "java/lang/invoke/VarHandle" ∧ (parseMethodDescriptor yX0_dropSights.desc).map (fun d => d.parameters.length) = some 0 := by decide +kernel
def rmX0_dropSights : Room := { frames := 0, cells := 0, slots := 0, locals := 0 }
theorem ydX0_isBelow : yX0_isBelow.cls ≠ "java/lang/invoke/MethodHandle" ∧ yX0_isBelow.cls ≠ "java/lang/invoke/VarHandle" ∧ (parseMethodDescriptor yX0_isBelow.desc).map (fun d => d.parameters.length) = some 2 := by decide +kernel
def rmX0_isBelow : Room := { frames := 0, cells := 0, slots := 0, locals := 0 }
theorem ydX0_above : yX0_above.cls ≠ "java/lang/invoke/MethodHandle" ∧ yX0_above.cls ≠ "java/lang/invoke/VarHandle" ∧ (parseMethodDescriptor yX0_above.desc).map (fun d => d.parameters.length) = some 1 := by decide +kernel
def rmX0_above : Room := { frames := 1, cells := 0, slots := 0, locals := 22 }
theorem ydX0_pipesAt : yX0_pipesAt.cls ≠ "java/lang/invoke/MethodHandle" ∧ yX0_pipesAt.cls ≠ "java/lang/invoke/VarHandle" ∧ (parseMethodDescriptor yX0_pipesAt.desc).map (fun d => d.parameters.length) = some 2 := by decide +kernel
def rmX0_pipesAt : Room := { frames := 0, cells := 0, slots := 0, locals := 0 }
theorem ydX0_leaving : yX0_leaving.cls ≠ "java/lang/invoke/MethodHandle" ∧ yX0_leaving.cls ≠ "java/lang/invoke/VarHandle" ∧ (parseMethodDescriptor yX0_leaving.desc).map (fun d => d.parameters.length) = some 2 := by decide +kernel
def rmX0_leaving : Room := { frames := 1, cells := 0, slots := 0, locals := 27 }
theorem ydX0_brought : yX0_brought.cls ≠ "java/lang/invoke/MethodHandle" ∧ yX0_brought.cls ≠ "java/lang/invoke/VarHandle" ∧ (parseMethodDescriptor yX0_brought.desc).map (fun d => d.parameters.length) = some 2 := by decide +kernel
def rmX0_brought : Room := { frames := 0, cells := 0, slots := 0, locals := 0 }
theorem ydX0_copyFrom : yX0_copyFrom.cls ≠ "java/lang/invoke/MethodHandle" ∧ yX0_copyFrom.cls ≠ "java/lang/invoke/VarHandle" ∧ (parseMethodDescriptor yX0_copyFrom.desc).map (fun d => d.parameters.length) = some 1 := by decide +kernel
def rmX0_copyFrom : Room := { frames := 2, cells := 0, slots := 0, locals := 47 }
theorem ydX0_findWays : yX0_findWays.cls ≠ "java/lang/invoke/MethodHandle" ∧ yX0_findWays.cls ≠ "java/lang/invoke/VarHandle" ∧ (parseMethodDescriptor yX0_findWays.desc).map (fun d => d.parameters.length) = some 0 := by decide +kernel
def rmX0_findWays : Room := { frames := 2, cells := 0, slots := 0, locals := 43 }
theorem ydX0_findBelow : yX0_findBelow.cls ≠ "java/lang/invoke/MethodHandle" ∧ yX0_findBelow.cls ≠ "java/lang/invoke/VarHandle" ∧ (parseMethodDescriptor yX0_findBelow.desc).map (fun d => d.parameters.length) = some 0 := by decide +kernel
def rmX0_findBelow : Room := { frames := 0, cells := 0, slots := 0, locals := 0 }
theorem ydX0_findRoute : yX0_findRoute.cls ≠ "java/lang/invoke/MethodHandle" ∧ yX0_findRoute.cls ≠ "java/lang/invoke/VarHandle" ∧ (parseMethodDescriptor yX0_findRoute.desc).map (fun d => d.parameters.length) = some 0 := by decide +kernel
def rmX0_findRoute : Room := { frames := 1, cells := 0, slots := 0, locals := 20 }
theorem ydX0_pumped : yX0_pumped.cls ≠ "java/lang/invoke/MethodHandle" ∧ yX0_pumped.cls ≠ "java/lang/invoke/VarHandle" ∧ (parseMethodDescriptor yX0_pumped.desc).map (fun d => d.parameters.length) = some 2 := by decide +kernel
def rmX0_pumped : Room := { frames := 0, cells := 0, slots := 0, locals := 0 }
theorem ydX0_isKind : yX0_isKind.cls ≠ "java/lang/invoke/MethodHandle" ∧ yX0_isKind.cls ≠ "java/lang/invoke/VarHandle" ∧ (parseMethodDescriptor yX0_isKind.desc).map (fun d => d.parameters.length) = some 1 := by decide +kernel
def rmX0_isKind : Room := { frames := 1, cells := 0, slots := 0, locals := 22 }
theorem ydX0_isPace : yX0_isPace.cls ≠ "java/lang/invoke/MethodHandle" ∧ yX0_isPace.cls ≠ "java/lang/invoke/VarHandle" ∧ (parseMethodDescriptor yX0_isPace.desc).map (fun d => d.parameters.length) = some 1 := by decide +kernel
def rmX0_isPace : Room := { frames := 1, cells := 0, slots := 0, locals := 22 }
theorem ydX0_copyRow : yX0_copyRow.cls ≠ "java/lang/invoke/MethodHandle" ∧ yX0_copyRow.cls ≠ "java/lang/invoke/VarHandle" ∧ (parseMethodDescriptor yX0_copyRow.desc).map (fun d => d.parameters.length) = some 2 := by decide +kernel
def rmX0_copyRow : Room := { frames := 1, cells := 0, slots := 0, locals := 26 }
theorem ydX1_init : yX1_init.cls ≠ "java/lang/invoke/MethodHandle" ∧ yX1_init.cls ≠ "java/lang/invoke/VarHandle" ∧ (parseMethodDescriptor yX1_init.desc).map (fun d => d.parameters.length) = some 0 := by decide +kernel
def rmX1_init : Room := { frames := 1, cells := 2, slots := 20, locals := 20 }
theorem ydX1_outdate : yX1_outdate.cls ≠ "java/lang/invoke/MethodHandle" ∧ yX1_outdate.cls ≠ "java/lang/invoke/VarHandle" ∧ (parseMethodDescriptor yX1_outdate.desc).map (fun d => d.parameters.length) = some 0 := by decide +kernel
def rmX1_outdate : Room := { frames := 0, cells := 0, slots := 0, locals := 0 }
theorem ydX1_walk : yX1_walk.cls ≠ "java/lang/invoke/MethodHandle" ∧ yX1_walk.cls ≠ "java/lang/invoke/VarHandle" ∧ (parseMethodDescriptor yX1_walk.desc).map (fun d => d.parameters.length) = some 3 := by decide +kernel
def rmX1_walk : Room := { frames := 2, cells := 0, slots := 0, locals := 51 }
theorem ydX1_agrees : yX1_agrees.cls ≠ "java/lang/invoke/MethodHandle" ∧ yX1_agrees.cls ≠ "java/lang/invoke/VarHandle" ∧ (parseMethodDescriptor yX1_agrees.desc).map (fun d => d.parameters.length) = some 1 := by decide +kernel
def rmX1_agrees : Room := { frames := 1, cells := 0, slots := 0, locals := 25 }
theorem ydX1_startsAt : yX1_startsAt.cls ≠ "java/lang/invoke/MethodHandle" ∧ yX1_startsAt.cls ≠ "java/lang/invoke/VarHandle" ∧ (parseMethodDescriptor yX1_startsAt.desc).map (fun d => d.parameters.length) = some 2 := by decide +kernel
def rmX1_startsAt : Room := { frames := 3, cells := 0, slots := 0, locals := 77 }
theorem ydX1_suspicious : yX1_suspicious.cls ≠ "java/lang/invoke/MethodHandle" ∧ yX1_suspicious.cls ≠ "java/lang/invoke/VarHandle" ∧ (parseMethodDescriptor yX1_suspicious.desc).map (fun d => d.parameters.length) = some 1 := by decide +kernel
def rmX1_suspicious : Room := { frames := 4, cells := 0, slots := 0, locals := 101 }
theorem ydX1_agreesWith : yX1_agreesWith.cls ≠ "java/lang/invoke/MethodHandle" ∧ yX1_agreesWith.cls ≠ "java/lang/invoke/VarHandle" ∧ (parseMethodDescriptor yX1_agreesWith.desc).map (fun d => d.parameters.length) = some 2 := by decide +kernel
def rmX1_agreesWith : Room := { frames := 0, cells := 0, slots := 0, locals := 0 }
theorem ydX2_init : yX2_init.cls ≠ "java/lang/invoke/MethodHandle" ∧ yX2_init.cls ≠ "java/lang/invoke/VarHandle" ∧ (parseMethodDescriptor yX2_init.desc).map (fun d => d.parameters.length) = some 0 := by decide +kernel
def rmX2_init : Room := { frames := 1, cells := 2, slots := 200, locals := 20 }
theorem ydX2_parse : yX2_parse.cls ≠ "java/lang/invoke/MethodHandle" ∧ yX2_parse.cls ≠ "java/lang/invoke/VarHandle" ∧ (parseMethodDescriptor yX2_parse.desc).map (fun d => d.parameters.length) = some 2 := by decide +kernel
def rmX2_parse : Room := { frames := 3, cells := 0, slots := 0, locals := 63 }
theorem ydX2_obey : yX2_obey.cls ≠ "java/lang/invoke/MethodHandle" ∧ yX2_obey.cls ≠ "java/lang/invoke/VarHandle" ∧ (parseMethodDescriptor yX2_obey.desc).map (fun d => d.parameters.length) = some 2 := by decide +kernel
def rmX2_obey : Room := { frames := 4, cells := 0, slots := 0, locals := 88 }
theorem ydX2_takes : yX2_takes.cls ≠ "java/lang/invoke/MethodHandle" ∧ yX2_takes.cls ≠ "java/lang/invoke/VarHandle" ∧ (parseMethodDescriptor yX2_takes.desc).map (fun d => d.parameters.length) = some 1 := by decide +kernel
def rmX2_takes : Room := { frames := 2, cells := 0, slots := 0, locals := 42 }
theorem ydX2_opens : yX2_opens.cls ≠ "java/lang/invoke/MethodHandle" ∧ yX2_opens.cls ≠ "java/lang/invoke/VarHandle" ∧ (parseMethodDescriptor yX2_opens.desc).map (fun d => d.parameters.length) = some 1 := by decide +kernel
def rmX2_opens : Room := { frames := 1, cells := 0, slots := 0, locals := 20 }
theorem ydX2_closes : yX2_closes.cls ≠ "java/lang/invoke/MethodHandle" ∧ yX2_closes.cls ≠ "java/lang/invoke/VarHandle" ∧ (parseMethodDescriptor yX2_closes.desc).map (fun d => d.parameters.length) = some 0 := by decide +kernel
def rmX2_closes : Room := { frames := 1, cells := 0, slots := 0, locals := 20 }
theorem ydX2_takesFigure : yX2_takesFigure.cls ≠ "java/lang/invoke/MethodHandle" ∧ yX2_takesFigure.cls ≠ "java/lang/invoke/VarHandle" ∧ (parseMethodDescriptor yX2_takesFigure.desc).map (fun d => d.parameters.length) = some 1 := by decide +kernel
def rmX2_takesFigure : Room := { frames := 1, cells := 0, slots := 0, locals := 20 }
theorem ydX2_numbersOf : yX2_numbersOf.cls ≠ "java/lang/invoke/MethodHandle" ∧ yX2_numbersOf.cls ≠ "java/lang/invoke/VarHandle" ∧ (parseMethodDescriptor yX2_numbersOf.desc).map (fun d => d.parameters.length) = some 1 := by decide +kernel
def rmX2_numbersOf : Room := { frames := 0, cells := 0, slots := 0, locals := 0 }
theorem ydX3_init : yX3_init.cls ≠ "java/lang/invoke/MethodHandle" ∧ yX3_init.cls ≠ "java/lang/invoke/VarHandle" ∧ (parseMethodDescriptor yX3_init.desc).map (fun d => d.parameters.length) = some 0 := by decide +kernel
def rmX3_init : Room := { frames := 2, cells := 73, slots := 966, locals := 40 }
theorem ydX3_mark : yX3_mark.cls ≠ "java/lang/invoke/MethodHandle" ∧ yX3_mark.cls ≠ "java/lang/invoke/VarHandle" ∧ (parseMethodDescriptor yX3_mark.desc).map (fun d => d.parameters.length) = some 1 := by decide +kernel
def rmX3_mark : Room := { frames := 3, cells := 0, slots := 0, locals := 68 }
theorem ydX3_toMark : yX3_toMark.cls ≠ "java/lang/invoke/MethodHandle" ∧ yX3_toMark.cls ≠ "java/lang/invoke/VarHandle" ∧ (parseMethodDescriptor yX3_toMark.desc).map (fun d => d.parameters.length) = some 1 := by decide +kernel
def rmX3_toMark : Room := { frames := 3, cells := 0, slots := 0, locals := 68 }
theorem ydX3_keep : yX3_keep.cls ≠ "java/lang/invoke/MethodHandle" ∧ yX3_keep.cls ≠ "java/lang/invoke/VarHandle" ∧ (parseMethodDescriptor yX3_keep.desc).map (fun d => d.parameters.length) = some 0 := by decide +kernel
def rmX3_keep : Room := { frames := 0, cells := 0, slots := 0, locals := 0 }
theorem ydX3_undo : yX3_undo.cls ≠ "java/lang/invoke/MethodHandle" ∧ yX3_undo.cls ≠ "java/lang/invoke/VarHandle" ∧ (parseMethodDescriptor yX3_undo.desc).map (fun d => d.parameters.length) = some 1 := by decide +kernel
def rmX3_undo : Room := { frames := 3, cells := 0, slots := 0, locals := 68 }
theorem ydX4_init : yX4_init.cls ≠ "java/lang/invoke/MethodHandle" ∧ yX4_init.cls ≠ "java/lang/invoke/VarHandle" ∧ (parseMethodDescriptor yX4_init.desc).map (fun d => d.parameters.length) = some 0 := by decide +kernel
def rmX4_init : Room := { frames := 1, cells := 1, slots := 45, locals := 20 }
theorem ydX4_compare : yX4_compare.cls ≠ "java/lang/invoke/MethodHandle" ∧ yX4_compare.cls ≠ "java/lang/invoke/VarHandle" ∧ (parseMethodDescriptor yX4_compare.desc).map (fun d => d.parameters.length) = some 1 := by decide +kernel
def rmX4_compare : Room := { frames := 0, cells := 0, slots := 0, locals := 0 }
theorem ydX4_untold : yX4_untold.cls ≠ "java/lang/invoke/MethodHandle" ∧ yX4_untold.cls ≠ "java/lang/invoke/VarHandle" ∧ (parseMethodDescriptor yX4_untold.desc).map (fun d => d.parameters.length) = some 1 := by decide +kernel
def rmX4_untold : Room := { frames := 0, cells := 0, slots := 0, locals := 0 }
theorem ydX4_fewest : yX4_fewest.cls ≠ "java/lang/invoke/MethodHandle" ∧ yX4_fewest.cls ≠ "java/lang/invoke/VarHandle" ∧ (parseMethodDescriptor yX4_fewest.desc).map (fun d => d.parameters.length) = some 1 := by decide +kernel
def rmX4_fewest : Room := { frames := 1, cells := 0, slots := 0, locals := 22 }
theorem ydX4_tellsAll : yX4_tellsAll.cls ≠ "java/lang/invoke/MethodHandle" ∧ yX4_tellsAll.cls ≠ "java/lang/invoke/VarHandle" ∧ (parseMethodDescriptor yX4_tellsAll.desc).map (fun d => d.parameters.length) = some 1 := by decide +kernel
def rmX4_tellsAll : Room := { frames := 0, cells := 0, slots := 0, locals := 0 }
theorem ydX5_init : yX5_init.cls ≠ "java/lang/invoke/MethodHandle" ∧ yX5_init.cls ≠ "java/lang/invoke/VarHandle" ∧ (parseMethodDescriptor yX5_init.desc).map (fun d => d.parameters.length) = some 0 := by decide +kernel
def rmX5_init : Room := { frames := 3, cells := 95, slots := 1524, locals := 61 }
theorem ydX5_shaft : yX5_shaft.cls ≠ "java/lang/invoke/MethodHandle" ∧ yX5_shaft.cls ≠ "java/lang/invoke/VarHandle" ∧ (parseMethodDescriptor yX5_shaft.desc).map (fun d => d.parameters.length) = some 2 := by decide +kernel
def rmX5_shaft : Room := { frames := 4, cells := 0, slots := 0, locals := 89 }
theorem ydX5_sets : yX5_sets.cls ≠ "java/lang/invoke/MethodHandle" ∧ yX5_sets.cls ≠ "java/lang/invoke/VarHandle" ∧ (parseMethodDescriptor yX5_sets.desc).map (fun d => d.parameters.length) = some 3 := by decide +kernel
def rmX5_sets : Room := { frames := 4, cells := 0, slots := 0, locals := 89 }
theorem ydX5_pipe : yX5_pipe.cls ≠ "java/lang/invoke/MethodHandle" ∧ yX5_pipe.cls ≠ "java/lang/invoke/VarHandle" ∧ (parseMethodDescriptor yX5_pipe.desc).map (fun d => d.parameters.length) = some 4 := by decide +kernel
def rmX5_pipe : Room := { frames := 4, cells := 0, slots := 0, locals := 89 }
theorem ydX5_drops : yX5_drops.cls ≠ "java/lang/invoke/MethodHandle" ∧ yX5_drops.cls ≠ "java/lang/invoke/VarHandle" ∧ (parseMethodDescriptor yX5_drops.desc).map (fun d => d.parameters.length) = some 1 := by decide +kernel
def rmX5_drops : Room := { frames := 4, cells := 0, slots := 0, locals := 89 }
theorem ydX5_of : yX5_of.cls ≠ "java/lang/invoke/MethodHandle" ∧ yX5_of.cls ≠ "java/lang/invoke/VarHandle" ∧ (parseMethodDescriptor yX5_of.desc).map (fun d => d.parameters.length) = some 2 := by decide +kernel
def rmX5_of : Room := { frames := 2, cells := 0, slots := 0, locals := 45 }
theorem ydX5_about : yX5_about.cls ≠ "java/lang/invoke/MethodHandle" ∧ yX5_about.cls ≠ "java/lang/invoke/VarHandle" ∧ (parseMethodDescriptor yX5_about.desc).map (fun d => d.parameters.length) = some 2 := by decide +kernel
def rmX5_about : Room := { frames := 2, cells := 0, slots := 0, locals := 43 }
theorem ydX5_comes : yX5_comes.cls ≠ "java/lang/invoke/MethodHandle" ∧ yX5_comes.cls ≠ "java/lang/invoke/VarHandle" ∧ (parseMethodDescriptor yX5_comes.desc).map (fun d => d.parameters.length) = some 3 := by decide +kernel
def rmX5_comes : Room := { frames := 3, cells := 0, slots := 0, locals := 77 }
theorem ydX5_times : yX5_times.cls ≠ "java/lang/invoke/MethodHandle" ∧ yX5_times.cls ≠ "java/lang/invoke/VarHandle" ∧ (parseMethodDescriptor yX5_times.desc).map (fun d => d.parameters.length) = some 4 := by decide +kernel
def rmX5_times : Room := { frames := 3, cells := 0, slots := 0, locals := 77 }
theorem ydX5_leaves : yX5_leaves.cls ≠ "java/lang/invoke/MethodHandle" ∧ yX5_leaves.cls ≠ "java/lang/invoke/VarHandle" ∧ (parseMethodDescriptor yX5_leaves.desc).map (fun d => d.parameters.length) = some 2 := by decide +kernel
def rmX5_leaves : Room := { frames := 2, cells := 0, slots := 0, locals := 51 }
theorem ydX5_sight : yX5_sight.cls ≠ "java/lang/invoke/MethodHandle" ∧ yX5_sight.cls ≠ "java/lang/invoke/VarHandle" ∧ (parseMethodDescriptor yX5_sight.desc).map (fun d => d.parameters.length) = some 3 := by decide +kernel
def rmX5_sight : Room := { frames := 4, cells := 0, slots := 0, locals := 89 }
theorem ydX5_forget : yX5_forget.cls ≠ "java/lang/invoke/MethodHandle" ∧ yX5_forget.cls ≠ "java/lang/invoke/VarHandle" ∧ (parseMethodDescriptor yX5_forget.desc).map (fun d => d.parameters.length) = some 0 := by decide +kernel
def rmX5_forget : Room := { frames := 4, cells := 0, slots := 0, locals := 89 }
theorem ydX5_fits : yX5_fits.cls ≠ "java/lang/invoke/MethodHandle" ∧ yX5_fits.cls ≠ "java/lang/invoke/VarHandle" ∧ (parseMethodDescriptor yX5_fits.desc).map (fun d => d.parameters.length) = some 2 := by decide +kernel
def rmX5_fits : Room := { frames := 3, cells := 0, slots := 0, locals := 77 }
theorem ydX5_when : yX5_when.cls ≠ "java/lang/invoke/MethodHandle" ∧ yX5_when.cls ≠ "java/lang/invoke/VarHandle" ∧ (parseMethodDescriptor yX5_when.desc).map (fun d => d.parameters.length) = some 1 := by decide +kernel
def rmX5_when : Room := { frames := 4, cells := 0, slots := 0, locals := 101 }
theorem ydX5_suspects : yX5_suspects.cls ≠ "java/lang/invoke/MethodHandle" ∧ yX5_suspects.cls ≠ "java/lang/invoke/VarHandle" ∧ (parseMethodDescriptor yX5_suspects.desc).map (fun d => d.parameters.length) = some 0 := by decide +kernel
def rmX5_suspects : Room := { frames := 5, cells := 0, slots := 0, locals := 124 }
theorem ydX5_next : yX5_next.cls ≠ "java/lang/invoke/MethodHandle" ∧ yX5_next.cls ≠ "java/lang/invoke/VarHandle" ∧ (parseMethodDescriptor yX5_next.desc).map (fun d => d.parameters.length) = some 1 := by decide +kernel
def rmX5_next : Room := { frames := 5, cells := 0, slots := 0, locals := 124 }
theorem ydX5_alike : yX5_alike.cls ≠ "java/lang/invoke/MethodHandle" ∧ yX5_alike.cls ≠ "java/lang/invoke/VarHandle" ∧ (parseMethodDescriptor yX5_alike.desc).map (fun d => d.parameters.length) = some 1 := by decide +kernel
def rmX5_alike : Room := { frames := 1, cells := 0, slots := 0, locals := 23 }
theorem ydX5_sensors : yX5_sensors.cls ≠ "java/lang/invoke/MethodHandle" ∧ yX5_sensors.cls ≠ "java/lang/invoke/VarHandle" ∧ (parseMethodDescriptor yX5_sensors.desc).map (fun d => d.parameters.length) = some 1 := by decide +kernel
def rmX5_sensors : Room := { frames := 2, cells := 0, slots := 0, locals := 47 }
theorem ydX5_type : yX5_type.cls ≠ "java/lang/invoke/MethodHandle" ∧ yX5_type.cls ≠ "java/lang/invoke/VarHandle" ∧ (parseMethodDescriptor yX5_type.desc).map (fun d => d.parameters.length) = some 1 := by decide +kernel
def rmX5_type : Room := { frames := 1, cells := 0, slots := 0, locals := 22 }
theorem ydX5_clear : yX5_clear.cls ≠ "java/lang/invoke/MethodHandle" ∧ yX5_clear.cls ≠ "java/lang/invoke/VarHandle" ∧ (parseMethodDescriptor yX5_clear.desc).map (fun d => d.parameters.length) = some 0 := by decide +kernel
def rmX5_clear : Room := { frames := 0, cells := 0, slots := 0, locals := 0 }
theorem ydX5_reads : yX5_reads.cls ≠ "java/lang/invoke/MethodHandle" ∧ yX5_reads.cls ≠ "java/lang/invoke/VarHandle" ∧ (parseMethodDescriptor yX5_reads.desc).map (fun d => d.parameters.length) = some 0 := by decide +kernel
def rmX5_reads : Room := { frames := 5, cells := 0, slots := 0, locals := 113 }
theorem ydX5_back : yX5_back.cls ≠ "java/lang/invoke/MethodHandle" ∧ yX5_back.cls ≠ "java/lang/invoke/VarHandle" ∧ (parseMethodDescriptor yX5_back.desc).map (fun d => d.parameters.length) = some 0 := by decide +kernel
def rmX5_back : Room := { frames := 4, cells := 0, slots := 0, locals := 89 }
theorem ydX5_told : yX5_told.cls ≠ "java/lang/invoke/MethodHandle" ∧ yX5_told.cls ≠ "java/lang/invoke/VarHandle" ∧ (parseMethodDescriptor yX5_told.desc).map (fun d => d.parameters.length) = some 1 := by decide +kernel
def rmX5_told : Room := { frames := 1, cells := 0, slots := 0, locals := 21 }
theorem ydX5_digest : yX5_digest.cls ≠ "java/lang/invoke/MethodHandle" ∧ yX5_digest.cls ≠ "java/lang/invoke/VarHandle" ∧ (parseMethodDescriptor yX5_digest.desc).map (fun d => d.parameters.length) = some 0 := by decide +kernel
def rmX5_digest : Room := { frames := 6, cells := 0, slots := 0, locals := 150 }
theorem ydX5_digestShafts : yX5_digestShafts.cls ≠ "java/lang/invoke/MethodHandle" ∧ yX5_digestShafts.cls ≠ "java/lang/invoke/VarHandle" ∧ (parseMethodDescriptor yX5_digestShafts.desc).map (fun d => d.parameters.length) = some 1 := by decide +kernel
def rmX5_digestShafts : Room := { frames := 5, cells := 0, slots := 0, locals := 122 }
theorem ydX5_digestPipes : yX5_digestPipes.cls ≠ "java/lang/invoke/MethodHandle" ∧ yX5_digestPipes.cls ≠ "java/lang/invoke/VarHandle" ∧ (parseMethodDescriptor yX5_digestPipes.desc).map (fun d => d.parameters.length) = some 1 := by decide +kernel
def rmX5_digestPipes : Room := { frames := 3, cells := 0, slots := 0, locals := 65 }
theorem ydX5_isStart : yX5_isStart.cls ≠ "java/lang/invoke/MethodHandle" ∧ yX5_isStart.cls ≠ "java/lang/invoke/VarHandle" ∧ (parseMethodDescriptor yX5_isStart.desc).map (fun d => d.parameters.length) = some 2 := by decide +kernel
def rmX5_isStart : Room := { frames := 2, cells := 0, slots := 0, locals := 43 }
theorem ydX5_settled : yX5_settled.cls ≠ "java/lang/invoke/MethodHandle" ∧ yX5_settled.cls ≠ "java/lang/invoke/VarHandle" ∧ (parseMethodDescriptor yX5_settled.desc).map (fun d => d.parameters.length) = some 1 := by decide +kernel
def rmX5_settled : Room := { frames := 1, cells := 0, slots := 0, locals := 22 }
theorem ydX5_refused : yX5_refused.cls ≠ "java/lang/invoke/MethodHandle" ∧ yX5_refused.cls ≠ "java/lang/invoke/VarHandle" ∧ (parseMethodDescriptor yX5_refused.desc).map (fun d => d.parameters.length) = some 1 := by decide +kernel
def rmX5_refused : Room := { frames := 0, cells := 0, slots := 0, locals := 0 }
theorem ydX5_largerPart : yX5_largerPart.cls ≠ "java/lang/invoke/MethodHandle" ∧ yX5_largerPart.cls ≠ "java/lang/invoke/VarHandle" ∧ (parseMethodDescriptor yX5_largerPart.desc).map (fun d => d.parameters.length) = some 2 := by decide +kernel
def rmX5_largerPart : Room := { frames := 1, cells := 0, slots := 0, locals := 21 }
theorem ydX5_within : yX5_within.cls ≠ "java/lang/invoke/MethodHandle" ∧ yX5_within.cls ≠ "java/lang/invoke/VarHandle" ∧ (parseMethodDescriptor yX5_within.desc).map (fun d => d.parameters.length) = some 3 := by decide +kernel
def rmX5_within : Room := { frames := 0, cells := 0, slots := 0, locals := 0 }
theorem ydX6_init : yX6_init.cls ≠ "java/lang/invoke/MethodHandle" ∧ yX6_init.cls ≠ "java/lang/invoke/VarHandle" ∧ (parseMethodDescriptor yX6_init.desc).map (fun d => d.parameters.length) = some 0 := by decide +kernel
def rmX6_init : Room := { frames := 1, cells := 9, slots := 1204, locals := 20 }
theorem ydX6_in : yX6_in.cls ≠ "java/lang/invoke/MethodHandle" ∧ yX6_in.cls ≠ "java/lang/invoke/VarHandle" ∧ (parseMethodDescriptor yX6_in.desc).map (fun d => d.parameters.length) = some 3 := by decide +kernel
def rmX6_in : Room := { frames := 0, cells := 0, slots := 0, locals := 0 }
theorem ydX6_has : yX6_has.cls ≠ "java/lang/invoke/MethodHandle" ∧ yX6_has.cls ≠ "java/lang/invoke/VarHandle" ∧ (parseMethodDescriptor yX6_has.desc).map (fun d => d.parameters.length) = some 2 := by decide +kernel
def rmX6_has : Room := { frames := 0, cells := 0, slots := 0, locals := 0 }
theorem ydX6_ones : yX6_ones.cls ≠ "java/lang/invoke/MethodHandle" ∧ yX6_ones.cls ≠ "java/lang/invoke/VarHandle" ∧ (parseMethodDescriptor yX6_ones.desc).map (fun d => d.parameters.length) = some 1 := by decide +kernel
def rmX6_ones : Room := { frames := 1, cells := 0, slots := 0, locals := 21 }
theorem ydX6_refuses : yX6_refuses.cls ≠ "java/lang/invoke/MethodHandle" ∧ yX6_refuses.cls ≠ "java/lang/invoke/VarHandle" ∧ (parseMethodDescriptor yX6_refuses.desc).map (fun d => d.parameters.length) = some 1 := by decide +kernel
def rmX6_refuses : Room := { frames := 0, cells := 0, slots := 0, locals := 0 }
theorem ydX6_hold : yX6_hold.cls ≠ "java/lang/invoke/MethodHandle" ∧ yX6_hold.cls ≠ "java/lang/invoke/VarHandle" ∧ (parseMethodDescriptor yX6_hold.desc).map (fun d => d.parameters.length) = some 0 := by decide +kernel
def rmX6_hold : Room := { frames := 0, cells := 0, slots := 0, locals := 0 }
theorem ydX6_push : yX6_push.cls ≠ "java/lang/invoke/MethodHandle" ∧ yX6_push.cls ≠ "java/lang/invoke/VarHandle" ∧ (parseMethodDescriptor yX6_push.desc).map (fun d => d.parameters.length) = some 0 := by decide +kernel
def rmX6_push : Room := { frames := 0, cells := 0, slots := 0, locals := 0 }
theorem ydX6_ends : yX6_ends.cls ≠ "java/lang/invoke/MethodHandle" ∧ yX6_ends.cls ≠ "java/lang/invoke/VarHandle" ∧ (parseMethodDescriptor yX6_ends.desc).map (fun d => d.parameters.length) = some 1 := by decide +kernel
def rmX6_ends : Room := { frames := 1, cells := 0, slots := 0, locals := 21 }
theorem ydX6_back : yX6_back.cls ≠ "java/lang/invoke/MethodHandle" ∧ yX6_back.cls ≠ "java/lang/invoke/VarHandle" ∧ (parseMethodDescriptor yX6_back.desc).map (fun d => d.parameters.length) = some 0 := by decide +kernel
def rmX6_back : Room := { frames := 1, cells := 0, slots := 0, locals := 21 }
theorem ydX6_isShaft : yX6_isShaft.cls ≠ "java/lang/invoke/MethodHandle" ∧ yX6_isShaft.cls ≠ "java/lang/invoke/VarHandle" ∧ (parseMethodDescriptor yX6_isShaft.desc).map (fun d => d.parameters.length) = some 1 := by decide +kernel
def rmX6_isShaft : Room := { frames := 1, cells := 0, slots := 0, locals := 22 }
theorem ydX6_isPipe : yX6_isPipe.cls ≠ "java/lang/invoke/MethodHandle" ∧ yX6_isPipe.cls ≠ "java/lang/invoke/VarHandle" ∧ (parseMethodDescriptor yX6_isPipe.desc).map (fun d => d.parameters.length) = some 1 := by decide +kernel
def rmX6_isPipe : Room := { frames := 1, cells := 0, slots := 0, locals := 22 }
theorem ydX6_kindOf : yX6_kindOf.cls ≠ "java/lang/invoke/MethodHandle" ∧ yX6_kindOf.cls ≠ "java/lang/invoke/VarHandle" ∧ (parseMethodDescriptor yX6_kindOf.desc).map (fun d => d.parameters.length) = some 1 := by decide +kernel
def rmX6_kindOf : Room := { frames := 0, cells := 0, slots := 0, locals := 0 }
theorem ydX6_numberOf : yX6_numberOf.cls ≠ "java/lang/invoke/MethodHandle" ∧ yX6_numberOf.cls ≠ "java/lang/invoke/VarHandle" ∧ (parseMethodDescriptor yX6_numberOf.desc).map (fun d => d.parameters.length) = some 1 := by decide +kernel
def rmX6_numberOf : Room := { frames := 0, cells := 0, slots := 0, locals := 0 }
theorem ydX6_pipeOf : yX6_pipeOf.cls ≠ "java/lang/invoke/MethodHandle" ∧ yX6_pipeOf.cls ≠ "java/lang/invoke/VarHandle" ∧ (parseMethodDescriptor yX6_pipeOf.desc).map (fun d => d.parameters.length) = some 2 := by decide +kernel
def rmX6_pipeOf : Room := { frames := 0, cells := 0, slots := 0, locals := 0 }
theorem ydX6_below : yX6_below.cls ≠ "java/lang/invoke/MethodHandle" ∧ yX6_below.cls ≠ "java/lang/invoke/VarHandle" ∧ (parseMethodDescriptor yX6_below.desc).map (fun d => d.parameters.length) = some 1 := by decide +kernel
def rmX6_below : Room := { frames := 1, cells := 0, slots := 0, locals := 22 }
theorem ydX6_isKind : yX6_isKind.cls ≠ "java/lang/invoke/MethodHandle" ∧ yX6_isKind.cls ≠ "java/lang/invoke/VarHandle" ∧ (parseMethodDescriptor yX6_isKind.desc).map (fun d => d.parameters.length) = some 1 := by decide +kernel
def rmX6_isKind : Room := { frames := 1, cells := 0, slots := 0, locals := 22 }
theorem ydX6_doShaft : yX6_doShaft.cls ≠ "java/lang/invoke/MethodHandle" ∧ yX6_doShaft.cls ≠ "java/lang/invoke/VarHandle" ∧ (parseMethodDescriptor yX6_doShaft.desc).map (fun d => d.parameters.length) = some 2 := by decide +kernel
def rmX6_doShaft : Room := { frames := 2, cells := 0, slots := 0, locals := 42 }
theorem ydX6_doSets : yX6_doSets.cls ≠ "java/lang/invoke/MethodHandle" ∧ yX6_doSets.cls ≠ "java/lang/invoke/VarHandle" ∧ (parseMethodDescriptor yX6_doSets.desc).map (fun d => d.parameters.length) = some 3 := by decide +kernel
def rmX6_doSets : Room := { frames := 2, cells := 0, slots := 0, locals := 43 }
theorem ydX6_doPipe : yX6_doPipe.cls ≠ "java/lang/invoke/MethodHandle" ∧ yX6_doPipe.cls ≠ "java/lang/invoke/VarHandle" ∧ (parseMethodDescriptor yX6_doPipe.desc).map (fun d => d.parameters.length) = some 4 := by decide +kernel
def rmX6_doPipe : Room := { frames := 2, cells := 0, slots := 0, locals := 46 }
theorem ydX6_doDrops : yX6_doDrops.cls ≠ "java/lang/invoke/MethodHandle" ∧ yX6_doDrops.cls ≠ "java/lang/invoke/VarHandle" ∧ (parseMethodDescriptor yX6_doDrops.desc).map (fun d => d.parameters.length) = some 1 := by decide +kernel
def rmX6_doDrops : Room := { frames := 2, cells := 0, slots := 0, locals := 43 }
theorem ydX6_doSight : yX6_doSight.cls ≠ "java/lang/invoke/MethodHandle" ∧ yX6_doSight.cls ≠ "java/lang/invoke/VarHandle" ∧ (parseMethodDescriptor yX6_doSight.desc).map (fun d => d.parameters.length) = some 3 := by decide +kernel
def rmX6_doSight : Room := { frames := 2, cells := 0, slots := 0, locals := 43 }
theorem ydX6_doForget : yX6_doForget.cls ≠ "java/lang/invoke/MethodHandle" ∧ yX6_doForget.cls ≠ "java/lang/invoke/VarHandle" ∧ (parseMethodDescriptor yX6_doForget.desc).map (fun d => d.parameters.length) = some 0 := by decide +kernel
def rmX6_doForget : Room := { frames := 0, cells := 0, slots := 0, locals := 0 }
theorem ydX6_shaft : yX6_shaft.cls ≠ "java/lang/invoke/MethodHandle" ∧ yX6_shaft.cls ≠ "java/lang/invoke/VarHandle" ∧ (parseMethodDescriptor yX6_shaft.desc).map (fun d => d.parameters.length) = some 2 := by decide +kernel
def rmX6_shaft : Room := { frames := 3, cells := 0, slots := 0, locals := 65 }
theorem ydX6_sets : yX6_sets.cls ≠ "java/lang/invoke/MethodHandle" ∧ yX6_sets.cls ≠ "java/lang/invoke/VarHandle" ∧ (parseMethodDescriptor yX6_sets.desc).map (fun d => d.parameters.length) = some 3 := by decide +kernel
def rmX6_sets : Room := { frames := 3, cells := 0, slots := 0, locals := 68 }
theorem ydX6_pipe : yX6_pipe.cls ≠ "java/lang/invoke/MethodHandle" ∧ yX6_pipe.cls ≠ "java/lang/invoke/VarHandle" ∧ (parseMethodDescriptor yX6_pipe.desc).map (fun d => d.parameters.length) = some 4 := by decide +kernel
def rmX6_pipe : Room := { frames := 3, cells := 0, slots := 0, locals := 71 }
theorem ydX6_drops : yX6_drops.cls ≠ "java/lang/invoke/MethodHandle" ∧ yX6_drops.cls ≠ "java/lang/invoke/VarHandle" ∧ (parseMethodDescriptor yX6_drops.desc).map (fun d => d.parameters.length) = some 1 := by decide +kernel
def rmX6_drops : Room := { frames := 3, cells := 0, slots := 0, locals := 65 }
theorem ydX6_sight : yX6_sight.cls ≠ "java/lang/invoke/MethodHandle" ∧ yX6_sight.cls ≠ "java/lang/invoke/VarHandle" ∧ (parseMethodDescriptor yX6_sight.desc).map (fun d => d.parameters.length) = some 3 := by decide +kernel
def rmX6_sight : Room := { frames := 3, cells := 0, slots := 0, locals := 67 }
theorem ydX6_forget : yX6_forget.cls ≠ "java/lang/invoke/MethodHandle" ∧ yX6_forget.cls ≠ "java/lang/invoke/VarHandle" ∧ (parseMethodDescriptor yX6_forget.desc).map (fun d => d.parameters.length) = some 0 := by decide +kernel
def rmX6_forget : Room := { frames := 2, cells := 0, slots := 0, locals := 42 }
theorem ydX6_ofShaft : yX6_ofShaft.cls ≠ "java/lang/invoke/MethodHandle" ∧ yX6_ofShaft.cls ≠ "java/lang/invoke/VarHandle" ∧ (parseMethodDescriptor yX6_ofShaft.desc).map (fun d => d.parameters.length) = some 2 := by decide +kernel
def rmX6_ofShaft : Room := { frames := 2, cells := 0, slots := 0, locals := 46 }
theorem ydX6_of : yX6_of.cls ≠ "java/lang/invoke/MethodHandle" ∧ yX6_of.cls ≠ "java/lang/invoke/VarHandle" ∧ (parseMethodDescriptor yX6_of.desc).map (fun d => d.parameters.length) = some 2 := by decide +kernel
def rmX6_of : Room := { frames := 3, cells := 0, slots := 0, locals := 72 }
theorem ydX6_about : yX6_about.cls ≠ "java/lang/invoke/MethodHandle" ∧ yX6_about.cls ≠ "java/lang/invoke/VarHandle" ∧ (parseMethodDescriptor yX6_about.desc).map (fun d => d.parameters.length) = some 2 := by decide +kernel
def rmX6_about : Room := { frames := 2, cells := 0, slots := 0, locals := 43 }
theorem ydX6_pumped : yX6_pumped.cls ≠ "java/lang/invoke/MethodHandle" ∧ yX6_pumped.cls ≠ "java/lang/invoke/VarHandle" ∧ (parseMethodDescriptor yX6_pumped.desc).map (fun d => d.parameters.length) = some 2 := by decide +kernel
def rmX6_pumped : Room := { frames := 1, cells := 0, slots := 0, locals := 21 }
theorem ydX6_leavesAt : yX6_leavesAt.cls ≠ "java/lang/invoke/MethodHandle" ∧ yX6_leavesAt.cls ≠ "java/lang/invoke/VarHandle" ∧ (parseMethodDescriptor yX6_leavesAt.desc).map (fun d => d.parameters.length) = some 2 := by decide +kernel
def rmX6_leavesAt : Room := { frames := 2, cells := 0, slots := 0, locals := 44 }
theorem ydX6_hasMinute : yX6_hasMinute.cls ≠ "java/lang/invoke/MethodHandle" ∧ yX6_hasMinute.cls ≠ "java/lang/invoke/VarHandle" ∧ (parseMethodDescriptor yX6_hasMinute.desc).map (fun d => d.parameters.length) = some 2 := by decide +kernel
def rmX6_hasMinute : Room := { frames := 0, cells := 0, slots := 0, locals := 0 }
theorem ydX6_carries : yX6_carries.cls ≠ "java/lang/invoke/MethodHandle" ∧ yX6_carries.cls ≠ "java/lang/invoke/VarHandle" ∧ (parseMethodDescriptor yX6_carries.desc).map (fun d => d.parameters.length) = some 1 := by decide +kernel
def rmX6_carries : Room := { frames := 3, cells := 0, slots := 0, locals := 67 }
theorem ydX6_start : yX6_start.cls ≠ "java/lang/invoke/MethodHandle" ∧ yX6_start.cls ≠ "java/lang/invoke/VarHandle" ∧ (parseMethodDescriptor yX6_start.desc).map (fun d => d.parameters.length) = some 2 := by decide +kernel
def rmX6_start : Room := { frames := 4, cells := 0, slots := 0, locals := 95 }
theorem ydX6_isStart : yX6_isStart.cls ≠ "java/lang/invoke/MethodHandle" ∧ yX6_isStart.cls ≠ "java/lang/invoke/VarHandle" ∧ (parseMethodDescriptor yX6_isStart.desc).map (fun d => d.parameters.length) = some 2 := by decide +kernel
def rmX6_isStart : Room := { frames := 2, cells := 0, slots := 0, locals := 43 }
theorem ydX6_comesOf : yX6_comesOf.cls ≠ "java/lang/invoke/MethodHandle" ∧ yX6_comesOf.cls ≠ "java/lang/invoke/VarHandle" ∧ (parseMethodDescriptor yX6_comesOf.desc).map (fun d => d.parameters.length) = some 3 := by decide +kernel
def rmX6_comesOf : Room := { frames := 5, cells := 0, slots := 0, locals := 119 }
theorem ydX6_comes : yX6_comes.cls ≠ "java/lang/invoke/MethodHandle" ∧ yX6_comes.cls ≠ "java/lang/invoke/VarHandle" ∧ (parseMethodDescriptor yX6_comes.desc).map (fun d => d.parameters.length) = some 3 := by decide +kernel
def rmX6_comes : Room := { frames := 6, cells := 0, slots := 0, locals := 142 }
theorem ydX6_lastOf : yX6_lastOf.cls ≠ "java/lang/invoke/MethodHandle" ∧ yX6_lastOf.cls ≠ "java/lang/invoke/VarHandle" ∧ (parseMethodDescriptor yX6_lastOf.desc).map (fun d => d.parameters.length) = some 1 := by decide +kernel
def rmX6_lastOf : Room := { frames := 1, cells := 0, slots := 0, locals := 22 }
theorem ydX6_times : yX6_times.cls ≠ "java/lang/invoke/MethodHandle" ∧ yX6_times.cls ≠ "java/lang/invoke/VarHandle" ∧ (parseMethodDescriptor yX6_times.desc).map (fun d => d.parameters.length) = some 4 := by decide +kernel
def rmX6_times : Room := { frames := 6, cells := 0, slots := 0, locals := 142 }
theorem ydX6_leaves : yX6_leaves.cls ≠ "java/lang/invoke/MethodHandle" ∧ yX6_leaves.cls ≠ "java/lang/invoke/VarHandle" ∧ (parseMethodDescriptor yX6_leaves.desc).map (fun d => d.parameters.length) = some 2 := by decide +kernel
def rmX6_leaves : Room := { frames := 3, cells := 0, slots := 0, locals := 67 }
theorem ydX6_isFit : yX6_isFit.cls ≠ "java/lang/invoke/MethodHandle" ∧ yX6_isFit.cls ≠ "java/lang/invoke/VarHandle" ∧ (parseMethodDescriptor yX6_isFit.desc).map (fun d => d.parameters.length) = some 2 := by decide +kernel
def rmX6_isFit : Room := { frames := 5, cells := 0, slots := 0, locals := 119 }
theorem ydX6_fits : yX6_fits.cls ≠ "java/lang/invoke/MethodHandle" ∧ yX6_fits.cls ≠ "java/lang/invoke/VarHandle" ∧ (parseMethodDescriptor yX6_fits.desc).map (fun d => d.parameters.length) = some 2 := by decide +kernel
def rmX6_fits : Room := { frames := 6, cells := 0, slots := 0, locals := 146 }
theorem ydX6_whenOf : yX6_whenOf.cls ≠ "java/lang/invoke/MethodHandle" ∧ yX6_whenOf.cls ≠ "java/lang/invoke/VarHandle" ∧ (parseMethodDescriptor yX6_whenOf.desc).map (fun d => d.parameters.length) = some 1 := by decide +kernel
def rmX6_whenOf : Room := { frames := 6, cells := 0, slots := 0, locals := 146 }
theorem ydX6_when : yX6_when.cls ≠ "java/lang/invoke/MethodHandle" ∧ yX6_when.cls ≠ "java/lang/invoke/VarHandle" ∧ (parseMethodDescriptor yX6_when.desc).map (fun d => d.parameters.length) = some 1 := by decide +kernel
def rmX6_when : Room := { frames := 7, cells := 0, slots := 0, locals := 169 }
theorem ydX6_suspectsNow : yX6_suspectsNow.cls ≠ "java/lang/invoke/MethodHandle" ∧ yX6_suspectsNow.cls ≠ "java/lang/invoke/VarHandle" ∧ (parseMethodDescriptor yX6_suspectsNow.desc).map (fun d => d.parameters.length) = some 0 := by decide +kernel
def rmX6_suspectsNow : Room := { frames := 7, cells := 0, slots := 0, locals := 169 }
theorem ydX6_suspects : yX6_suspects.cls ≠ "java/lang/invoke/MethodHandle" ∧ yX6_suspects.cls ≠ "java/lang/invoke/VarHandle" ∧ (parseMethodDescriptor yX6_suspects.desc).map (fun d => d.parameters.length) = some 0 := by decide +kernel
def rmX6_suspects : Room := { frames := 8, cells := 0, slots := 0, locals := 191 }
theorem ydX6_nextOf : yX6_nextOf.cls ≠ "java/lang/invoke/MethodHandle" ∧ yX6_nextOf.cls ≠ "java/lang/invoke/VarHandle" ∧ (parseMethodDescriptor yX6_nextOf.desc).map (fun d => d.parameters.length) = some 1 := by decide +kernel
def rmX6_nextOf : Room := { frames := 8, cells := 0, slots := 0, locals := 191 }
theorem ydX6_next : yX6_next.cls ≠ "java/lang/invoke/MethodHandle" ∧ yX6_next.cls ≠ "java/lang/invoke/VarHandle" ∧ (parseMethodDescriptor yX6_next.desc).map (fun d => d.parameters.length) = some 1 := by decide +kernel
def rmX6_next : Room := { frames := 9, cells := 0, slots := 0, locals := 219 }
theorem ydX6_findBelows : yX6_findBelows.cls ≠ "java/lang/invoke/MethodHandle" ∧ yX6_findBelows.cls ≠ "java/lang/invoke/VarHandle" ∧ (parseMethodDescriptor yX6_findBelows.desc).map (fun d => d.parameters.length) = some 0 := by decide +kernel
def rmX6_findBelows : Room := { frames := 2, cells := 0, slots := 0, locals := 46 }
theorem ydX6_alikeBy : yX6_alikeBy.cls ≠ "java/lang/invoke/MethodHandle" ∧ yX6_alikeBy.cls ≠ "java/lang/invoke/VarHandle" ∧ (parseMethodDescriptor yX6_alikeBy.desc).map (fun d => d.parameters.length) = some 1 := by decide +kernel
def rmX6_alikeBy : Room := { frames := 0, cells := 0, slots := 0, locals := 0 }
theorem ydX6_alike : yX6_alike.cls ≠ "java/lang/invoke/MethodHandle" ∧ yX6_alike.cls ≠ "java/lang/invoke/VarHandle" ∧ (parseMethodDescriptor yX6_alike.desc).map (fun d => d.parameters.length) = some 1 := by decide +kernel
def rmX6_alike : Room := { frames := 3, cells := 0, slots := 0, locals := 67 }
theorem ydX6_sensorsOf : yX6_sensorsOf.cls ≠ "java/lang/invoke/MethodHandle" ∧ yX6_sensorsOf.cls ≠ "java/lang/invoke/VarHandle" ∧ (parseMethodDescriptor yX6_sensorsOf.desc).map (fun d => d.parameters.length) = some 1 := by decide +kernel
def rmX6_sensorsOf : Room := { frames := 3, cells := 0, slots := 0, locals := 67 }
theorem ydX6_sensors : yX6_sensors.cls ≠ "java/lang/invoke/MethodHandle" ∧ yX6_sensors.cls ≠ "java/lang/invoke/VarHandle" ∧ (parseMethodDescriptor yX6_sensors.desc).map (fun d => d.parameters.length) = some 1 := by decide +kernel
def rmX6_sensors : Room := { frames := 4, cells := 0, slots := 0, locals := 91 }
theorem ydX6_type : yX6_type.cls ≠ "java/lang/invoke/MethodHandle" ∧ yX6_type.cls ≠ "java/lang/invoke/VarHandle" ∧ (parseMethodDescriptor yX6_type.desc).map (fun d => d.parameters.length) = some 1 := by decide +kernel
def rmX6_type : Room := { frames := 1, cells := 0, slots := 0, locals := 22 }
theorem ydX6_clear : yX6_clear.cls ≠ "java/lang/invoke/MethodHandle" ∧ yX6_clear.cls ≠ "java/lang/invoke/VarHandle" ∧ (parseMethodDescriptor yX6_clear.desc).map (fun d => d.parameters.length) = some 0 := by decide +kernel
def rmX6_clear : Room := { frames := 0, cells := 0, slots := 0, locals := 0 }
theorem ydX6_here : yX6_here.cls ≠ "java/lang/invoke/MethodHandle" ∧ yX6_here.cls ≠ "java/lang/invoke/VarHandle" ∧ (parseMethodDescriptor yX6_here.desc).map (fun d => d.parameters.length) = some 0 := by decide +kernel
def rmX6_here : Room := { frames := 0, cells := 0, slots := 0, locals := 0 }
theorem ydX6_must : yX6_must.cls ≠ "java/lang/invoke/MethodHandle" ∧ yX6_must.cls ≠ "java/lang/invoke/VarHandle" ∧ (parseMethodDescriptor yX6_must.desc).map (fun d => d.parameters.length) = some 1 := by decide +kernel
def rmX6_must : Room := { frames := 0, cells := 0, slots := 0, locals := 0 }
theorem ydX6_isFigure : yX6_isFigure.cls ≠ "java/lang/invoke/MethodHandle" ∧ yX6_isFigure.cls ≠ "java/lang/invoke/VarHandle" ∧ (parseMethodDescriptor yX6_isFigure.desc).map (fun d => d.parameters.length) = some 0 := by decide +kernel
def rmX6_isFigure : Room := { frames := 1, cells := 0, slots := 0, locals := 22 }
theorem ydX6_number : yX6_number.cls ≠ "java/lang/invoke/MethodHandle" ∧ yX6_number.cls ≠ "java/lang/invoke/VarHandle" ∧ (parseMethodDescriptor yX6_number.desc).map (fun d => d.parameters.length) = some 0 := by decide +kernel
def rmX6_number : Room := { frames := 2, cells := 0, slots := 0, locals := 42 }
theorem ydX6_numbersOf : yX6_numbersOf.cls ≠ "java/lang/invoke/MethodHandle" ∧ yX6_numbersOf.cls ≠ "java/lang/invoke/VarHandle" ∧ (parseMethodDescriptor yX6_numbersOf.desc).map (fun d => d.parameters.length) = some 1 := by decide +kernel
def rmX6_numbersOf : Room := { frames := 0, cells := 0, slots := 0, locals := 0 }
theorem ydX6_readOrder : yX6_readOrder.cls ≠ "java/lang/invoke/MethodHandle" ∧ yX6_readOrder.cls ≠ "java/lang/invoke/VarHandle" ∧ (parseMethodDescriptor yX6_readOrder.desc).map (fun d => d.parameters.length) = some 0 := by decide +kernel
def rmX6_readOrder : Room := { frames := 3, cells := 0, slots := 0, locals := 63 }
theorem ydX6_doOrder : yX6_doOrder.cls ≠ "java/lang/invoke/MethodHandle" ∧ yX6_doOrder.cls ≠ "java/lang/invoke/VarHandle" ∧ (parseMethodDescriptor yX6_doOrder.desc).map (fun d => d.parameters.length) = some 1 := by decide +kernel
def rmX6_doOrder : Room := { frames := 3, cells := 0, slots := 0, locals := 71 }
theorem ydX6_reads : yX6_reads.cls ≠ "java/lang/invoke/MethodHandle" ∧ yX6_reads.cls ≠ "java/lang/invoke/VarHandle" ∧ (parseMethodDescriptor yX6_reads.desc).map (fun d => d.parameters.length) = some 0 := by decide +kernel
def rmX6_reads : Room := { frames := 4, cells := 0, slots := 0, locals := 94 }
theorem ydX6_toldOf : yX6_toldOf.cls ≠ "java/lang/invoke/MethodHandle" ∧ yX6_toldOf.cls ≠ "java/lang/invoke/VarHandle" ∧ (parseMethodDescriptor yX6_toldOf.desc).map (fun d => d.parameters.length) = some 1 := by decide +kernel
def rmX6_toldOf : Room := { frames := 0, cells := 0, slots := 0, locals := 0 }
theorem ydX6_told : yX6_told.cls ≠ "java/lang/invoke/MethodHandle" ∧ yX6_told.cls ≠ "java/lang/invoke/VarHandle" ∧ (parseMethodDescriptor yX6_told.desc).map (fun d => d.parameters.length) = some 1 := by decide +kernel
def rmX6_told : Room := { frames := 1, cells := 0, slots := 0, locals := 22 }
theorem ydX6_mix : yX6_mix.cls ≠ "java/lang/invoke/MethodHandle" ∧ yX6_mix.cls ≠ "java/lang/invoke/VarHandle" ∧ (parseMethodDescriptor yX6_mix.desc).map (fun d => d.parameters.length) = some 1 := by decide +kernel
def rmX6_mix : Room := { frames := 0, cells := 0, slots := 0, locals := 0 }
theorem ydX6_digest : yX6_digest.cls ≠ "java/lang/invoke/MethodHandle" ∧ yX6_digest.cls ≠ "java/lang/invoke/VarHandle" ∧ (parseMethodDescriptor yX6_digest.desc).map (fun d => d.parameters.length) = some 0 := by decide +kernel
def rmX6_digest : Room := { frames := 9, cells := 0, slots := 0, locals := 219 }
theorem ydJ6_numberOfLeadingZeros_0f7a4 : yJ6_numberOfLeadingZeros_0f7a4.cls ≠ "java/lang/invoke/MethodHandle" ∧ yJ6_numberOfLeadingZeros_0f7a4.cls ≠ "java/lang/invoke/VarHandle" ∧ (parseMethodDescriptor yJ6_numberOfLeadingZeros_0f7a4.desc).map (fun d => d.parameters.length) = some 1 := by decide +kernel
def rmJ6_numberOfLeadingZeros_0f7a4 : Room := { frames := 0, cells := 0, slots := 0, locals := 0 }
theorem ydJ6_numberOfTrailingZeros_0f7a4 : yJ6_numberOfTrailingZeros_0f7a4.cls ≠ "java/lang/invoke/MethodHandle" ∧ yJ6_numberOfTrailingZeros_0f7a4.cls ≠ "java/lang/invoke/VarHandle" ∧ (parseMethodDescriptor yJ6_numberOfTrailingZeros_0f7a4.desc).map (fun d => d.parameters.length) = some 1 := by decide +kernel
def rmJ6_numberOfTrailingZeros_0f7a4 : Room := { frames := 0, cells := 0, slots := 0, locals := 0 }
theorem ydJ6_bitCount_0f7a4 : yJ6_bitCount_0f7a4.cls ≠ "java/lang/invoke/MethodHandle" ∧ yJ6_bitCount_0f7a4.cls ≠ "java/lang/invoke/VarHandle" ∧ (parseMethodDescriptor yJ6_bitCount_0f7a4.desc).map (fun d => d.parameters.length) = some 1 := by decide +kernel
def rmJ6_bitCount_0f7a4 : Room := { frames := 0, cells := 0, slots := 0, locals := 0 }
theorem ydJ13_numberOfLeadingZeros_95d88 : yJ13_numberOfLeadingZeros_95d88.cls ≠ "java/lang/invoke/MethodHandle" ∧ yJ13_numberOfLeadingZeros_95d88.cls ≠ "java/lang/invoke/VarHandle" ∧ (parseMethodDescriptor yJ13_numberOfLeadingZeros_95d88.desc).map (fun d => d.parameters.length) = some 1 := by decide +kernel
def rmJ13_numberOfLeadingZeros_95d88 : Room := { frames := 1, cells := 0, slots := 0, locals := 21 }
theorem ydJ13_numberOfTrailingZeros_95d88 : yJ13_numberOfTrailingZeros_95d88.cls ≠ "java/lang/invoke/MethodHandle" ∧ yJ13_numberOfTrailingZeros_95d88.cls ≠ "java/lang/invoke/VarHandle" ∧ (parseMethodDescriptor yJ13_numberOfTrailingZeros_95d88.desc).map (fun d => d.parameters.length) = some 1 := by decide +kernel
def rmJ13_numberOfTrailingZeros_95d88 : Room := { frames := 1, cells := 0, slots := 0, locals := 21 }
theorem ydJ13_bitCount_95d88 : yJ13_bitCount_95d88.cls ≠ "java/lang/invoke/MethodHandle" ∧ yJ13_bitCount_95d88.cls ≠ "java/lang/invoke/VarHandle" ∧ (parseMethodDescriptor yJ13_bitCount_95d88.desc).map (fun d => d.parameters.length) = some 1 := by decide +kernel
def rmJ13_bitCount_95d88 : Room := { frames := 0, cells := 0, slots := 0, locals := 0 }
theorem ydJ9_max_7cf53 : yJ9_max_7cf53.cls ≠ "java/lang/invoke/MethodHandle" ∧ yJ9_max_7cf53.cls ≠ "java/lang/invoke/VarHandle" ∧ (parseMethodDescriptor yJ9_max_7cf53.desc).map (fun d => d.parameters.length) = some 2 := by decide +kernel
def rmJ9_max_7cf53 : Room := { frames := 0, cells := 0, slots := 0, locals := 0 }
theorem ydJ9_min_7cf53 : yJ9_min_7cf53.cls ≠ "java/lang/invoke/MethodHandle" ∧ yJ9_min_7cf53.cls ≠ "java/lang/invoke/VarHandle" ∧ (parseMethodDescriptor yJ9_min_7cf53.desc).map (fun d => d.parameters.length) = some 2 := by decide +kernel
def rmJ9_min_7cf53 : Room := { frames := 0, cells := 0, slots := 0, locals := 0 }
theorem ydJ7_fill_d0a16 : yJ7_fill_d0a16.cls ≠ "java/lang/invoke/MethodHandle" ∧ yJ7_fill_d0a16.cls ≠ "java/lang/invoke/VarHandle" ∧ (parseMethodDescriptor yJ7_fill_d0a16.desc).map (fun d => d.parameters.length) = some 2 := by decide +kernel
def rmJ7_fill_d0a16 : Room := { frames := 0, cells := 0, slots := 0, locals := 0 }
theorem inX0_above_0 : ∀ w ∈ u_ws RX0 TX0 14, w ∈ wsX0_above := by decide +kernel
theorem inX0_addPipe_0 : ∀ w ∈ u_ws RX0 TX0 14, w ∈ wsX0_addPipe := by decide +kernel
theorem inX0_addShaft_0 : ∀ w ∈ u_ws RX0 TX0 14, w ∈ wsX0_addShaft := by decide +kernel
theorem inX0_addSight_0 : ∀ w ∈ u_ws RX0 TX0 14, w ∈ wsX0_addSight := by decide +kernel
theorem inX0_brought_0 : ∀ w ∈ u_ws RX0 TX0 14, w ∈ wsX0_brought := by decide +kernel
theorem inX0_changeShaft_0 : ∀ w ∈ u_ws RX0 TX0 14, w ∈ wsX0_changeShaft := by decide +kernel
theorem inX0_copyFrom_0 : ∀ w ∈ u_ws RX0 TX0 14, w ∈ wsX0_copyFrom := by decide +kernel
theorem inX0_dropPipe_0 : ∀ w ∈ u_ws RX0 TX0 14, w ∈ wsX0_dropPipe := by decide +kernel
theorem inX0_dropSights_0 : ∀ w ∈ u_ws RX0 TX0 14, w ∈ wsX0_dropSights := by decide +kernel
theorem inX0_findBelow_0 : ∀ w ∈ u_ws RX0 TX0 14, w ∈ wsX0_findBelow := by decide +kernel
theorem inX0_findRoute_0 : ∀ w ∈ u_ws RX0 TX0 14, w ∈ wsX0_findRoute := by decide +kernel
theorem inX0_hasPipe_0 : ∀ w ∈ u_ws RX0 TX0 14, w ∈ wsX0_hasPipe := by decide +kernel
theorem inX0_hasShaft_0 : ∀ w ∈ u_ws RX0 TX0 14, w ∈ wsX0_hasShaft := by decide +kernel
theorem inX0_isBelow_0 : ∀ w ∈ u_ws RX0 TX0 14, w ∈ wsX0_isBelow := by decide +kernel
theorem inX0_leaving_0 : ∀ w ∈ u_ws RX0 TX0 14, w ∈ wsX0_leaving := by decide +kernel
theorem inX0_pipesAt_0 : ∀ w ∈ u_ws RX0 TX0 14, w ∈ wsX0_pipesAt := by decide +kernel
theorem inX1_agrees_0 : ∀ w ∈ u_ws RX0 TX0 14, w ∈ wsX1_agrees := by decide +kernel
theorem inX1_agreesWith_0 : ∀ w ∈ u_ws RX0 TX0 14, w ∈ wsX1_agreesWith := by decide +kernel
theorem inX1_agreesWith_1 : ∀ w ∈ u_ws RX1 TX1 3, w ∈ wsX1_agreesWith := by decide +kernel
theorem inX1_outdate_1 : ∀ w ∈ u_ws RX1 TX1 3, w ∈ wsX1_outdate := by decide +kernel
theorem inX1_startsAt_1 : ∀ w ∈ u_ws RX1 TX1 3, w ∈ wsX1_startsAt := by decide +kernel
theorem inX1_suspicious_0 : ∀ w ∈ u_ws RX0 TX0 14, w ∈ wsX1_suspicious := by decide +kernel
theorem inX1_walk_0 : ∀ w ∈ u_ws RX0 TX0 14, w ∈ wsX1_walk := by decide +kernel
theorem inX1_walk_1 : ∀ w ∈ u_ws RX1 TX1 3, w ∈ wsX1_walk := by decide +kernel
theorem inX2_closes_2 : ∀ w ∈ u_ws RX2 TX2 6, w ∈ wsX2_closes := by decide +kernel
theorem inX2_obey_2 : ∀ w ∈ u_ws RX2 TX2 6, w ∈ wsX2_obey := by decide +kernel
theorem inX2_opens_2 : ∀ w ∈ u_ws RX2 TX2 6, w ∈ wsX2_opens := by decide +kernel
theorem inX2_parse_2 : ∀ w ∈ u_ws RX2 TX2 6, w ∈ wsX2_parse := by decide +kernel
theorem inX2_takes_2 : ∀ w ∈ u_ws RX2 TX2 6, w ∈ wsX2_takes := by decide +kernel
theorem inX2_takesFigure_2 : ∀ w ∈ u_ws RX2 TX2 6, w ∈ wsX2_takesFigure := by decide +kernel
theorem inX3_keep_3 : ∀ w ∈ u_ws RX3 TX3 2, w ∈ wsX3_keep := by decide +kernel
theorem inX3_mark_3 : ∀ w ∈ u_ws RX3 TX3 2, w ∈ wsX3_mark := by decide +kernel
theorem inX3_toMark_3 : ∀ w ∈ u_ws RX3 TX3 2, w ∈ wsX3_toMark := by decide +kernel
theorem inX3_undo_3 : ∀ w ∈ u_ws RX3 TX3 2, w ∈ wsX3_undo := by decide +kernel
theorem inX4_compare_0 : ∀ w ∈ u_ws RX0 TX0 14, w ∈ wsX4_compare := by decide +kernel
theorem inX4_compare_4 : ∀ w ∈ u_ws RX4 TX4 2, w ∈ wsX4_compare := by decide +kernel
theorem inX4_tellsAll_4 : ∀ w ∈ u_ws RX4 TX4 2, w ∈ wsX4_tellsAll := by decide +kernel
theorem inX4_untold_4 : ∀ w ∈ u_ws RX4 TX4 2, w ∈ wsX4_untold := by decide +kernel
theorem inX5_about_0 : ∀ w ∈ u_ws RX0 TX0 14, w ∈ wsX5_about := by decide +kernel
theorem inX5_about_5 : ∀ w ∈ u_ws RX5 TX5 10, w ∈ wsX5_about := by decide +kernel
theorem inX5_alike_0 : ∀ w ∈ u_ws RX0 TX0 14, w ∈ wsX5_alike := by decide +kernel
theorem inX5_alike_5 : ∀ w ∈ u_ws RX5 TX5 10, w ∈ wsX5_alike := by decide +kernel
theorem inX5_back_3 : ∀ w ∈ u_ws RX3 TX3 2, w ∈ wsX5_back := by decide +kernel
theorem inX5_back_5 : ∀ w ∈ u_ws RX5 TX5 10, w ∈ wsX5_back := by decide +kernel
theorem inX5_clear_5 : ∀ w ∈ u_ws RX5 TX5 10, w ∈ wsX5_clear := by decide +kernel
theorem inX5_comes_1 : ∀ w ∈ u_ws RX1 TX1 3, w ∈ wsX5_comes := by decide +kernel
theorem inX5_comes_5 : ∀ w ∈ u_ws RX5 TX5 10, w ∈ wsX5_comes := by decide +kernel
theorem inX5_digest_0 : ∀ w ∈ u_ws RX0 TX0 14, w ∈ wsX5_digest := by decide +kernel
theorem inX5_digest_5 : ∀ w ∈ u_ws RX5 TX5 10, w ∈ wsX5_digest := by decide +kernel
theorem inX5_digestPipes_0 : ∀ w ∈ u_ws RX0 TX0 14, w ∈ wsX5_digestPipes := by decide +kernel
theorem inX5_digestPipes_5 : ∀ w ∈ u_ws RX5 TX5 10, w ∈ wsX5_digestPipes := by decide +kernel
theorem inX5_digestShafts_0 : ∀ w ∈ u_ws RX0 TX0 14, w ∈ wsX5_digestShafts := by decide +kernel
theorem inX5_digestShafts_5 : ∀ w ∈ u_ws RX5 TX5 10, w ∈ wsX5_digestShafts := by decide +kernel
theorem inX5_drops_5 : ∀ w ∈ u_ws RX5 TX5 10, w ∈ wsX5_drops := by decide +kernel
theorem inX5_fits_5 : ∀ w ∈ u_ws RX5 TX5 10, w ∈ wsX5_fits := by decide +kernel
theorem inX5_forget_5 : ∀ w ∈ u_ws RX5 TX5 10, w ∈ wsX5_forget := by decide +kernel
theorem inX5_isStart_5 : ∀ w ∈ u_ws RX5 TX5 10, w ∈ wsX5_isStart := by decide +kernel
theorem inX5_leaves_5 : ∀ w ∈ u_ws RX5 TX5 10, w ∈ wsX5_leaves := by decide +kernel
theorem inX5_next_0 : ∀ w ∈ u_ws RX0 TX0 14, w ∈ wsX5_next := by decide +kernel
theorem inX5_next_5 : ∀ w ∈ u_ws RX5 TX5 10, w ∈ wsX5_next := by decide +kernel
theorem inX5_of_0 : ∀ w ∈ u_ws RX0 TX0 14, w ∈ wsX5_of := by decide +kernel
theorem inX5_of_5 : ∀ w ∈ u_ws RX5 TX5 10, w ∈ wsX5_of := by decide +kernel
theorem inX5_pipe_5 : ∀ w ∈ u_ws RX5 TX5 10, w ∈ wsX5_pipe := by decide +kernel
theorem inX5_reads_2 : ∀ w ∈ u_ws RX2 TX2 6, w ∈ wsX5_reads := by decide +kernel
theorem inX5_reads_5 : ∀ w ∈ u_ws RX5 TX5 10, w ∈ wsX5_reads := by decide +kernel
theorem inX5_refused_5 : ∀ w ∈ u_ws RX5 TX5 10, w ∈ wsX5_refused := by decide +kernel
theorem inX5_sensors_0 : ∀ w ∈ u_ws RX0 TX0 14, w ∈ wsX5_sensors := by decide +kernel
theorem inX5_sensors_5 : ∀ w ∈ u_ws RX5 TX5 10, w ∈ wsX5_sensors := by decide +kernel
theorem inX5_sets_5 : ∀ w ∈ u_ws RX5 TX5 10, w ∈ wsX5_sets := by decide +kernel
theorem inX5_settled_5 : ∀ w ∈ u_ws RX5 TX5 10, w ∈ wsX5_settled := by decide +kernel
theorem inX5_shaft_5 : ∀ w ∈ u_ws RX5 TX5 10, w ∈ wsX5_shaft := by decide +kernel
theorem inX5_sight_5 : ∀ w ∈ u_ws RX5 TX5 10, w ∈ wsX5_sight := by decide +kernel
theorem inX5_suspects_5 : ∀ w ∈ u_ws RX5 TX5 10, w ∈ wsX5_suspects := by decide +kernel
theorem inX5_times_1 : ∀ w ∈ u_ws RX1 TX1 3, w ∈ wsX5_times := by decide +kernel
theorem inX5_times_5 : ∀ w ∈ u_ws RX5 TX5 10, w ∈ wsX5_times := by decide +kernel
theorem inX5_told_0 : ∀ w ∈ u_ws RX0 TX0 14, w ∈ wsX5_told := by decide +kernel
theorem inX5_told_3 : ∀ w ∈ u_ws RX3 TX3 2, w ∈ wsX5_told := by decide +kernel
theorem inX5_told_5 : ∀ w ∈ u_ws RX5 TX5 10, w ∈ wsX5_told := by decide +kernel
theorem inX5_type_5 : ∀ w ∈ u_ws RX5 TX5 10, w ∈ wsX5_type := by decide +kernel
theorem inX5_when_5 : ∀ w ∈ u_ws RX5 TX5 10, w ∈ wsX5_when := by decide +kernel
theorem inX6_alike_6 : ∀ w ∈ u_ws RX6 TX6 15, w ∈ wsX6_alike := by decide +kernel
theorem inX6_alikeBy_6 : ∀ w ∈ u_ws RX6 TX6 15, w ∈ wsX6_alikeBy := by decide +kernel
theorem inX6_back_6 : ∀ w ∈ u_ws RX6 TX6 15, w ∈ wsX6_back := by decide +kernel
theorem inX6_below_6 : ∀ w ∈ u_ws RX6 TX6 15, w ∈ wsX6_below := by decide +kernel
theorem inX6_carries_6 : ∀ w ∈ u_ws RX6 TX6 15, w ∈ wsX6_carries := by decide +kernel
theorem inX6_clear_6 : ∀ w ∈ u_ws RX6 TX6 15, w ∈ wsX6_clear := by decide +kernel
theorem inX6_comesOf_6 : ∀ w ∈ u_ws RX6 TX6 15, w ∈ wsX6_comesOf := by decide +kernel
theorem inX6_digest_6 : ∀ w ∈ u_ws RX6 TX6 15, w ∈ wsX6_digest := by decide +kernel
theorem inX6_doDrops_6 : ∀ w ∈ u_ws RX6 TX6 15, w ∈ wsX6_doDrops := by decide +kernel
theorem inX6_doForget_6 : ∀ w ∈ u_ws RX6 TX6 15, w ∈ wsX6_doForget := by decide +kernel
theorem inX6_doOrder_6 : ∀ w ∈ u_ws RX6 TX6 15, w ∈ wsX6_doOrder := by decide +kernel
theorem inX6_doPipe_6 : ∀ w ∈ u_ws RX6 TX6 15, w ∈ wsX6_doPipe := by decide +kernel
theorem inX6_doSets_6 : ∀ w ∈ u_ws RX6 TX6 15, w ∈ wsX6_doSets := by decide +kernel
theorem inX6_doShaft_6 : ∀ w ∈ u_ws RX6 TX6 15, w ∈ wsX6_doShaft := by decide +kernel
theorem inX6_doSight_6 : ∀ w ∈ u_ws RX6 TX6 15, w ∈ wsX6_doSight := by decide +kernel
theorem inX6_findBelows_6 : ∀ w ∈ u_ws RX6 TX6 15, w ∈ wsX6_findBelows := by decide +kernel
theorem inX6_here_6 : ∀ w ∈ u_ws RX6 TX6 15, w ∈ wsX6_here := by decide +kernel
theorem inX6_hold_6 : ∀ w ∈ u_ws RX6 TX6 15, w ∈ wsX6_hold := by decide +kernel
theorem inX6_isFigure_6 : ∀ w ∈ u_ws RX6 TX6 15, w ∈ wsX6_isFigure := by decide +kernel
theorem inX6_isFit_6 : ∀ w ∈ u_ws RX6 TX6 15, w ∈ wsX6_isFit := by decide +kernel
theorem inX6_isPipe_6 : ∀ w ∈ u_ws RX6 TX6 15, w ∈ wsX6_isPipe := by decide +kernel
theorem inX6_isShaft_6 : ∀ w ∈ u_ws RX6 TX6 15, w ∈ wsX6_isShaft := by decide +kernel
theorem inX6_kindOf_6 : ∀ w ∈ u_ws RX6 TX6 15, w ∈ wsX6_kindOf := by decide +kernel
theorem inX6_mix_6 : ∀ w ∈ u_ws RX6 TX6 15, w ∈ wsX6_mix := by decide +kernel
theorem inX6_must_6 : ∀ w ∈ u_ws RX6 TX6 15, w ∈ wsX6_must := by decide +kernel
theorem inX6_nextOf_6 : ∀ w ∈ u_ws RX6 TX6 15, w ∈ wsX6_nextOf := by decide +kernel
theorem inX6_number_6 : ∀ w ∈ u_ws RX6 TX6 15, w ∈ wsX6_number := by decide +kernel
theorem inX6_numberOf_6 : ∀ w ∈ u_ws RX6 TX6 15, w ∈ wsX6_numberOf := by decide +kernel
theorem inX6_ofShaft_6 : ∀ w ∈ u_ws RX6 TX6 15, w ∈ wsX6_ofShaft := by decide +kernel
theorem inX6_pipeOf_6 : ∀ w ∈ u_ws RX6 TX6 15, w ∈ wsX6_pipeOf := by decide +kernel
theorem inX6_push_6 : ∀ w ∈ u_ws RX6 TX6 15, w ∈ wsX6_push := by decide +kernel
theorem inX6_readOrder_6 : ∀ w ∈ u_ws RX6 TX6 15, w ∈ wsX6_readOrder := by decide +kernel
theorem inX6_reads_6 : ∀ w ∈ u_ws RX6 TX6 15, w ∈ wsX6_reads := by decide +kernel
theorem inX6_refuses_6 : ∀ w ∈ u_ws RX6 TX6 15, w ∈ wsX6_refuses := by decide +kernel
theorem inX6_sensorsOf_6 : ∀ w ∈ u_ws RX6 TX6 15, w ∈ wsX6_sensorsOf := by decide +kernel
theorem inX6_start_6 : ∀ w ∈ u_ws RX6 TX6 15, w ∈ wsX6_start := by decide +kernel
theorem inX6_suspectsNow_6 : ∀ w ∈ u_ws RX6 TX6 15, w ∈ wsX6_suspectsNow := by decide +kernel
theorem inX6_toldOf_6 : ∀ w ∈ u_ws RX6 TX6 15, w ∈ wsX6_toldOf := by decide +kernel
theorem inX6_type_6 : ∀ w ∈ u_ws RX6 TX6 15, w ∈ wsX6_type := by decide +kernel
theorem flX0_above_45 : FL RX0 45 0 0 wsX0_above := ⟨_, rfl, inX0_above_0, by decide, by decide +kernel⟩
theorem flX0_addPipe_18 : FL RX0 18 0 4 wsX0_addPipe := ⟨_, rfl, inX0_addPipe_0, by decide, by decide +kernel⟩
theorem flX0_addPipe_21 : FL RX0 21 0 5 wsX0_addPipe := ⟨_, rfl, inX0_addPipe_0, by decide, by decide +kernel⟩
theorem flX0_addPipe_24 : FL RX0 24 0 6 wsX0_addPipe := ⟨_, rfl, inX0_addPipe_0, by decide, by decide +kernel⟩
theorem flX0_addPipe_27 : FL RX0 27 0 7 wsX0_addPipe := ⟨_, rfl, inX0_addPipe_0, by decide, by decide +kernel⟩
theorem flX0_addPipe_53 : FL RX0 53 0 3 wsX0_addPipe := ⟨_, rfl, inX0_addPipe_0, by decide, by decide +kernel⟩
theorem flX0_addShaft_15 : FL RX0 15 0 2 wsX0_addShaft := ⟨_, rfl, inX0_addShaft_0, by decide, by decide +kernel⟩
theorem flX0_addShaft_45 : FL RX0 45 0 0 wsX0_addShaft := ⟨_, rfl, inX0_addShaft_0, by decide, by decide +kernel⟩
theorem flX0_addShaft_9 : FL RX0 9 0 1 wsX0_addShaft := ⟨_, rfl, inX0_addShaft_0, by decide, by decide +kernel⟩
theorem flX0_addSight_30 : FL RX0 30 0 9 wsX0_addSight := ⟨_, rfl, inX0_addSight_0, by decide, by decide +kernel⟩
theorem flX0_addSight_33 : FL RX0 33 0 10 wsX0_addSight := ⟨_, rfl, inX0_addSight_0, by decide, by decide +kernel⟩
theorem flX0_addSight_36 : FL RX0 36 0 11 wsX0_addSight := ⟨_, rfl, inX0_addSight_0, by decide, by decide +kernel⟩
theorem flX0_addSight_76 : FL RX0 76 0 8 wsX0_addSight := ⟨_, rfl, inX0_addSight_0, by decide, by decide +kernel⟩
theorem flX0_brought_24 : FL RX0 24 0 6 wsX0_brought := ⟨_, rfl, inX0_brought_0, by decide, by decide +kernel⟩
theorem flX0_brought_27 : FL RX0 27 0 7 wsX0_brought := ⟨_, rfl, inX0_brought_0, by decide, by decide +kernel⟩
theorem flX0_changeShaft_15 : FL RX0 15 0 2 wsX0_changeShaft := ⟨_, rfl, inX0_changeShaft_0, by decide, by decide +kernel⟩
theorem flX0_changeShaft_9 : FL RX0 9 0 1 wsX0_changeShaft := ⟨_, rfl, inX0_changeShaft_0, by decide, by decide +kernel⟩
theorem flX0_copyFrom_15 : FL RX0 15 0 2 wsX0_copyFrom := ⟨_, rfl, inX0_copyFrom_0, by decide, by decide +kernel⟩
theorem flX0_copyFrom_18 : FL RX0 18 0 4 wsX0_copyFrom := ⟨_, rfl, inX0_copyFrom_0, by decide, by decide +kernel⟩
theorem flX0_copyFrom_21 : FL RX0 21 0 5 wsX0_copyFrom := ⟨_, rfl, inX0_copyFrom_0, by decide, by decide +kernel⟩
theorem flX0_copyFrom_24 : FL RX0 24 0 6 wsX0_copyFrom := ⟨_, rfl, inX0_copyFrom_0, by decide, by decide +kernel⟩
theorem flX0_copyFrom_27 : FL RX0 27 0 7 wsX0_copyFrom := ⟨_, rfl, inX0_copyFrom_0, by decide, by decide +kernel⟩
theorem flX0_copyFrom_30 : FL RX0 30 0 9 wsX0_copyFrom := ⟨_, rfl, inX0_copyFrom_0, by decide, by decide +kernel⟩
theorem flX0_copyFrom_33 : FL RX0 33 0 10 wsX0_copyFrom := ⟨_, rfl, inX0_copyFrom_0, by decide, by decide +kernel⟩
theorem flX0_copyFrom_36 : FL RX0 36 0 11 wsX0_copyFrom := ⟨_, rfl, inX0_copyFrom_0, by decide, by decide +kernel⟩
theorem flX0_copyFrom_39 : FL RX0 39 0 12 wsX0_copyFrom := ⟨_, rfl, inX0_copyFrom_0, by decide, by decide +kernel⟩
theorem flX0_copyFrom_42 : FL RX0 42 0 13 wsX0_copyFrom := ⟨_, rfl, inX0_copyFrom_0, by decide, by decide +kernel⟩
theorem flX0_copyFrom_45 : FL RX0 45 0 0 wsX0_copyFrom := ⟨_, rfl, inX0_copyFrom_0, by decide, by decide +kernel⟩
theorem flX0_copyFrom_53 : FL RX0 53 0 3 wsX0_copyFrom := ⟨_, rfl, inX0_copyFrom_0, by decide, by decide +kernel⟩
theorem flX0_copyFrom_76 : FL RX0 76 0 8 wsX0_copyFrom := ⟨_, rfl, inX0_copyFrom_0, by decide, by decide +kernel⟩
theorem flX0_copyFrom_9 : FL RX0 9 0 1 wsX0_copyFrom := ⟨_, rfl, inX0_copyFrom_0, by decide, by decide +kernel⟩
theorem flX0_dropPipe_18 : FL RX0 18 0 4 wsX0_dropPipe := ⟨_, rfl, inX0_dropPipe_0, by decide, by decide +kernel⟩
theorem flX0_dropPipe_21 : FL RX0 21 0 5 wsX0_dropPipe := ⟨_, rfl, inX0_dropPipe_0, by decide, by decide +kernel⟩
theorem flX0_dropPipe_24 : FL RX0 24 0 6 wsX0_dropPipe := ⟨_, rfl, inX0_dropPipe_0, by decide, by decide +kernel⟩
theorem flX0_dropPipe_27 : FL RX0 27 0 7 wsX0_dropPipe := ⟨_, rfl, inX0_dropPipe_0, by decide, by decide +kernel⟩
theorem flX0_dropPipe_53 : FL RX0 53 0 3 wsX0_dropPipe := ⟨_, rfl, inX0_dropPipe_0, by decide, by decide +kernel⟩
theorem flX0_dropSights_76 : FL RX0 76 0 8 wsX0_dropSights := ⟨_, rfl, inX0_dropSights_0, by decide, by decide +kernel⟩
theorem flX0_findBelow_18 : FL RX0 18 0 4 wsX0_findBelow := ⟨_, rfl, inX0_findBelow_0, by decide, by decide +kernel⟩
theorem flX0_findBelow_21 : FL RX0 21 0 5 wsX0_findBelow := ⟨_, rfl, inX0_findBelow_0, by decide, by decide +kernel⟩
theorem flX0_findBelow_39 : FL RX0 39 0 12 wsX0_findBelow := ⟨_, rfl, inX0_findBelow_0, by decide, by decide +kernel⟩
theorem flX0_findBelow_45 : FL RX0 45 0 0 wsX0_findBelow := ⟨_, rfl, inX0_findBelow_0, by decide, by decide +kernel⟩
theorem flX0_findBelow_53 : FL RX0 53 0 3 wsX0_findBelow := ⟨_, rfl, inX0_findBelow_0, by decide, by decide +kernel⟩
theorem flX0_findRoute_18 : FL RX0 18 0 4 wsX0_findRoute := ⟨_, rfl, inX0_findRoute_0, by decide, by decide +kernel⟩
theorem flX0_findRoute_39 : FL RX0 39 0 12 wsX0_findRoute := ⟨_, rfl, inX0_findRoute_0, by decide, by decide +kernel⟩
theorem flX0_findRoute_42 : FL RX0 42 0 13 wsX0_findRoute := ⟨_, rfl, inX0_findRoute_0, by decide, by decide +kernel⟩
theorem flX0_findRoute_45 : FL RX0 45 0 0 wsX0_findRoute := ⟨_, rfl, inX0_findRoute_0, by decide, by decide +kernel⟩
theorem flX0_findRoute_53 : FL RX0 53 0 3 wsX0_findRoute := ⟨_, rfl, inX0_findRoute_0, by decide, by decide +kernel⟩
theorem flX0_hasPipe_53 : FL RX0 53 0 3 wsX0_hasPipe := ⟨_, rfl, inX0_hasPipe_0, by decide, by decide +kernel⟩
theorem flX0_hasShaft_45 : FL RX0 45 0 0 wsX0_hasShaft := ⟨_, rfl, inX0_hasShaft_0, by decide, by decide +kernel⟩
theorem flX0_isBelow_39 : FL RX0 39 0 12 wsX0_isBelow := ⟨_, rfl, inX0_isBelow_0, by decide, by decide +kernel⟩
theorem flX0_leaving_15 : FL RX0 15 0 2 wsX0_leaving := ⟨_, rfl, inX0_leaving_0, by decide, by decide +kernel⟩
theorem flX0_leaving_9 : FL RX0 9 0 1 wsX0_leaving := ⟨_, rfl, inX0_leaving_0, by decide, by decide +kernel⟩
theorem flX0_pipesAt_53 : FL RX0 53 0 3 wsX0_pipesAt := ⟨_, rfl, inX0_pipesAt_0, by decide, by decide +kernel⟩
theorem flX1_agreesWith_72 : FL RX1 72 0 10 wsX1_agreesWith := ⟨_, rfl, inX1_agreesWith_0, by decide, by decide +kernel⟩
theorem flX1_agreesWith_75 : FL RX1 75 0 11 wsX1_agreesWith := ⟨_, rfl, inX1_agreesWith_0, by decide, by decide +kernel⟩
theorem flX1_agreesWith_78 : FL RX1 78 0 9 wsX1_agreesWith := ⟨_, rfl, inX1_agreesWith_0, by decide, by decide +kernel⟩
theorem flX1_agreesWith_9 : FL RX1 9 1 0 wsX1_agreesWith := ⟨_, rfl, inX1_agreesWith_1, by decide, by decide +kernel⟩
theorem flX1_agrees_50 : FL RX1 50 0 8 wsX1_agrees := ⟨_, rfl, inX1_agrees_0, by decide, by decide +kernel⟩
theorem flX1_startsAt_15 : FL RX1 15 1 1 wsX1_startsAt := ⟨_, rfl, inX1_startsAt_1, by decide, by decide +kernel⟩
theorem flX1_startsAt_19 : FL RX1 19 1 2 wsX1_startsAt := ⟨_, rfl, inX1_startsAt_1, by decide, by decide +kernel⟩
theorem flX1_suspicious_65 : FL RX1 65 0 0 wsX1_suspicious := ⟨_, rfl, inX1_suspicious_0, by decide, by decide +kernel⟩
theorem flX1_walk_29 : FL RX1 29 0 3 wsX1_walk := ⟨_, rfl, inX1_walk_0, by decide, by decide +kernel⟩
theorem flX1_walk_34 : FL RX1 34 0 13 wsX1_walk := ⟨_, rfl, inX1_walk_0, by decide, by decide +kernel⟩
theorem flX1_walk_37 : FL RX1 37 0 4 wsX1_walk := ⟨_, rfl, inX1_walk_0, by decide, by decide +kernel⟩
theorem flX1_walk_40 : FL RX1 40 0 5 wsX1_walk := ⟨_, rfl, inX1_walk_0, by decide, by decide +kernel⟩
theorem flX1_walk_9 : FL RX1 9 1 0 wsX1_walk := ⟨_, rfl, inX1_walk_1, by decide, by decide +kernel⟩
theorem flX2_closes_18 : FL RX2 18 2 2 wsX2_closes := ⟨_, rfl, inX2_closes_2, by decide, by decide +kernel⟩
theorem flX2_closes_68 : FL RX2 68 2 4 wsX2_closes := ⟨_, rfl, inX2_closes_2, by decide, by decide +kernel⟩
theorem flX2_closes_9 : FL RX2 9 2 0 wsX2_closes := ⟨_, rfl, inX2_closes_2, by decide, by decide +kernel⟩
theorem flX2_obey_15 : FL RX2 15 2 1 wsX2_obey := ⟨_, rfl, inX2_obey_2, by decide, by decide +kernel⟩
theorem flX2_obey_9 : FL RX2 9 2 0 wsX2_obey := ⟨_, rfl, inX2_obey_2, by decide, by decide +kernel⟩
theorem flX2_opens_18 : FL RX2 18 2 2 wsX2_opens := ⟨_, rfl, inX2_opens_2, by decide, by decide +kernel⟩
theorem flX2_opens_9 : FL RX2 9 2 0 wsX2_opens := ⟨_, rfl, inX2_opens_2, by decide, by decide +kernel⟩
theorem flX2_parse_18 : FL RX2 18 2 2 wsX2_parse := ⟨_, rfl, inX2_parse_2, by decide, by decide +kernel⟩
theorem flX2_parse_22 : FL RX2 22 2 3 wsX2_parse := ⟨_, rfl, inX2_parse_2, by decide, by decide +kernel⟩
theorem flX2_takesFigure_15 : FL RX2 15 2 1 wsX2_takesFigure := ⟨_, rfl, inX2_takesFigure_2, by decide, by decide +kernel⟩
theorem flX2_takesFigure_18 : FL RX2 18 2 2 wsX2_takesFigure := ⟨_, rfl, inX2_takesFigure_2, by decide, by decide +kernel⟩
theorem flX2_takesFigure_48 : FL RX2 48 2 5 wsX2_takesFigure := ⟨_, rfl, inX2_takesFigure_2, by decide, by decide +kernel⟩
theorem flX2_takesFigure_68 : FL RX2 68 2 4 wsX2_takesFigure := ⟨_, rfl, inX2_takesFigure_2, by decide, by decide +kernel⟩
theorem flX2_takesFigure_9 : FL RX2 9 2 0 wsX2_takesFigure := ⟨_, rfl, inX2_takesFigure_2, by decide, by decide +kernel⟩
theorem flX2_takes_22 : FL RX2 22 2 3 wsX2_takes := ⟨_, rfl, inX2_takes_2, by decide, by decide +kernel⟩
theorem flX3_keep_11 : FL RX3 11 3 0 wsX3_keep := ⟨_, rfl, inX3_keep_3, by decide, by decide +kernel⟩
theorem flX3_keep_18 : FL RX3 18 3 1 wsX3_keep := ⟨_, rfl, inX3_keep_3, by decide, by decide +kernel⟩
theorem flX3_mark_11 : FL RX3 11 3 0 wsX3_mark := ⟨_, rfl, inX3_mark_3, by decide, by decide +kernel⟩
theorem flX3_mark_18 : FL RX3 18 3 1 wsX3_mark := ⟨_, rfl, inX3_mark_3, by decide, by decide +kernel⟩
theorem flX3_toMark_11 : FL RX3 11 3 0 wsX3_toMark := ⟨_, rfl, inX3_toMark_3, by decide, by decide +kernel⟩
theorem flX3_toMark_18 : FL RX3 18 3 1 wsX3_toMark := ⟨_, rfl, inX3_toMark_3, by decide, by decide +kernel⟩
theorem flX3_undo_11 : FL RX3 11 3 0 wsX3_undo := ⟨_, rfl, inX3_undo_3, by decide, by decide +kernel⟩
theorem flX3_undo_18 : FL RX3 18 3 1 wsX3_undo := ⟨_, rfl, inX3_undo_3, by decide, by decide +kernel⟩
theorem flX4_compare_15 : FL RX4 15 4 1 wsX4_compare := ⟨_, rfl, inX4_compare_4, by decide, by decide +kernel⟩
theorem flX4_compare_19 : FL RX4 19 0 0 wsX4_compare := ⟨_, rfl, inX4_compare_0, by decide, by decide +kernel⟩
theorem flX4_compare_24 : FL RX4 24 0 12 wsX4_compare := ⟨_, rfl, inX4_compare_0, by decide, by decide +kernel⟩
theorem flX4_compare_9 : FL RX4 9 4 0 wsX4_compare := ⟨_, rfl, inX4_compare_4, by decide, by decide +kernel⟩
theorem flX4_tellsAll_15 : FL RX4 15 4 1 wsX4_tellsAll := ⟨_, rfl, inX4_tellsAll_4, by decide, by decide +kernel⟩
theorem flX4_tellsAll_9 : FL RX4 9 4 0 wsX4_tellsAll := ⟨_, rfl, inX4_tellsAll_4, by decide, by decide +kernel⟩
theorem flX4_untold_15 : FL RX4 15 4 1 wsX4_untold := ⟨_, rfl, inX4_untold_4, by decide, by decide +kernel⟩
theorem flX4_untold_9 : FL RX4 9 4 0 wsX4_untold := ⟨_, rfl, inX4_untold_4, by decide, by decide +kernel⟩
theorem flX5_about_104 : FL RX5 104 0 6 wsX5_about := ⟨_, rfl, inX5_about_0, by decide, by decide +kernel⟩
theorem flX5_about_107 : FL RX5 107 0 7 wsX5_about := ⟨_, rfl, inX5_about_0, by decide, by decide +kernel⟩
theorem flX5_about_12 : FL RX5 12 5 0 wsX5_about := ⟨_, rfl, inX5_about_5, by decide, by decide +kernel⟩
theorem flX5_about_85 : FL RX5 85 0 4 wsX5_about := ⟨_, rfl, inX5_about_0, by decide, by decide +kernel⟩
theorem flX5_about_92 : FL RX5 92 0 5 wsX5_about := ⟨_, rfl, inX5_about_0, by decide, by decide +kernel⟩
theorem flX5_alike_12 : FL RX5 12 5 0 wsX5_alike := ⟨_, rfl, inX5_alike_5, by decide, by decide +kernel⟩
theorem flX5_alike_161 : FL RX5 161 0 0 wsX5_alike := ⟨_, rfl, inX5_alike_0, by decide, by decide +kernel⟩
theorem flX5_alike_33 : FL RX5 33 5 3 wsX5_alike := ⟨_, rfl, inX5_alike_5, by decide, by decide +kernel⟩
theorem flX5_back_12 : FL RX5 12 5 0 wsX5_back := ⟨_, rfl, inX5_back_5, by decide, by decide +kernel⟩
theorem flX5_back_19 : FL RX5 19 5 1 wsX5_back := ⟨_, rfl, inX5_back_5, by decide, by decide +kernel⟩
theorem flX5_back_198 : FL RX5 198 3 1 wsX5_back := ⟨_, rfl, inX5_back_3, by decide, by decide +kernel⟩
theorem flX5_back_26 : FL RX5 26 5 2 wsX5_back := ⟨_, rfl, inX5_back_5, by decide, by decide +kernel⟩
theorem flX5_clear_181 : FL RX5 181 5 6 wsX5_clear := ⟨_, rfl, inX5_clear_5, by decide, by decide +kernel⟩
theorem flX5_comes_118 : FL RX5 118 1 0 wsX5_comes := ⟨_, rfl, inX5_comes_1, by decide, by decide +kernel⟩
theorem flX5_comes_12 : FL RX5 12 5 0 wsX5_comes := ⟨_, rfl, inX5_comes_5, by decide, by decide +kernel⟩
theorem flX5_comes_26 : FL RX5 26 5 2 wsX5_comes := ⟨_, rfl, inX5_comes_5, by decide, by decide +kernel⟩
theorem flX5_digestPipes_12 : FL RX5 12 5 0 wsX5_digestPipes := ⟨_, rfl, inX5_digestPipes_5, by decide, by decide +kernel⟩
theorem flX5_digestPipes_214 : FL RX5 214 0 3 wsX5_digestPipes := ⟨_, rfl, inX5_digestPipes_0, by decide, by decide +kernel⟩
theorem flX5_digestShafts_12 : FL RX5 12 5 0 wsX5_digestShafts := ⟨_, rfl, inX5_digestShafts_5, by decide, by decide +kernel⟩
theorem flX5_digestShafts_161 : FL RX5 161 0 0 wsX5_digestShafts := ⟨_, rfl, inX5_digestShafts_0, by decide, by decide +kernel⟩
theorem flX5_digest_12 : FL RX5 12 5 0 wsX5_digest := ⟨_, rfl, inX5_digest_5, by decide, by decide +kernel⟩
theorem flX5_digest_161 : FL RX5 161 0 0 wsX5_digest := ⟨_, rfl, inX5_digest_0, by decide, by decide +kernel⟩
theorem flX5_drops_12 : FL RX5 12 5 0 wsX5_drops := ⟨_, rfl, inX5_drops_5, by decide, by decide +kernel⟩
theorem flX5_drops_19 : FL RX5 19 5 1 wsX5_drops := ⟨_, rfl, inX5_drops_5, by decide, by decide +kernel⟩
theorem flX5_fits_12 : FL RX5 12 5 0 wsX5_fits := ⟨_, rfl, inX5_fits_5, by decide, by decide +kernel⟩
theorem flX5_fits_26 : FL RX5 26 5 2 wsX5_fits := ⟨_, rfl, inX5_fits_5, by decide, by decide +kernel⟩
theorem flX5_forget_12 : FL RX5 12 5 0 wsX5_forget := ⟨_, rfl, inX5_forget_5, by decide, by decide +kernel⟩
theorem flX5_forget_19 : FL RX5 19 5 1 wsX5_forget := ⟨_, rfl, inX5_forget_5, by decide, by decide +kernel⟩
theorem flX5_isStart_12 : FL RX5 12 5 0 wsX5_isStart := ⟨_, rfl, inX5_isStart_5, by decide, by decide +kernel⟩
theorem flX5_leaves_12 : FL RX5 12 5 0 wsX5_leaves := ⟨_, rfl, inX5_leaves_5, by decide, by decide +kernel⟩
theorem flX5_next_12 : FL RX5 12 5 0 wsX5_next := ⟨_, rfl, inX5_next_5, by decide, by decide +kernel⟩
theorem flX5_next_161 : FL RX5 161 0 0 wsX5_next := ⟨_, rfl, inX5_next_0, by decide, by decide +kernel⟩
theorem flX5_next_26 : FL RX5 26 5 2 wsX5_next := ⟨_, rfl, inX5_next_5, by decide, by decide +kernel⟩
theorem flX5_of_12 : FL RX5 12 5 0 wsX5_of := ⟨_, rfl, inX5_of_5, by decide, by decide +kernel⟩
theorem flX5_of_78 : FL RX5 78 0 1 wsX5_of := ⟨_, rfl, inX5_of_0, by decide, by decide +kernel⟩
theorem flX5_of_82 : FL RX5 82 0 2 wsX5_of := ⟨_, rfl, inX5_of_0, by decide, by decide +kernel⟩
theorem flX5_of_85 : FL RX5 85 0 4 wsX5_of := ⟨_, rfl, inX5_of_0, by decide, by decide +kernel⟩
theorem flX5_of_92 : FL RX5 92 0 5 wsX5_of := ⟨_, rfl, inX5_of_0, by decide, by decide +kernel⟩
theorem flX5_of_95 : FL RX5 95 0 12 wsX5_of := ⟨_, rfl, inX5_of_0, by decide, by decide +kernel⟩
theorem flX5_pipe_12 : FL RX5 12 5 0 wsX5_pipe := ⟨_, rfl, inX5_pipe_5, by decide, by decide +kernel⟩
theorem flX5_pipe_19 : FL RX5 19 5 1 wsX5_pipe := ⟨_, rfl, inX5_pipe_5, by decide, by decide +kernel⟩
theorem flX5_reads_12 : FL RX5 12 5 0 wsX5_reads := ⟨_, rfl, inX5_reads_5, by decide, by decide +kernel⟩
theorem flX5_reads_181 : FL RX5 181 5 6 wsX5_reads := ⟨_, rfl, inX5_reads_5, by decide, by decide +kernel⟩
theorem flX5_reads_188 : FL RX5 188 2 2 wsX5_reads := ⟨_, rfl, inX5_reads_2, by decide, by decide +kernel⟩
theorem flX5_reads_19 : FL RX5 19 5 1 wsX5_reads := ⟨_, rfl, inX5_reads_5, by decide, by decide +kernel⟩
theorem flX5_reads_40 : FL RX5 40 5 4 wsX5_reads := ⟨_, rfl, inX5_reads_5, by decide, by decide +kernel⟩
theorem flX5_reads_44 : FL RX5 44 5 5 wsX5_reads := ⟨_, rfl, inX5_reads_5, by decide, by decide +kernel⟩
theorem flX5_refused_205 : FL RX5 205 5 7 wsX5_refused := ⟨_, rfl, inX5_refused_5, by decide, by decide +kernel⟩
theorem flX5_refused_208 : FL RX5 208 5 8 wsX5_refused := ⟨_, rfl, inX5_refused_5, by decide, by decide +kernel⟩
theorem flX5_refused_211 : FL RX5 211 5 9 wsX5_refused := ⟨_, rfl, inX5_refused_5, by decide, by decide +kernel⟩
theorem flX5_sensors_12 : FL RX5 12 5 0 wsX5_sensors := ⟨_, rfl, inX5_sensors_5, by decide, by decide +kernel⟩
theorem flX5_sensors_161 : FL RX5 161 0 0 wsX5_sensors := ⟨_, rfl, inX5_sensors_0, by decide, by decide +kernel⟩
theorem flX5_sensors_33 : FL RX5 33 5 3 wsX5_sensors := ⟨_, rfl, inX5_sensors_5, by decide, by decide +kernel⟩
theorem flX5_sets_12 : FL RX5 12 5 0 wsX5_sets := ⟨_, rfl, inX5_sets_5, by decide, by decide +kernel⟩
theorem flX5_sets_19 : FL RX5 19 5 1 wsX5_sets := ⟨_, rfl, inX5_sets_5, by decide, by decide +kernel⟩
theorem flX5_settled_19 : FL RX5 19 5 1 wsX5_settled := ⟨_, rfl, inX5_settled_5, by decide, by decide +kernel⟩
theorem flX5_settled_26 : FL RX5 26 5 2 wsX5_settled := ⟨_, rfl, inX5_settled_5, by decide, by decide +kernel⟩
theorem flX5_shaft_12 : FL RX5 12 5 0 wsX5_shaft := ⟨_, rfl, inX5_shaft_5, by decide, by decide +kernel⟩
theorem flX5_shaft_19 : FL RX5 19 5 1 wsX5_shaft := ⟨_, rfl, inX5_shaft_5, by decide, by decide +kernel⟩
theorem flX5_sight_12 : FL RX5 12 5 0 wsX5_sight := ⟨_, rfl, inX5_sight_5, by decide, by decide +kernel⟩
theorem flX5_sight_19 : FL RX5 19 5 1 wsX5_sight := ⟨_, rfl, inX5_sight_5, by decide, by decide +kernel⟩
theorem flX5_suspects_12 : FL RX5 12 5 0 wsX5_suspects := ⟨_, rfl, inX5_suspects_5, by decide, by decide +kernel⟩
theorem flX5_suspects_26 : FL RX5 26 5 2 wsX5_suspects := ⟨_, rfl, inX5_suspects_5, by decide, by decide +kernel⟩
theorem flX5_times_118 : FL RX5 118 1 0 wsX5_times := ⟨_, rfl, inX5_times_1, by decide, by decide +kernel⟩
theorem flX5_times_12 : FL RX5 12 5 0 wsX5_times := ⟨_, rfl, inX5_times_5, by decide, by decide +kernel⟩
theorem flX5_times_26 : FL RX5 26 5 2 wsX5_times := ⟨_, rfl, inX5_times_5, by decide, by decide +kernel⟩
theorem flX5_told_12 : FL RX5 12 5 0 wsX5_told := ⟨_, rfl, inX5_told_5, by decide, by decide +kernel⟩
theorem flX5_told_161 : FL RX5 161 0 0 wsX5_told := ⟨_, rfl, inX5_told_0, by decide, by decide +kernel⟩
theorem flX5_told_181 : FL RX5 181 5 6 wsX5_told := ⟨_, rfl, inX5_told_5, by decide, by decide +kernel⟩
theorem flX5_told_19 : FL RX5 19 5 1 wsX5_told := ⟨_, rfl, inX5_told_5, by decide, by decide +kernel⟩
theorem flX5_told_198 : FL RX5 198 3 1 wsX5_told := ⟨_, rfl, inX5_told_3, by decide, by decide +kernel⟩
theorem flX5_told_205 : FL RX5 205 5 7 wsX5_told := ⟨_, rfl, inX5_told_5, by decide, by decide +kernel⟩
theorem flX5_told_208 : FL RX5 208 5 8 wsX5_told := ⟨_, rfl, inX5_told_5, by decide, by decide +kernel⟩
theorem flX5_told_211 : FL RX5 211 5 9 wsX5_told := ⟨_, rfl, inX5_told_5, by decide, by decide +kernel⟩
theorem flX5_told_214 : FL RX5 214 0 3 wsX5_told := ⟨_, rfl, inX5_told_0, by decide, by decide +kernel⟩
theorem flX5_told_217 : FL RX5 217 0 8 wsX5_told := ⟨_, rfl, inX5_told_0, by decide, by decide +kernel⟩
theorem flX5_type_181 : FL RX5 181 5 6 wsX5_type := ⟨_, rfl, inX5_type_5, by decide, by decide +kernel⟩
theorem flX5_type_44 : FL RX5 44 5 5 wsX5_type := ⟨_, rfl, inX5_type_5, by decide, by decide +kernel⟩
theorem flX5_when_12 : FL RX5 12 5 0 wsX5_when := ⟨_, rfl, inX5_when_5, by decide, by decide +kernel⟩
theorem flX5_when_26 : FL RX5 26 5 2 wsX5_when := ⟨_, rfl, inX5_when_5, by decide, by decide +kernel⟩
theorem flX6_alikeBy_26 : FL RX6 26 6 6 wsX6_alikeBy := ⟨_, rfl, inX6_alikeBy_6, by decide, by decide +kernel⟩
theorem flX6_alikeBy_7 : FL RX6 7 6 0 wsX6_alikeBy := ⟨_, rfl, inX6_alikeBy_6, by decide, by decide +kernel⟩
theorem flX6_alike_7 : FL RX6 7 6 0 wsX6_alike := ⟨_, rfl, inX6_alike_6, by decide, by decide +kernel⟩
theorem flX6_back_16 : FL RX6 16 6 2 wsX6_back := ⟨_, rfl, inX6_back_6, by decide, by decide +kernel⟩
theorem flX6_back_38 : FL RX6 38 6 3 wsX6_back := ⟨_, rfl, inX6_back_6, by decide, by decide +kernel⟩
theorem flX6_back_7 : FL RX6 7 6 0 wsX6_back := ⟨_, rfl, inX6_back_6, by decide, by decide +kernel⟩
theorem flX6_below_7 : FL RX6 7 6 0 wsX6_below := ⟨_, rfl, inX6_below_6, by decide, by decide +kernel⟩
theorem flX6_carries_22 : FL RX6 22 6 5 wsX6_carries := ⟨_, rfl, inX6_carries_6, by decide, by decide +kernel⟩
theorem flX6_clear_162 : FL RX6 162 6 8 wsX6_clear := ⟨_, rfl, inX6_clear_6, by decide, by decide +kernel⟩
theorem flX6_comesOf_22 : FL RX6 22 6 5 wsX6_comesOf := ⟨_, rfl, inX6_comesOf_6, by decide, by decide +kernel⟩
theorem flX6_digest_202 : FL RX6 202 6 14 wsX6_digest := ⟨_, rfl, inX6_digest_6, by decide, by decide +kernel⟩
theorem flX6_digest_7 : FL RX6 7 6 0 wsX6_digest := ⟨_, rfl, inX6_digest_6, by decide, by decide +kernel⟩
theorem flX6_doDrops_7 : FL RX6 7 6 0 wsX6_doDrops := ⟨_, rfl, inX6_doDrops_6, by decide, by decide +kernel⟩
theorem flX6_doForget_7 : FL RX6 7 6 0 wsX6_doForget := ⟨_, rfl, inX6_doForget_6, by decide, by decide +kernel⟩
theorem flX6_doOrder_32 : FL RX6 32 6 12 wsX6_doOrder := ⟨_, rfl, inX6_doOrder_6, by decide, by decide +kernel⟩
theorem flX6_doOrder_35 : FL RX6 35 6 13 wsX6_doOrder := ⟨_, rfl, inX6_doOrder_6, by decide, by decide +kernel⟩
theorem flX6_doPipe_7 : FL RX6 7 6 0 wsX6_doPipe := ⟨_, rfl, inX6_doPipe_6, by decide, by decide +kernel⟩
theorem flX6_doSets_7 : FL RX6 7 6 0 wsX6_doSets := ⟨_, rfl, inX6_doSets_6, by decide, by decide +kernel⟩
theorem flX6_doShaft_7 : FL RX6 7 6 0 wsX6_doShaft := ⟨_, rfl, inX6_doShaft_6, by decide, by decide +kernel⟩
theorem flX6_doSight_7 : FL RX6 7 6 0 wsX6_doSight := ⟨_, rfl, inX6_doSight_6, by decide, by decide +kernel⟩
theorem flX6_findBelows_26 : FL RX6 26 6 6 wsX6_findBelows := ⟨_, rfl, inX6_findBelows_6, by decide, by decide +kernel⟩
theorem flX6_findBelows_7 : FL RX6 7 6 0 wsX6_findBelows := ⟨_, rfl, inX6_findBelows_6, by decide, by decide +kernel⟩
theorem flX6_here_162 : FL RX6 162 6 8 wsX6_here := ⟨_, rfl, inX6_here_6, by decide, by decide +kernel⟩
theorem flX6_here_165 : FL RX6 165 6 9 wsX6_here := ⟨_, rfl, inX6_here_6, by decide, by decide +kernel⟩
theorem flX6_here_29 : FL RX6 29 6 7 wsX6_here := ⟨_, rfl, inX6_here_6, by decide, by decide +kernel⟩
theorem flX6_hold_13 : FL RX6 13 6 1 wsX6_hold := ⟨_, rfl, inX6_hold_6, by decide, by decide +kernel⟩
theorem flX6_hold_7 : FL RX6 7 6 0 wsX6_hold := ⟨_, rfl, inX6_hold_6, by decide, by decide +kernel⟩
theorem flX6_isFigure_162 : FL RX6 162 6 8 wsX6_isFigure := ⟨_, rfl, inX6_isFigure_6, by decide, by decide +kernel⟩
theorem flX6_isFigure_165 : FL RX6 165 6 9 wsX6_isFigure := ⟨_, rfl, inX6_isFigure_6, by decide, by decide +kernel⟩
theorem flX6_isFigure_29 : FL RX6 29 6 7 wsX6_isFigure := ⟨_, rfl, inX6_isFigure_6, by decide, by decide +kernel⟩
theorem flX6_isFit_22 : FL RX6 22 6 5 wsX6_isFit := ⟨_, rfl, inX6_isFit_6, by decide, by decide +kernel⟩
theorem flX6_isFit_7 : FL RX6 7 6 0 wsX6_isFit := ⟨_, rfl, inX6_isFit_6, by decide, by decide +kernel⟩
theorem flX6_isPipe_7 : FL RX6 7 6 0 wsX6_isPipe := ⟨_, rfl, inX6_isPipe_6, by decide, by decide +kernel⟩
theorem flX6_isShaft_7 : FL RX6 7 6 0 wsX6_isShaft := ⟨_, rfl, inX6_isShaft_6, by decide, by decide +kernel⟩
theorem flX6_kindOf_7 : FL RX6 7 6 0 wsX6_kindOf := ⟨_, rfl, inX6_kindOf_6, by decide, by decide +kernel⟩
theorem flX6_mix_202 : FL RX6 202 6 14 wsX6_mix := ⟨_, rfl, inX6_mix_6, by decide, by decide +kernel⟩
theorem flX6_must_165 : FL RX6 165 6 9 wsX6_must := ⟨_, rfl, inX6_must_6, by decide, by decide +kernel⟩
theorem flX6_must_168 : FL RX6 168 6 10 wsX6_must := ⟨_, rfl, inX6_must_6, by decide, by decide +kernel⟩
theorem flX6_nextOf_7 : FL RX6 7 6 0 wsX6_nextOf := ⟨_, rfl, inX6_nextOf_6, by decide, by decide +kernel⟩
theorem flX6_numberOf_7 : FL RX6 7 6 0 wsX6_numberOf := ⟨_, rfl, inX6_numberOf_6, by decide, by decide +kernel⟩
theorem flX6_number_165 : FL RX6 165 6 9 wsX6_number := ⟨_, rfl, inX6_number_6, by decide, by decide +kernel⟩
theorem flX6_number_168 : FL RX6 168 6 10 wsX6_number := ⟨_, rfl, inX6_number_6, by decide, by decide +kernel⟩
theorem flX6_number_29 : FL RX6 29 6 7 wsX6_number := ⟨_, rfl, inX6_number_6, by decide, by decide +kernel⟩
theorem flX6_ofShaft_7 : FL RX6 7 6 0 wsX6_ofShaft := ⟨_, rfl, inX6_ofShaft_6, by decide, by decide +kernel⟩
theorem flX6_pipeOf_7 : FL RX6 7 6 0 wsX6_pipeOf := ⟨_, rfl, inX6_pipeOf_6, by decide, by decide +kernel⟩
theorem flX6_push_13 : FL RX6 13 6 1 wsX6_push := ⟨_, rfl, inX6_push_6, by decide, by decide +kernel⟩
theorem flX6_push_16 : FL RX6 16 6 2 wsX6_push := ⟨_, rfl, inX6_push_6, by decide, by decide +kernel⟩
theorem flX6_push_38 : FL RX6 38 6 3 wsX6_push := ⟨_, rfl, inX6_push_6, by decide, by decide +kernel⟩
theorem flX6_readOrder_168 : FL RX6 168 6 10 wsX6_readOrder := ⟨_, rfl, inX6_readOrder_6, by decide, by decide +kernel⟩
theorem flX6_readOrder_185 : FL RX6 185 6 11 wsX6_readOrder := ⟨_, rfl, inX6_readOrder_6, by decide, by decide +kernel⟩
theorem flX6_readOrder_32 : FL RX6 32 6 12 wsX6_readOrder := ⟨_, rfl, inX6_readOrder_6, by decide, by decide +kernel⟩
theorem flX6_readOrder_35 : FL RX6 35 6 13 wsX6_readOrder := ⟨_, rfl, inX6_readOrder_6, by decide, by decide +kernel⟩
theorem flX6_reads_13 : FL RX6 13 6 1 wsX6_reads := ⟨_, rfl, inX6_reads_6, by decide, by decide +kernel⟩
theorem flX6_reads_162 : FL RX6 162 6 8 wsX6_reads := ⟨_, rfl, inX6_reads_6, by decide, by decide +kernel⟩
theorem flX6_reads_168 : FL RX6 168 6 10 wsX6_reads := ⟨_, rfl, inX6_reads_6, by decide, by decide +kernel⟩
theorem flX6_reads_185 : FL RX6 185 6 11 wsX6_reads := ⟨_, rfl, inX6_reads_6, by decide, by decide +kernel⟩
theorem flX6_reads_7 : FL RX6 7 6 0 wsX6_reads := ⟨_, rfl, inX6_reads_6, by decide, by decide +kernel⟩
theorem flX6_refuses_19 : FL RX6 19 6 4 wsX6_refuses := ⟨_, rfl, inX6_refuses_6, by decide, by decide +kernel⟩
theorem flX6_sensorsOf_7 : FL RX6 7 6 0 wsX6_sensorsOf := ⟨_, rfl, inX6_sensorsOf_6, by decide, by decide +kernel⟩
theorem flX6_start_22 : FL RX6 22 6 5 wsX6_start := ⟨_, rfl, inX6_start_6, by decide, by decide +kernel⟩
theorem flX6_start_7 : FL RX6 7 6 0 wsX6_start := ⟨_, rfl, inX6_start_6, by decide, by decide +kernel⟩
theorem flX6_suspectsNow_7 : FL RX6 7 6 0 wsX6_suspectsNow := ⟨_, rfl, inX6_suspectsNow_6, by decide, by decide +kernel⟩
theorem flX6_toldOf_162 : FL RX6 162 6 8 wsX6_toldOf := ⟨_, rfl, inX6_toldOf_6, by decide, by decide +kernel⟩
theorem flX6_toldOf_19 : FL RX6 19 6 4 wsX6_toldOf := ⟨_, rfl, inX6_toldOf_6, by decide, by decide +kernel⟩
theorem flX6_toldOf_38 : FL RX6 38 6 3 wsX6_toldOf := ⟨_, rfl, inX6_toldOf_6, by decide, by decide +kernel⟩
theorem flX6_toldOf_7 : FL RX6 7 6 0 wsX6_toldOf := ⟨_, rfl, inX6_toldOf_6, by decide, by decide +kernel⟩
theorem flX6_type_162 : FL RX6 162 6 8 wsX6_type := ⟨_, rfl, inX6_type_6, by decide, by decide +kernel⟩
theorem flX6_type_29 : FL RX6 29 6 7 wsX6_type := ⟨_, rfl, inX6_type_6, by decide, by decide +kernel⟩
theorem fpX0_addPipe_53 : FPt RX0 53 0 3 false .int wsX0_addPipe := ⟨_, rfl, inX0_addPipe_0, by decide, by decide +kernel, rfl, by decide +kernel, rfl⟩
theorem fpX0_addShaft_45 : FPt RX0 45 0 0 false .int wsX0_addShaft := ⟨_, rfl, inX0_addShaft_0, by decide, by decide +kernel, rfl, by decide +kernel, rfl⟩
theorem fpX0_addSight_76 : FPt RX0 76 0 8 false .int wsX0_addSight := ⟨_, rfl, inX0_addSight_0, by decide, by decide +kernel, rfl, by decide +kernel, rfl⟩
theorem fpX0_copyFrom_45 : FPt RX0 45 0 0 false .int wsX0_copyFrom := ⟨_, rfl, inX0_copyFrom_0, by decide, by decide +kernel, rfl, by decide +kernel, rfl⟩
theorem fpX0_copyFrom_53 : FPt RX0 53 0 3 false .int wsX0_copyFrom := ⟨_, rfl, inX0_copyFrom_0, by decide, by decide +kernel, rfl, by decide +kernel, rfl⟩
theorem fpX0_copyFrom_76 : FPt RX0 76 0 8 false .int wsX0_copyFrom := ⟨_, rfl, inX0_copyFrom_0, by decide, by decide +kernel, rfl, by decide +kernel, rfl⟩
theorem fpX0_dropPipe_53 : FPt RX0 53 0 3 false .int wsX0_dropPipe := ⟨_, rfl, inX0_dropPipe_0, by decide, by decide +kernel, rfl, by decide +kernel, rfl⟩
theorem fpX0_dropSights_76 : FPt RX0 76 0 8 false .int wsX0_dropSights := ⟨_, rfl, inX0_dropSights_0, by decide, by decide +kernel, rfl, by decide +kernel, rfl⟩
theorem fpX1_outdate_19 : FPt RX1 19 1 2 false .int wsX1_outdate := ⟨_, rfl, inX1_outdate_1, by decide, by decide +kernel, rfl, by decide +kernel, rfl⟩
theorem fpX1_startsAt_19 : FPt RX1 19 1 2 false .int wsX1_startsAt := ⟨_, rfl, inX1_startsAt_1, by decide, by decide +kernel, rfl, by decide +kernel, rfl⟩
theorem fpX2_closes_18 : FPt RX2 18 2 2 false .int wsX2_closes := ⟨_, rfl, inX2_closes_2, by decide, by decide +kernel, rfl, by decide +kernel, rfl⟩
theorem fpX2_closes_22 : FPt RX2 22 2 3 false .boolean wsX2_closes := ⟨_, rfl, inX2_closes_2, by decide, by decide +kernel, rfl, by decide +kernel, rfl⟩
theorem fpX2_opens_22 : FPt RX2 22 2 3 false .boolean wsX2_opens := ⟨_, rfl, inX2_opens_2, by decide, by decide +kernel, rfl, by decide +kernel, rfl⟩
theorem fpX2_opens_48 : FPt RX2 48 2 5 false .int wsX2_opens := ⟨_, rfl, inX2_opens_2, by decide, by decide +kernel, rfl, by decide +kernel, rfl⟩
theorem fpX2_opens_68 : FPt RX2 68 2 4 false .int wsX2_opens := ⟨_, rfl, inX2_opens_2, by decide, by decide +kernel, rfl, by decide +kernel, rfl⟩
theorem fpX2_parse_18 : FPt RX2 18 2 2 false .int wsX2_parse := ⟨_, rfl, inX2_parse_2, by decide, by decide +kernel, rfl, by decide +kernel, rfl⟩
theorem fpX2_parse_22 : FPt RX2 22 2 3 false .boolean wsX2_parse := ⟨_, rfl, inX2_parse_2, by decide, by decide +kernel, rfl, by decide +kernel, rfl⟩
theorem fpX2_takesFigure_48 : FPt RX2 48 2 5 false .int wsX2_takesFigure := ⟨_, rfl, inX2_takesFigure_2, by decide, by decide +kernel, rfl, by decide +kernel, rfl⟩
theorem fpX2_takesFigure_68 : FPt RX2 68 2 4 false .int wsX2_takesFigure := ⟨_, rfl, inX2_takesFigure_2, by decide, by decide +kernel, rfl, by decide +kernel, rfl⟩
theorem fpX2_takes_48 : FPt RX2 48 2 5 false .int wsX2_takes := ⟨_, rfl, inX2_takes_2, by decide, by decide +kernel, rfl, by decide +kernel, rfl⟩
theorem fpX3_keep_18 : FPt RX3 18 3 1 false .int wsX3_keep := ⟨_, rfl, inX3_keep_3, by decide, by decide +kernel, rfl, by decide +kernel, rfl⟩
theorem fpX3_undo_18 : FPt RX3 18 3 1 false .int wsX3_undo := ⟨_, rfl, inX3_undo_3, by decide, by decide +kernel, rfl, by decide +kernel, rfl⟩
theorem fpX4_compare_15 : FPt RX4 15 4 1 false .int wsX4_compare := ⟨_, rfl, inX4_compare_4, by decide, by decide +kernel, rfl, by decide +kernel, rfl⟩
theorem fpX5_clear_181 : FPt RX5 181 5 6 false .int wsX5_clear := ⟨_, rfl, inX5_clear_5, by decide, by decide +kernel, rfl, by decide +kernel, rfl⟩
theorem fpX5_refused_205 : FPt RX5 205 5 7 false .int wsX5_refused := ⟨_, rfl, inX5_refused_5, by decide, by decide +kernel, rfl, by decide +kernel, rfl⟩
theorem fpX5_refused_208 : FPt RX5 208 5 8 false .int wsX5_refused := ⟨_, rfl, inX5_refused_5, by decide, by decide +kernel, rfl, by decide +kernel, rfl⟩
theorem fpX5_refused_211 : FPt RX5 211 5 9 false .int wsX5_refused := ⟨_, rfl, inX5_refused_5, by decide, by decide +kernel, rfl, by decide +kernel, rfl⟩
theorem fpX5_type_181 : FPt RX5 181 5 6 false .int wsX5_type := ⟨_, rfl, inX5_type_5, by decide, by decide +kernel, rfl, by decide +kernel, rfl⟩
theorem fpX6_back_38 : FPt RX6 38 6 3 false .int wsX6_back := ⟨_, rfl, inX6_back_6, by decide, by decide +kernel, rfl, by decide +kernel, rfl⟩
theorem fpX6_clear_162 : FPt RX6 162 6 8 false .int wsX6_clear := ⟨_, rfl, inX6_clear_6, by decide, by decide +kernel, rfl, by decide +kernel, rfl⟩
theorem fpX6_digest_202 : FPt RX6 202 6 14 false .long wsX6_digest := ⟨_, rfl, inX6_digest_6, by decide, by decide +kernel, rfl, by decide +kernel, rfl⟩
theorem fpX6_here_165 : FPt RX6 165 6 9 false .int wsX6_here := ⟨_, rfl, inX6_here_6, by decide, by decide +kernel, rfl, by decide +kernel, rfl⟩
theorem fpX6_mix_202 : FPt RX6 202 6 14 false .long wsX6_mix := ⟨_, rfl, inX6_mix_6, by decide, by decide +kernel, rfl, by decide +kernel, rfl⟩
theorem fpX6_must_165 : FPt RX6 165 6 9 false .int wsX6_must := ⟨_, rfl, inX6_must_6, by decide, by decide +kernel, rfl, by decide +kernel, rfl⟩
theorem fpX6_must_168 : FPt RX6 168 6 10 false .int wsX6_must := ⟨_, rfl, inX6_must_6, by decide, by decide +kernel, rfl, by decide +kernel, rfl⟩
theorem fpX6_number_165 : FPt RX6 165 6 9 false .int wsX6_number := ⟨_, rfl, inX6_number_6, by decide, by decide +kernel, rfl, by decide +kernel, rfl⟩
theorem fpX6_number_168 : FPt RX6 168 6 10 false .int wsX6_number := ⟨_, rfl, inX6_number_6, by decide, by decide +kernel, rfl, by decide +kernel, rfl⟩
theorem fpX6_push_38 : FPt RX6 38 6 3 false .int wsX6_push := ⟨_, rfl, inX6_push_6, by decide, by decide +kernel, rfl, by decide +kernel, rfl⟩
theorem fpX6_readOrder_185 : FPt RX6 185 6 11 false .int wsX6_readOrder := ⟨_, rfl, inX6_readOrder_6, by decide, by decide +kernel, rfl, by decide +kernel, rfl⟩
theorem fpX6_reads_165 : FPt RX6 165 6 9 false .int wsX6_reads := ⟨_, rfl, inX6_reads_6, by decide, by decide +kernel, rfl, by decide +kernel, rfl⟩
theorem fpX6_reads_168 : FPt RX6 168 6 10 false .int wsX6_reads := ⟨_, rfl, inX6_reads_6, by decide, by decide +kernel, rfl, by decide +kernel, rfl⟩
theorem fpX6_reads_185 : FPt RX6 185 6 11 false .int wsX6_reads := ⟨_, rfl, inX6_reads_6, by decide, by decide +kernel, rfl, by decide +kernel, rfl⟩
theorem fpX6_type_162 : FPt RX6 162 6 8 false .int wsX6_type := ⟨_, rfl, inX6_type_6, by decide, by decide +kernel, rfl, by decide +kernel, rfl⟩
