def dr (d : Nat) : Nat := if d = 0 then 1 else 3 + 12 * d
def kkT : List (List Nat) := [[1, 13, 87, 90, 92, 95, 0, 0, 0, 0], [0, 2, 3, 0, 4, 5, 6, 7, 0, 8, 9, 10, 11, 12], [], [], [], [], [], [], [], [], [], [], [], [14, 0], [], [0, 16, 17, 0, 18, 19, 20, 21, 0, 22, 23, 24, 25, 26], [], [], [], [], [], [], [], [], [], [], [], [0, 28, 29, 0, 30, 31, 32, 33, 0, 34, 35, 36, 37, 38], [], [], [], [], [], [], [], [], [], [], [], [0, 40, 41, 0, 42, 43, 44, 45, 0, 46, 47, 48, 49, 50], [], [], [], [], [], [], [], [], [], [], [], [0, 52, 53, 0, 54, 55, 56, 57, 0, 58, 59, 60, 61, 62], [], [], [], [], [], [], [], [], [], [], [], [0, 64, 65, 0, 66, 67, 68, 69, 0, 70, 71, 72, 73, 74], [], [], [], [], [], [], [], [], [], [], [], [0, 76, 77, 0, 78, 79, 80, 81, 0, 82, 83, 84, 85, 86], [], [], [], [], [], [], [], [], [], [], [], [1, 88, 89, 0], [], [], [91, 0], [], [93, 94, 0, 0, 0, 0], [], [], [], [97, 98, 99, 0, 100, 101, 102, 103, 0, 0, 0, 0, 104, 105, 0], [], [], [], [], [], [], [], [], []]
def KK (p : Nat → Nat) : MK := fun r k => if r = 14 then (if k < 6 then some (dr (p k)) else none) else match (kkT.getD r []).getD k 0 with
  | 0 => none
  | v => some v
abbrev HM (X : XT) (I : MI) (L : ML) (p : Nat → Nat) : Heap → Prop := HW (xE X) 106 I L (KK p)
theorem hPW {E : ET} {n : Nat} {I : MI} {L : ML} {K : MK} : ∀ H, HW E n I L K H → HW E n I L K H := fun _ h => h
theorem G.pick {X : XT} {cs sl pc : Nat} {ls ls' : List (Nat × Value)} {st : List Value} {P : Heap → Prop} {ks : List Nat} (h : lv_pick ls ks = ls') (k : G X cs sl pc ls' st P) : G X cs sl pc ls st P := G.less (fun q hq => by
  rw [← h] at hq
  obtain ⟨i, -, hi⟩ := List.mem_filterMap.mp hq
  exact List.mem_of_getElem? hi) k
theorem sh0 : shp 0 = (5, 10) := rfl
theorem so0 : (shp 0).1 = 5 := rfl
theorem sn0 : 0 < 106 := by decide
theorem sh1 : shp 1 = (0, 14) := rfl
theorem so1 : (shp 1).1 = 0 := rfl
theorem sn1 : 1 < 106 := by decide
theorem sh2 : shp 2 = (7, 10) := rfl
theorem so2 : (shp 2).1 = 7 := rfl
theorem sn2 : 2 < 106 := by decide
theorem sh3 : shp 3 = (7, 10) := rfl
theorem so3 : (shp 3).1 = 7 := rfl
theorem sn3 : 3 < 106 := by decide
theorem sh4 : shp 4 = (7, 16) := rfl
theorem so4 : (shp 4).1 = 7 := rfl
theorem sn4 : 4 < 106 := by decide
theorem sh5 : shp 5 = (7, 16) := rfl
theorem so5 : (shp 5).1 = 7 := rfl
theorem sn5 : 5 < 106 := by decide
theorem sh6 : shp 6 = (7, 16) := rfl
theorem so6 : (shp 6).1 = 7 := rfl
theorem sn6 : 6 < 106 := by decide
theorem sh7 : shp 7 = (7, 16) := rfl
theorem so7 : (shp 7).1 = 7 := rfl
theorem sn7 : 7 < 106 := by decide
theorem sh8 : shp 8 = (7, 12) := rfl
theorem so8 : (shp 8).1 = 7 := rfl
theorem sn8 : 8 < 106 := by decide
theorem sh9 : shp 9 = (7, 12) := rfl
theorem so9 : (shp 9).1 = 7 := rfl
theorem sn9 : 9 < 106 := by decide
theorem sh10 : shp 10 = (7, 12) := rfl
theorem so10 : (shp 10).1 = 7 := rfl
theorem sn10 : 10 < 106 := by decide
theorem sh11 : shp 11 = (7, 10) := rfl
theorem so11 : (shp 11).1 = 7 := rfl
theorem sn11 : 11 < 106 := by decide
theorem sh12 : shp 12 = (7, 16) := rfl
theorem so12 : (shp 12).1 = 7 := rfl
theorem sn12 : 12 < 106 := by decide
theorem sh13 : shp 13 = (3, 2) := rfl
theorem so13 : (shp 13).1 = 3 := rfl
theorem sn13 : 13 < 106 := by decide
theorem sh14 : shp 14 = (10, 6) := rfl
theorem so14 : (shp 14).1 = 10 := rfl
theorem sn14 : 14 < 106 := by decide
theorem sh15 : shp 15 = (0, 14) := rfl
theorem so15 : (shp 15).1 = 0 := rfl
theorem sn15 : 15 < 106 := by decide
theorem sh16 : shp 16 = (7, 10) := rfl
theorem so16 : (shp 16).1 = 7 := rfl
theorem sn16 : 16 < 106 := by decide
theorem sh17 : shp 17 = (7, 10) := rfl
theorem so17 : (shp 17).1 = 7 := rfl
theorem sn17 : 17 < 106 := by decide
theorem sh18 : shp 18 = (7, 16) := rfl
theorem so18 : (shp 18).1 = 7 := rfl
theorem sn18 : 18 < 106 := by decide
theorem sh19 : shp 19 = (7, 16) := rfl
theorem so19 : (shp 19).1 = 7 := rfl
theorem sn19 : 19 < 106 := by decide
theorem sh20 : shp 20 = (7, 16) := rfl
theorem so20 : (shp 20).1 = 7 := rfl
theorem sn20 : 20 < 106 := by decide
theorem sh21 : shp 21 = (7, 16) := rfl
theorem so21 : (shp 21).1 = 7 := rfl
theorem sn21 : 21 < 106 := by decide
theorem sh22 : shp 22 = (7, 12) := rfl
theorem so22 : (shp 22).1 = 7 := rfl
theorem sn22 : 22 < 106 := by decide
theorem sh23 : shp 23 = (7, 12) := rfl
theorem so23 : (shp 23).1 = 7 := rfl
theorem sn23 : 23 < 106 := by decide
theorem sh24 : shp 24 = (7, 12) := rfl
theorem so24 : (shp 24).1 = 7 := rfl
theorem sn24 : 24 < 106 := by decide
theorem sh25 : shp 25 = (7, 10) := rfl
theorem so25 : (shp 25).1 = 7 := rfl
theorem sn25 : 25 < 106 := by decide
theorem sh26 : shp 26 = (7, 16) := rfl
theorem so26 : (shp 26).1 = 7 := rfl
theorem sn26 : 26 < 106 := by decide
theorem sh27 : shp 27 = (0, 14) := rfl
theorem so27 : (shp 27).1 = 0 := rfl
theorem sn27 : 27 < 106 := by decide
theorem sh28 : shp 28 = (7, 10) := rfl
theorem so28 : (shp 28).1 = 7 := rfl
theorem sn28 : 28 < 106 := by decide
theorem sh29 : shp 29 = (7, 10) := rfl
theorem so29 : (shp 29).1 = 7 := rfl
theorem sn29 : 29 < 106 := by decide
theorem sh30 : shp 30 = (7, 16) := rfl
theorem so30 : (shp 30).1 = 7 := rfl
theorem sn30 : 30 < 106 := by decide
theorem sh31 : shp 31 = (7, 16) := rfl
theorem so31 : (shp 31).1 = 7 := rfl
theorem sn31 : 31 < 106 := by decide
theorem sh32 : shp 32 = (7, 16) := rfl
theorem so32 : (shp 32).1 = 7 := rfl
theorem sn32 : 32 < 106 := by decide
theorem sh33 : shp 33 = (7, 16) := rfl
theorem so33 : (shp 33).1 = 7 := rfl
theorem sn33 : 33 < 106 := by decide
theorem sh34 : shp 34 = (7, 12) := rfl
theorem so34 : (shp 34).1 = 7 := rfl
theorem sn34 : 34 < 106 := by decide
theorem sh35 : shp 35 = (7, 12) := rfl
theorem so35 : (shp 35).1 = 7 := rfl
theorem sn35 : 35 < 106 := by decide
theorem sh36 : shp 36 = (7, 12) := rfl
theorem so36 : (shp 36).1 = 7 := rfl
theorem sn36 : 36 < 106 := by decide
theorem sh37 : shp 37 = (7, 10) := rfl
theorem so37 : (shp 37).1 = 7 := rfl
theorem sn37 : 37 < 106 := by decide
theorem sh38 : shp 38 = (7, 16) := rfl
theorem so38 : (shp 38).1 = 7 := rfl
theorem sn38 : 38 < 106 := by decide
theorem sh39 : shp 39 = (0, 14) := rfl
theorem so39 : (shp 39).1 = 0 := rfl
theorem sn39 : 39 < 106 := by decide
theorem sh40 : shp 40 = (7, 10) := rfl
theorem so40 : (shp 40).1 = 7 := rfl
theorem sn40 : 40 < 106 := by decide
theorem sh41 : shp 41 = (7, 10) := rfl
theorem so41 : (shp 41).1 = 7 := rfl
theorem sn41 : 41 < 106 := by decide
theorem sh42 : shp 42 = (7, 16) := rfl
theorem so42 : (shp 42).1 = 7 := rfl
theorem sn42 : 42 < 106 := by decide
theorem sh43 : shp 43 = (7, 16) := rfl
theorem so43 : (shp 43).1 = 7 := rfl
theorem sn43 : 43 < 106 := by decide
theorem sh44 : shp 44 = (7, 16) := rfl
theorem so44 : (shp 44).1 = 7 := rfl
theorem sn44 : 44 < 106 := by decide
theorem sh45 : shp 45 = (7, 16) := rfl
theorem so45 : (shp 45).1 = 7 := rfl
theorem sn45 : 45 < 106 := by decide
theorem sh46 : shp 46 = (7, 12) := rfl
theorem so46 : (shp 46).1 = 7 := rfl
theorem sn46 : 46 < 106 := by decide
theorem sh47 : shp 47 = (7, 12) := rfl
theorem so47 : (shp 47).1 = 7 := rfl
theorem sn47 : 47 < 106 := by decide
theorem sh48 : shp 48 = (7, 12) := rfl
theorem so48 : (shp 48).1 = 7 := rfl
theorem sn48 : 48 < 106 := by decide
theorem sh49 : shp 49 = (7, 10) := rfl
theorem so49 : (shp 49).1 = 7 := rfl
theorem sn49 : 49 < 106 := by decide
theorem sh50 : shp 50 = (7, 16) := rfl
theorem so50 : (shp 50).1 = 7 := rfl
theorem sn50 : 50 < 106 := by decide
theorem sh51 : shp 51 = (0, 14) := rfl
theorem so51 : (shp 51).1 = 0 := rfl
theorem sn51 : 51 < 106 := by decide
theorem sh52 : shp 52 = (7, 10) := rfl
theorem so52 : (shp 52).1 = 7 := rfl
theorem sn52 : 52 < 106 := by decide
theorem sh53 : shp 53 = (7, 10) := rfl
theorem so53 : (shp 53).1 = 7 := rfl
theorem sn53 : 53 < 106 := by decide
theorem sh54 : shp 54 = (7, 16) := rfl
theorem so54 : (shp 54).1 = 7 := rfl
theorem sn54 : 54 < 106 := by decide
theorem sh55 : shp 55 = (7, 16) := rfl
theorem so55 : (shp 55).1 = 7 := rfl
theorem sn55 : 55 < 106 := by decide
theorem sh56 : shp 56 = (7, 16) := rfl
theorem so56 : (shp 56).1 = 7 := rfl
theorem sn56 : 56 < 106 := by decide
theorem sh57 : shp 57 = (7, 16) := rfl
theorem so57 : (shp 57).1 = 7 := rfl
theorem sn57 : 57 < 106 := by decide
theorem sh58 : shp 58 = (7, 12) := rfl
theorem so58 : (shp 58).1 = 7 := rfl
theorem sn58 : 58 < 106 := by decide
theorem sh59 : shp 59 = (7, 12) := rfl
theorem so59 : (shp 59).1 = 7 := rfl
theorem sn59 : 59 < 106 := by decide
theorem sh60 : shp 60 = (7, 12) := rfl
theorem so60 : (shp 60).1 = 7 := rfl
theorem sn60 : 60 < 106 := by decide
theorem sh61 : shp 61 = (7, 10) := rfl
theorem so61 : (shp 61).1 = 7 := rfl
theorem sn61 : 61 < 106 := by decide
theorem sh62 : shp 62 = (7, 16) := rfl
theorem so62 : (shp 62).1 = 7 := rfl
theorem sn62 : 62 < 106 := by decide
theorem sh63 : shp 63 = (0, 14) := rfl
theorem so63 : (shp 63).1 = 0 := rfl
theorem sn63 : 63 < 106 := by decide
theorem sh64 : shp 64 = (7, 10) := rfl
theorem so64 : (shp 64).1 = 7 := rfl
theorem sn64 : 64 < 106 := by decide
theorem sh65 : shp 65 = (7, 10) := rfl
theorem so65 : (shp 65).1 = 7 := rfl
theorem sn65 : 65 < 106 := by decide
theorem sh66 : shp 66 = (7, 16) := rfl
theorem so66 : (shp 66).1 = 7 := rfl
theorem sn66 : 66 < 106 := by decide
theorem sh67 : shp 67 = (7, 16) := rfl
theorem so67 : (shp 67).1 = 7 := rfl
theorem sn67 : 67 < 106 := by decide
theorem sh68 : shp 68 = (7, 16) := rfl
theorem so68 : (shp 68).1 = 7 := rfl
theorem sn68 : 68 < 106 := by decide
theorem sh69 : shp 69 = (7, 16) := rfl
theorem so69 : (shp 69).1 = 7 := rfl
theorem sn69 : 69 < 106 := by decide
theorem sh70 : shp 70 = (7, 12) := rfl
theorem so70 : (shp 70).1 = 7 := rfl
theorem sn70 : 70 < 106 := by decide
theorem sh71 : shp 71 = (7, 12) := rfl
theorem so71 : (shp 71).1 = 7 := rfl
theorem sn71 : 71 < 106 := by decide
theorem sh72 : shp 72 = (7, 12) := rfl
theorem so72 : (shp 72).1 = 7 := rfl
theorem sn72 : 72 < 106 := by decide
theorem sh73 : shp 73 = (7, 10) := rfl
theorem so73 : (shp 73).1 = 7 := rfl
theorem sn73 : 73 < 106 := by decide
theorem sh74 : shp 74 = (7, 16) := rfl
theorem so74 : (shp 74).1 = 7 := rfl
theorem sn74 : 74 < 106 := by decide
theorem sh75 : shp 75 = (0, 14) := rfl
theorem so75 : (shp 75).1 = 0 := rfl
theorem sn75 : 75 < 106 := by decide
theorem sh76 : shp 76 = (7, 10) := rfl
theorem so76 : (shp 76).1 = 7 := rfl
theorem sn76 : 76 < 106 := by decide
theorem sh77 : shp 77 = (7, 10) := rfl
theorem so77 : (shp 77).1 = 7 := rfl
theorem sn77 : 77 < 106 := by decide
theorem sh78 : shp 78 = (7, 16) := rfl
theorem so78 : (shp 78).1 = 7 := rfl
theorem sn78 : 78 < 106 := by decide
theorem sh79 : shp 79 = (7, 16) := rfl
theorem so79 : (shp 79).1 = 7 := rfl
theorem sn79 : 79 < 106 := by decide
theorem sh80 : shp 80 = (7, 16) := rfl
theorem so80 : (shp 80).1 = 7 := rfl
theorem sn80 : 80 < 106 := by decide
theorem sh81 : shp 81 = (7, 16) := rfl
theorem so81 : (shp 81).1 = 7 := rfl
theorem sn81 : 81 < 106 := by decide
theorem sh82 : shp 82 = (7, 12) := rfl
theorem so82 : (shp 82).1 = 7 := rfl
theorem sn82 : 82 < 106 := by decide
theorem sh83 : shp 83 = (7, 12) := rfl
theorem so83 : (shp 83).1 = 7 := rfl
theorem sn83 : 83 < 106 := by decide
theorem sh84 : shp 84 = (7, 12) := rfl
theorem so84 : (shp 84).1 = 7 := rfl
theorem sn84 : 84 < 106 := by decide
theorem sh85 : shp 85 = (7, 10) := rfl
theorem so85 : (shp 85).1 = 7 := rfl
theorem sn85 : 85 < 106 := by decide
theorem sh86 : shp 86 = (7, 16) := rfl
theorem so86 : (shp 86).1 = 7 := rfl
theorem sn86 : 86 < 106 := by decide
theorem sh87 : shp 87 = (1, 4) := rfl
theorem so87 : (shp 87).1 = 1 := rfl
theorem sn87 : 87 < 106 := by decide
theorem sh88 : shp 88 = (9, 10) := rfl
theorem so88 : (shp 88).1 = 9 := rfl
theorem sn88 : 88 < 106 := by decide
theorem sh89 : shp 89 = (7, 10) := rfl
theorem so89 : (shp 89).1 = 7 := rfl
theorem sn89 : 89 < 106 := by decide
theorem sh90 : shp 90 = (4, 2) := rfl
theorem so90 : (shp 90).1 = 4 := rfl
theorem sn90 : 90 < 106 := by decide
theorem sh91 : shp 91 = (7, 45) := rfl
theorem so91 : (shp 91).1 = 7 := rfl
theorem sn91 : 91 < 106 := by decide
theorem sh92 : shp 92 = (2, 6) := rfl
theorem so92 : (shp 92).1 = 2 := rfl
theorem sn92 : 92 < 106 := by decide
theorem sh93 : shp 93 = (7, 40) := rfl
theorem so93 : (shp 93).1 = 7 := rfl
theorem sn93 : 93 < 106 := by decide
theorem sh94 : shp 94 = (7, 160) := rfl
theorem so94 : (shp 94).1 = 7 := rfl
theorem sn94 : 94 < 106 := by decide
theorem sh95 : shp 95 = (8, 120) := rfl
theorem so95 : (shp 95).1 = 8 := rfl
theorem sn95 : 95 < 106 := by decide
theorem sh96 : shp 96 = (6, 15) := rfl
theorem so96 : (shp 96).1 = 6 := rfl
theorem sn96 : 96 < 106 := by decide
theorem sh97 : shp 97 = (7, 123) := rfl
theorem so97 : (shp 97).1 = 7 := rfl
theorem sn97 : 97 < 106 := by decide
theorem sh98 : shp 98 = (7, 123) := rfl
theorem so98 : (shp 98).1 = 7 := rfl
theorem sn98 : 98 < 106 := by decide
theorem sh99 : shp 99 = (7, 615) := rfl
theorem so99 : (shp 99).1 = 7 := rfl
theorem sn99 : 99 < 106 := by decide
theorem sh100 : shp 100 = (7, 3) := rfl
theorem so100 : (shp 100).1 = 7 := rfl
theorem sn100 : 100 < 106 := by decide
theorem sh101 : shp 101 = (9, 10) := rfl
theorem so101 : (shp 101).1 = 9 := rfl
theorem sn101 : 101 < 106 := by decide
theorem sh102 : shp 102 = (7, 10) := rfl
theorem so102 : (shp 102).1 = 7 := rfl
theorem sn102 : 102 < 106 := by decide
theorem sh103 : shp 103 = (7, 120) := rfl
theorem so103 : (shp 103).1 = 7 := rfl
theorem sn103 : 103 < 106 := by decide
theorem sh104 : shp 104 = (7, 40) := rfl
theorem so104 : (shp 104).1 = 7 := rfl
theorem sn104 : 104 < 106 := by decide
theorem sh105 : shp 105 = (7, 160) := rfl
theorem so105 : (shp 105).1 = 7 := rfl
theorem sn105 : 105 < 106 := by decide
theorem k0_0 (p : Nat → Nat) : KK p 0 0 = some 1 := rfl
theorem k0_1 (p : Nat → Nat) : KK p 0 1 = some 13 := rfl
theorem k0_2 (p : Nat → Nat) : KK p 0 2 = some 87 := rfl
theorem k0_3 (p : Nat → Nat) : KK p 0 3 = some 90 := rfl
theorem k0_4 (p : Nat → Nat) : KK p 0 4 = some 92 := rfl
theorem k0_5 (p : Nat → Nat) : KK p 0 5 = some 95 := rfl
theorem k1_1 (p : Nat → Nat) : KK p 1 1 = some 2 := rfl
theorem k1_2 (p : Nat → Nat) : KK p 1 2 = some 3 := rfl
theorem k1_4 (p : Nat → Nat) : KK p 1 4 = some 4 := rfl
theorem k1_5 (p : Nat → Nat) : KK p 1 5 = some 5 := rfl
theorem k1_6 (p : Nat → Nat) : KK p 1 6 = some 6 := rfl
theorem k1_7 (p : Nat → Nat) : KK p 1 7 = some 7 := rfl
theorem k1_9 (p : Nat → Nat) : KK p 1 9 = some 8 := rfl
theorem k1_10 (p : Nat → Nat) : KK p 1 10 = some 9 := rfl
theorem k1_11 (p : Nat → Nat) : KK p 1 11 = some 10 := rfl
theorem k1_12 (p : Nat → Nat) : KK p 1 12 = some 11 := rfl
theorem k1_13 (p : Nat → Nat) : KK p 1 13 = some 12 := rfl
theorem k13_0 (p : Nat → Nat) : KK p 13 0 = some 14 := rfl
theorem k15_1 (p : Nat → Nat) : KK p 15 1 = some 16 := rfl
theorem k15_2 (p : Nat → Nat) : KK p 15 2 = some 17 := rfl
theorem k15_4 (p : Nat → Nat) : KK p 15 4 = some 18 := rfl
theorem k15_5 (p : Nat → Nat) : KK p 15 5 = some 19 := rfl
theorem k15_6 (p : Nat → Nat) : KK p 15 6 = some 20 := rfl
theorem k15_7 (p : Nat → Nat) : KK p 15 7 = some 21 := rfl
theorem k15_9 (p : Nat → Nat) : KK p 15 9 = some 22 := rfl
theorem k15_10 (p : Nat → Nat) : KK p 15 10 = some 23 := rfl
theorem k15_11 (p : Nat → Nat) : KK p 15 11 = some 24 := rfl
theorem k15_12 (p : Nat → Nat) : KK p 15 12 = some 25 := rfl
theorem k15_13 (p : Nat → Nat) : KK p 15 13 = some 26 := rfl
theorem k27_1 (p : Nat → Nat) : KK p 27 1 = some 28 := rfl
theorem k27_2 (p : Nat → Nat) : KK p 27 2 = some 29 := rfl
theorem k27_4 (p : Nat → Nat) : KK p 27 4 = some 30 := rfl
theorem k27_5 (p : Nat → Nat) : KK p 27 5 = some 31 := rfl
theorem k27_6 (p : Nat → Nat) : KK p 27 6 = some 32 := rfl
theorem k27_7 (p : Nat → Nat) : KK p 27 7 = some 33 := rfl
theorem k27_9 (p : Nat → Nat) : KK p 27 9 = some 34 := rfl
theorem k27_10 (p : Nat → Nat) : KK p 27 10 = some 35 := rfl
theorem k27_11 (p : Nat → Nat) : KK p 27 11 = some 36 := rfl
theorem k27_12 (p : Nat → Nat) : KK p 27 12 = some 37 := rfl
theorem k27_13 (p : Nat → Nat) : KK p 27 13 = some 38 := rfl
theorem k39_1 (p : Nat → Nat) : KK p 39 1 = some 40 := rfl
theorem k39_2 (p : Nat → Nat) : KK p 39 2 = some 41 := rfl
theorem k39_4 (p : Nat → Nat) : KK p 39 4 = some 42 := rfl
theorem k39_5 (p : Nat → Nat) : KK p 39 5 = some 43 := rfl
theorem k39_6 (p : Nat → Nat) : KK p 39 6 = some 44 := rfl
theorem k39_7 (p : Nat → Nat) : KK p 39 7 = some 45 := rfl
theorem k39_9 (p : Nat → Nat) : KK p 39 9 = some 46 := rfl
theorem k39_10 (p : Nat → Nat) : KK p 39 10 = some 47 := rfl
theorem k39_11 (p : Nat → Nat) : KK p 39 11 = some 48 := rfl
theorem k39_12 (p : Nat → Nat) : KK p 39 12 = some 49 := rfl
theorem k39_13 (p : Nat → Nat) : KK p 39 13 = some 50 := rfl
theorem k51_1 (p : Nat → Nat) : KK p 51 1 = some 52 := rfl
theorem k51_2 (p : Nat → Nat) : KK p 51 2 = some 53 := rfl
theorem k51_4 (p : Nat → Nat) : KK p 51 4 = some 54 := rfl
theorem k51_5 (p : Nat → Nat) : KK p 51 5 = some 55 := rfl
theorem k51_6 (p : Nat → Nat) : KK p 51 6 = some 56 := rfl
theorem k51_7 (p : Nat → Nat) : KK p 51 7 = some 57 := rfl
theorem k51_9 (p : Nat → Nat) : KK p 51 9 = some 58 := rfl
theorem k51_10 (p : Nat → Nat) : KK p 51 10 = some 59 := rfl
theorem k51_11 (p : Nat → Nat) : KK p 51 11 = some 60 := rfl
theorem k51_12 (p : Nat → Nat) : KK p 51 12 = some 61 := rfl
theorem k51_13 (p : Nat → Nat) : KK p 51 13 = some 62 := rfl
theorem k63_1 (p : Nat → Nat) : KK p 63 1 = some 64 := rfl
theorem k63_2 (p : Nat → Nat) : KK p 63 2 = some 65 := rfl
theorem k63_4 (p : Nat → Nat) : KK p 63 4 = some 66 := rfl
theorem k63_5 (p : Nat → Nat) : KK p 63 5 = some 67 := rfl
theorem k63_6 (p : Nat → Nat) : KK p 63 6 = some 68 := rfl
theorem k63_7 (p : Nat → Nat) : KK p 63 7 = some 69 := rfl
theorem k63_9 (p : Nat → Nat) : KK p 63 9 = some 70 := rfl
theorem k63_10 (p : Nat → Nat) : KK p 63 10 = some 71 := rfl
theorem k63_11 (p : Nat → Nat) : KK p 63 11 = some 72 := rfl
theorem k63_12 (p : Nat → Nat) : KK p 63 12 = some 73 := rfl
theorem k63_13 (p : Nat → Nat) : KK p 63 13 = some 74 := rfl
theorem k75_1 (p : Nat → Nat) : KK p 75 1 = some 76 := rfl
theorem k75_2 (p : Nat → Nat) : KK p 75 2 = some 77 := rfl
theorem k75_4 (p : Nat → Nat) : KK p 75 4 = some 78 := rfl
theorem k75_5 (p : Nat → Nat) : KK p 75 5 = some 79 := rfl
theorem k75_6 (p : Nat → Nat) : KK p 75 6 = some 80 := rfl
theorem k75_7 (p : Nat → Nat) : KK p 75 7 = some 81 := rfl
theorem k75_9 (p : Nat → Nat) : KK p 75 9 = some 82 := rfl
theorem k75_10 (p : Nat → Nat) : KK p 75 10 = some 83 := rfl
theorem k75_11 (p : Nat → Nat) : KK p 75 11 = some 84 := rfl
theorem k75_12 (p : Nat → Nat) : KK p 75 12 = some 85 := rfl
theorem k75_13 (p : Nat → Nat) : KK p 75 13 = some 86 := rfl
theorem k87_0 (p : Nat → Nat) : KK p 87 0 = some 1 := rfl
theorem k87_1 (p : Nat → Nat) : KK p 87 1 = some 88 := rfl
theorem k87_2 (p : Nat → Nat) : KK p 87 2 = some 89 := rfl
theorem k90_0 (p : Nat → Nat) : KK p 90 0 = some 91 := rfl
theorem k92_0 (p : Nat → Nat) : KK p 92 0 = some 93 := rfl
theorem k92_1 (p : Nat → Nat) : KK p 92 1 = some 94 := rfl
theorem k96_0 (p : Nat → Nat) : KK p 96 0 = some 97 := rfl
theorem k96_1 (p : Nat → Nat) : KK p 96 1 = some 98 := rfl
theorem k96_2 (p : Nat → Nat) : KK p 96 2 = some 99 := rfl
theorem k96_4 (p : Nat → Nat) : KK p 96 4 = some 100 := rfl
theorem k96_5 (p : Nat → Nat) : KK p 96 5 = some 101 := rfl
theorem k96_6 (p : Nat → Nat) : KK p 96 6 = some 102 := rfl
theorem k96_7 (p : Nat → Nat) : KK p 96 7 = some 103 := rfl
theorem k96_12 (p : Nat → Nat) : KK p 96 12 = some 104 := rfl
theorem k96_13 (p : Nat → Nat) : KK p 96 13 = some 105 := rfl
theorem b01 {c : Prop} [Decidable c] : (if c then (1 : Int32) else 0) = 0 ∨ (if c then (1 : Int32) else 0) = 1 := by split <;> simp
theorem b10 {c : Prop} [Decidable c] : (if c then (0 : Int32) else 1) = 0 ∨ (if c then (0 : Int32) else 1) = 1 := by split <;> simp
theorem ydX0_init : yX0_init.cls ≠ "java/lang/invoke/MethodHandle" ∧ yX0_init.cls ≠ "java/lang/invoke/VarHandle" ∧ (parseMethodDescriptor yX0_init.desc).map (fun d => d.parameters.length) = some 0 := by decide +kernel
def rmX0_init : Room := { frames := 1, cells := 11, slots := 146, locals := 20 }
theorem ydX0_hasShaft : yX0_hasShaft.cls ≠ "java/lang/invoke/MethodHandle" ∧ yX0_hasShaft.cls ≠ "java/lang/invoke/VarHandle" ∧ (parseMethodDescriptor yX0_hasShaft.desc).map (fun d => d.parameters.length) = some 1 := by decide +kernel
def rmX0_hasShaft : Room := { frames := 1, cells := 0, slots := 0, locals := 22 }
theorem ydX0_hasPipe : yX0_hasPipe.cls ≠ "java/lang/invoke/MethodHandle" ∧ yX0_hasPipe.cls ≠ "java/lang/invoke/VarHandle" ∧ (parseMethodDescriptor yX0_hasPipe.desc).map (fun d => d.parameters.length) = some 1 := by decide +kernel
def rmX0_hasPipe : Room := { frames := 1, cells := 0, slots := 0, locals := 22 }
theorem ydX0_addShaft : yX0_addShaft.cls ≠ "java/lang/invoke/MethodHandle" ∧ yX0_addShaft.cls ≠ "java/lang/invoke/VarHandle" ∧ (parseMethodDescriptor yX0_addShaft.desc).map (fun d => d.parameters.length) = some 2 := by decide +kernel
def rmX0_addShaft : Room := { frames := 3, cells := 0, slots := 0, locals := 63 }
theorem ydX0_changeShaft : yX0_changeShaft.cls ≠ "java/lang/invoke/MethodHandle" ∧ yX0_changeShaft.cls ≠ "java/lang/invoke/VarHandle" ∧ (parseMethodDescriptor yX0_changeShaft.desc).map (fun d => d.parameters.length) = some 3 := by decide +kernel
def rmX0_changeShaft : Room := { frames := 2, cells := 0, slots := 0, locals := 43 }
theorem ydX0_addPipe : yX0_addPipe.cls ≠ "java/lang/invoke/MethodHandle" ∧ yX0_addPipe.cls ≠ "java/lang/invoke/VarHandle" ∧ (parseMethodDescriptor yX0_addPipe.desc).map (fun d => d.parameters.length) = some 4 := by decide +kernel
def rmX0_addPipe : Room := { frames := 3, cells := 0, slots := 0, locals := 63 }
theorem ydX0_dropPipe : yX0_dropPipe.cls ≠ "java/lang/invoke/MethodHandle" ∧ yX0_dropPipe.cls ≠ "java/lang/invoke/VarHandle" ∧ (parseMethodDescriptor yX0_dropPipe.desc).map (fun d => d.parameters.length) = some 1 := by decide +kernel
def rmX0_dropPipe : Room := { frames := 3, cells := 0, slots := 0, locals := 63 }
theorem ydX0_addSight : yX0_addSight.cls ≠ "java/lang/invoke/MethodHandle" ∧ yX0_addSight.cls ≠ "java/lang/invoke/VarHandle" ∧ (parseMethodDescriptor yX0_addSight.desc).map (fun d => d.parameters.length) = some 3 := by decide +kernel
def rmX0_addSight : Room := { frames := 2, cells := 0, slots := 0, locals := 43 }
theorem ydX0_dropSights : yX0_dropSights.cls ≠ "java/lang/invoke/MethodHandle" ∧ yX0_dropSights.cls ≠ "java/lang/invoke/VarHandle" ∧ (parseMethodDescriptor yX0_dropSights.desc).map (fun d => d.parameters.length) = some 0 := by decide +kernel
def rmX0_dropSights : Room := { frames := 0, cells := 0, slots := 0, locals := 0 }
theorem ydX0_isBelow : yX0_isBelow.cls ≠ "java/lang/invoke/MethodHandle" ∧ yX0_isBelow.cls ≠ "java/lang/invoke/VarHandle" ∧ (parseMethodDescriptor yX0_isBelow.desc).map (fun d => d.parameters.length) = some 2 := by decide +kernel
def rmX0_isBelow : Room := { frames := 0, cells := 0, slots := 0, locals := 0 }
theorem ydX0_above : yX0_above.cls ≠ "java/lang/invoke/MethodHandle" ∧ yX0_above.cls ≠ "java/lang/invoke/VarHandle" ∧ (parseMethodDescriptor yX0_above.desc).map (fun d => d.parameters.length) = some 1 := by decide +kernel
def rmX0_above : Room := { frames := 1, cells := 0, slots := 0, locals := 22 }
theorem ydX0_pipesAt : yX0_pipesAt.cls ≠ "java/lang/invoke/MethodHandle" ∧ yX0_pipesAt.cls ≠ "java/lang/invoke/VarHandle" ∧ (parseMethodDescriptor yX0_pipesAt.desc).map (fun d => d.parameters.length) = some 2 := by decide +kernel
def rmX0_pipesAt : Room := { frames := 0, cells := 0, slots := 0, locals := 0 }
theorem ydX0_leaving : yX0_leaving.cls ≠ "java/lang/invoke/MethodHandle" ∧ yX0_leaving.cls ≠ "java/lang/invoke/VarHandle" ∧ (parseMethodDescriptor yX0_leaving.desc).map (fun d => d.parameters.length) = some 2 := by decide +kernel
def rmX0_leaving : Room := { frames := 1, cells := 0, slots := 0, locals := 27 }
theorem ydX0_brought : yX0_brought.cls ≠ "java/lang/invoke/MethodHandle" ∧ yX0_brought.cls ≠ "java/lang/invoke/VarHandle" ∧ (parseMethodDescriptor yX0_brought.desc).map (fun d => d.parameters.length) = some 2 := by decide +kernel
def rmX0_brought : Room := { frames := 0, cells := 0, slots := 0, locals := 0 }
theorem ydX0_copyFrom : yX0_copyFrom.cls ≠ "java/lang/invoke/MethodHandle" ∧ yX0_copyFrom.cls ≠ "java/lang/invoke/VarHandle" ∧ (parseMethodDescriptor yX0_copyFrom.desc).map (fun d => d.parameters.length) = some 1 := by decide +kernel
def rmX0_copyFrom : Room := { frames := 2, cells := 0, slots := 0, locals := 47 }
theorem ydX0_findWays : yX0_findWays.cls ≠ "java/lang/invoke/MethodHandle" ∧ yX0_findWays.cls ≠ "java/lang/invoke/VarHandle" ∧ (parseMethodDescriptor yX0_findWays.desc).map (fun d => d.parameters.length) = some 0 := by decide +kernel
def rmX0_findWays : Room := { frames := 2, cells := 0, slots := 0, locals := 43 }
theorem ydX0_findBelow : yX0_findBelow.cls ≠ "java/lang/invoke/MethodHandle" ∧ yX0_findBelow.cls ≠ "java/lang/invoke/VarHandle" ∧ (parseMethodDescriptor yX0_findBelow.desc).map (fun d => d.parameters.length) = some 0 := by decide +kernel
def rmX0_findBelow : Room := { frames := 0, cells := 0, slots := 0, locals := 0 }
theorem ydX0_findRoute : yX0_findRoute.cls ≠ "java/lang/invoke/MethodHandle" ∧ yX0_findRoute.cls ≠ "java/lang/invoke/VarHandle" ∧ (parseMethodDescriptor yX0_findRoute.desc).map (fun d => d.parameters.length) = some 0 := by decide +kernel
def rmX0_findRoute : Room := { frames := 1, cells := 0, slots := 0, locals := 20 }
theorem ydX0_pumped : yX0_pumped.cls ≠ "java/lang/invoke/MethodHandle" ∧ yX0_pumped.cls ≠ "java/lang/invoke/VarHandle" ∧ (parseMethodDescriptor yX0_pumped.desc).map (fun d => d.parameters.length) = some 2 := by decide +kernel
def rmX0_pumped : Room := { frames := 0, cells := 0, slots := 0, locals := 0 }
theorem ydX0_isKind : yX0_isKind.cls ≠ "java/lang/invoke/MethodHandle" ∧ yX0_isKind.cls ≠ "java/lang/invoke/VarHandle" ∧ (parseMethodDescriptor yX0_isKind.desc).map (fun d => d.parameters.length) = some 1 := by decide +kernel
def rmX0_isKind : Room := { frames := 1, cells := 0, slots := 0, locals := 22 }
theorem ydX0_isPace : yX0_isPace.cls ≠ "java/lang/invoke/MethodHandle" ∧ yX0_isPace.cls ≠ "java/lang/invoke/VarHandle" ∧ (parseMethodDescriptor yX0_isPace.desc).map (fun d => d.parameters.length) = some 1 := by decide +kernel
def rmX0_isPace : Room := { frames := 1, cells := 0, slots := 0, locals := 22 }
theorem ydX0_copyRow : yX0_copyRow.cls ≠ "java/lang/invoke/MethodHandle" ∧ yX0_copyRow.cls ≠ "java/lang/invoke/VarHandle" ∧ (parseMethodDescriptor yX0_copyRow.desc).map (fun d => d.parameters.length) = some 2 := by decide +kernel
def rmX0_copyRow : Room := { frames := 1, cells := 0, slots := 0, locals := 26 }
theorem ydX1_init : yX1_init.cls ≠ "java/lang/invoke/MethodHandle" ∧ yX1_init.cls ≠ "java/lang/invoke/VarHandle" ∧ (parseMethodDescriptor yX1_init.desc).map (fun d => d.parameters.length) = some 1 := by decide +kernel
def rmX1_init : Room := { frames := 1, cells := 2, slots := 20, locals := 20 }
theorem ydX1_outdate : yX1_outdate.cls ≠ "java/lang/invoke/MethodHandle" ∧ yX1_outdate.cls ≠ "java/lang/invoke/VarHandle" ∧ (parseMethodDescriptor yX1_outdate.desc).map (fun d => d.parameters.length) = some 0 := by decide +kernel
def rmX1_outdate : Room := { frames := 0, cells := 0, slots := 0, locals := 0 }
theorem ydX1_walk : yX1_walk.cls ≠ "java/lang/invoke/MethodHandle" ∧ yX1_walk.cls ≠ "java/lang/invoke/VarHandle" ∧ (parseMethodDescriptor yX1_walk.desc).map (fun d => d.parameters.length) = some 2 := by decide +kernel
def rmX1_walk : Room := { frames := 2, cells := 0, slots := 0, locals := 51 }
theorem ydX1_agrees : yX1_agrees.cls ≠ "java/lang/invoke/MethodHandle" ∧ yX1_agrees.cls ≠ "java/lang/invoke/VarHandle" ∧ (parseMethodDescriptor yX1_agrees.desc).map (fun d => d.parameters.length) = some 0 := by decide +kernel
def rmX1_agrees : Room := { frames := 1, cells := 0, slots := 0, locals := 24 }
theorem ydX1_startsAt : yX1_startsAt.cls ≠ "java/lang/invoke/MethodHandle" ∧ yX1_startsAt.cls ≠ "java/lang/invoke/VarHandle" ∧ (parseMethodDescriptor yX1_startsAt.desc).map (fun d => d.parameters.length) = some 1 := by decide +kernel
def rmX1_startsAt : Room := { frames := 3, cells := 0, slots := 0, locals := 76 }
theorem ydX1_suspicious : yX1_suspicious.cls ≠ "java/lang/invoke/MethodHandle" ∧ yX1_suspicious.cls ≠ "java/lang/invoke/VarHandle" ∧ (parseMethodDescriptor yX1_suspicious.desc).map (fun d => d.parameters.length) = some 0 := by decide +kernel
def rmX1_suspicious : Room := { frames := 4, cells := 0, slots := 0, locals := 99 }
theorem ydX1_agreesWith : yX1_agreesWith.cls ≠ "java/lang/invoke/MethodHandle" ∧ yX1_agreesWith.cls ≠ "java/lang/invoke/VarHandle" ∧ (parseMethodDescriptor yX1_agreesWith.desc).map (fun d => d.parameters.length) = some 1 := by decide +kernel
def rmX1_agreesWith : Room := { frames := 0, cells := 0, slots := 0, locals := 0 }
theorem ydX2_init : yX2_init.cls ≠ "java/lang/invoke/MethodHandle" ∧ yX2_init.cls ≠ "java/lang/invoke/VarHandle" ∧ (parseMethodDescriptor yX2_init.desc).map (fun d => d.parameters.length) = some 0 := by decide +kernel
def rmX2_init : Room := { frames := 1, cells := 2, slots := 200, locals := 20 }
theorem ydX2_parse : yX2_parse.cls ≠ "java/lang/invoke/MethodHandle" ∧ yX2_parse.cls ≠ "java/lang/invoke/VarHandle" ∧ (parseMethodDescriptor yX2_parse.desc).map (fun d => d.parameters.length) = some 2 := by decide +kernel
def rmX2_parse : Room := { frames := 3, cells := 0, slots := 0, locals := 63 }
theorem ydX2_obey : yX2_obey.cls ≠ "java/lang/invoke/MethodHandle" ∧ yX2_obey.cls ≠ "java/lang/invoke/VarHandle" ∧ (parseMethodDescriptor yX2_obey.desc).map (fun d => d.parameters.length) = some 2 := by decide +kernel
def rmX2_obey : Room := { frames := 4, cells := 0, slots := 0, locals := 88 }
theorem ydX2_takes : yX2_takes.cls ≠ "java/lang/invoke/MethodHandle" ∧ yX2_takes.cls ≠ "java/lang/invoke/VarHandle" ∧ (parseMethodDescriptor yX2_takes.desc).map (fun d => d.parameters.length) = some 1 := by decide +kernel
def rmX2_takes : Room := { frames := 2, cells := 0, slots := 0, locals := 42 }
theorem ydX2_opens : yX2_opens.cls ≠ "java/lang/invoke/MethodHandle" ∧ yX2_opens.cls ≠ "java/lang/invoke/VarHandle" ∧ (parseMethodDescriptor yX2_opens.desc).map (fun d => d.parameters.length) = some 1 := by decide +kernel
def rmX2_opens : Room := { frames := 1, cells := 0, slots := 0, locals := 20 }
theorem ydX2_closes : yX2_closes.cls ≠ "java/lang/invoke/MethodHandle" ∧ yX2_closes.cls ≠ "java/lang/invoke/VarHandle" ∧ (parseMethodDescriptor yX2_closes.desc).map (fun d => d.parameters.length) = some 0 := by decide +kernel
def rmX2_closes : Room := { frames := 1, cells := 0, slots := 0, locals := 20 }
theorem ydX2_takesFigure : yX2_takesFigure.cls ≠ "java/lang/invoke/MethodHandle" ∧ yX2_takesFigure.cls ≠ "java/lang/invoke/VarHandle" ∧ (parseMethodDescriptor yX2_takesFigure.desc).map (fun d => d.parameters.length) = some 1 := by decide +kernel
def rmX2_takesFigure : Room := { frames := 1, cells := 0, slots := 0, locals := 20 }
theorem ydX2_numbersOf : yX2_numbersOf.cls ≠ "java/lang/invoke/MethodHandle" ∧ yX2_numbersOf.cls ≠ "java/lang/invoke/VarHandle" ∧ (parseMethodDescriptor yX2_numbersOf.desc).map (fun d => d.parameters.length) = some 1 := by decide +kernel
def rmX2_numbersOf : Room := { frames := 0, cells := 0, slots := 0, locals := 0 }
theorem ydX3_init : yX3_init.cls ≠ "java/lang/invoke/MethodHandle" ∧ yX3_init.cls ≠ "java/lang/invoke/VarHandle" ∧ (parseMethodDescriptor yX3_init.desc).map (fun d => d.parameters.length) = some 0 := by decide +kernel
def rmX3_init : Room := { frames := 2, cells := 73, slots := 966, locals := 40 }
theorem ydX3_mark : yX3_mark.cls ≠ "java/lang/invoke/MethodHandle" ∧ yX3_mark.cls ≠ "java/lang/invoke/VarHandle" ∧ (parseMethodDescriptor yX3_mark.desc).map (fun d => d.parameters.length) = some 1 := by decide +kernel
def rmX3_mark : Room := { frames := 3, cells := 0, slots := 0, locals := 68 }
theorem ydX3_toMark : yX3_toMark.cls ≠ "java/lang/invoke/MethodHandle" ∧ yX3_toMark.cls ≠ "java/lang/invoke/VarHandle" ∧ (parseMethodDescriptor yX3_toMark.desc).map (fun d => d.parameters.length) = some 1 := by decide +kernel
def rmX3_toMark : Room := { frames := 3, cells := 0, slots := 0, locals := 68 }
theorem ydX3_keep : yX3_keep.cls ≠ "java/lang/invoke/MethodHandle" ∧ yX3_keep.cls ≠ "java/lang/invoke/VarHandle" ∧ (parseMethodDescriptor yX3_keep.desc).map (fun d => d.parameters.length) = some 0 := by decide +kernel
def rmX3_keep : Room := { frames := 0, cells := 0, slots := 0, locals := 0 }
theorem ydX3_undo : yX3_undo.cls ≠ "java/lang/invoke/MethodHandle" ∧ yX3_undo.cls ≠ "java/lang/invoke/VarHandle" ∧ (parseMethodDescriptor yX3_undo.desc).map (fun d => d.parameters.length) = some 1 := by decide +kernel
def rmX3_undo : Room := { frames := 3, cells := 0, slots := 0, locals := 68 }
theorem ydX4_init : yX4_init.cls ≠ "java/lang/invoke/MethodHandle" ∧ yX4_init.cls ≠ "java/lang/invoke/VarHandle" ∧ (parseMethodDescriptor yX4_init.desc).map (fun d => d.parameters.length) = some 0 := by decide +kernel
def rmX4_init : Room := { frames := 1, cells := 1, slots := 45, locals := 20 }
theorem ydX4_compare : yX4_compare.cls ≠ "java/lang/invoke/MethodHandle" ∧ yX4_compare.cls ≠ "java/lang/invoke/VarHandle" ∧ (parseMethodDescriptor yX4_compare.desc).map (fun d => d.parameters.length) = some 1 := by decide +kernel
def rmX4_compare : Room := { frames := 0, cells := 0, slots := 0, locals := 0 }
theorem ydX4_untold : yX4_untold.cls ≠ "java/lang/invoke/MethodHandle" ∧ yX4_untold.cls ≠ "java/lang/invoke/VarHandle" ∧ (parseMethodDescriptor yX4_untold.desc).map (fun d => d.parameters.length) = some 1 := by decide +kernel
def rmX4_untold : Room := { frames := 0, cells := 0, slots := 0, locals := 0 }
theorem ydX4_fewest : yX4_fewest.cls ≠ "java/lang/invoke/MethodHandle" ∧ yX4_fewest.cls ≠ "java/lang/invoke/VarHandle" ∧ (parseMethodDescriptor yX4_fewest.desc).map (fun d => d.parameters.length) = some 1 := by decide +kernel
def rmX4_fewest : Room := { frames := 1, cells := 0, slots := 0, locals := 22 }
theorem ydX4_tellsAll : yX4_tellsAll.cls ≠ "java/lang/invoke/MethodHandle" ∧ yX4_tellsAll.cls ≠ "java/lang/invoke/VarHandle" ∧ (parseMethodDescriptor yX4_tellsAll.desc).map (fun d => d.parameters.length) = some 1 := by decide +kernel
def rmX4_tellsAll : Room := { frames := 0, cells := 0, slots := 0, locals := 0 }
theorem ydX5_init : yX5_init.cls ≠ "java/lang/invoke/MethodHandle" ∧ yX5_init.cls ≠ "java/lang/invoke/VarHandle" ∧ (parseMethodDescriptor yX5_init.desc).map (fun d => d.parameters.length) = some 0 := by decide +kernel
def rmX5_init : Room := { frames := 3, cells := 95, slots := 1525, locals := 61 }
theorem ydX5_shaft : yX5_shaft.cls ≠ "java/lang/invoke/MethodHandle" ∧ yX5_shaft.cls ≠ "java/lang/invoke/VarHandle" ∧ (parseMethodDescriptor yX5_shaft.desc).map (fun d => d.parameters.length) = some 2 := by decide +kernel
def rmX5_shaft : Room := { frames := 4, cells := 0, slots := 0, locals := 89 }
theorem ydX5_sets : yX5_sets.cls ≠ "java/lang/invoke/MethodHandle" ∧ yX5_sets.cls ≠ "java/lang/invoke/VarHandle" ∧ (parseMethodDescriptor yX5_sets.desc).map (fun d => d.parameters.length) = some 3 := by decide +kernel
def rmX5_sets : Room := { frames := 4, cells := 0, slots := 0, locals := 89 }
theorem ydX5_pipe : yX5_pipe.cls ≠ "java/lang/invoke/MethodHandle" ∧ yX5_pipe.cls ≠ "java/lang/invoke/VarHandle" ∧ (parseMethodDescriptor yX5_pipe.desc).map (fun d => d.parameters.length) = some 4 := by decide +kernel
def rmX5_pipe : Room := { frames := 4, cells := 0, slots := 0, locals := 89 }
theorem ydX5_drops : yX5_drops.cls ≠ "java/lang/invoke/MethodHandle" ∧ yX5_drops.cls ≠ "java/lang/invoke/VarHandle" ∧ (parseMethodDescriptor yX5_drops.desc).map (fun d => d.parameters.length) = some 1 := by decide +kernel
def rmX5_drops : Room := { frames := 4, cells := 0, slots := 0, locals := 89 }
theorem ydX5_of : yX5_of.cls ≠ "java/lang/invoke/MethodHandle" ∧ yX5_of.cls ≠ "java/lang/invoke/VarHandle" ∧ (parseMethodDescriptor yX5_of.desc).map (fun d => d.parameters.length) = some 2 := by decide +kernel
def rmX5_of : Room := { frames := 2, cells := 0, slots := 0, locals := 45 }
theorem ydX5_about : yX5_about.cls ≠ "java/lang/invoke/MethodHandle" ∧ yX5_about.cls ≠ "java/lang/invoke/VarHandle" ∧ (parseMethodDescriptor yX5_about.desc).map (fun d => d.parameters.length) = some 2 := by decide +kernel
def rmX5_about : Room := { frames := 2, cells := 0, slots := 0, locals := 43 }
theorem ydX5_comes : yX5_comes.cls ≠ "java/lang/invoke/MethodHandle" ∧ yX5_comes.cls ≠ "java/lang/invoke/VarHandle" ∧ (parseMethodDescriptor yX5_comes.desc).map (fun d => d.parameters.length) = some 3 := by decide +kernel
def rmX5_comes : Room := { frames := 3, cells := 0, slots := 0, locals := 76 }
theorem ydX5_times : yX5_times.cls ≠ "java/lang/invoke/MethodHandle" ∧ yX5_times.cls ≠ "java/lang/invoke/VarHandle" ∧ (parseMethodDescriptor yX5_times.desc).map (fun d => d.parameters.length) = some 4 := by decide +kernel
def rmX5_times : Room := { frames := 3, cells := 0, slots := 0, locals := 76 }
theorem ydX5_leaves : yX5_leaves.cls ≠ "java/lang/invoke/MethodHandle" ∧ yX5_leaves.cls ≠ "java/lang/invoke/VarHandle" ∧ (parseMethodDescriptor yX5_leaves.desc).map (fun d => d.parameters.length) = some 2 := by decide +kernel
def rmX5_leaves : Room := { frames := 2, cells := 0, slots := 0, locals := 51 }
theorem ydX5_sight : yX5_sight.cls ≠ "java/lang/invoke/MethodHandle" ∧ yX5_sight.cls ≠ "java/lang/invoke/VarHandle" ∧ (parseMethodDescriptor yX5_sight.desc).map (fun d => d.parameters.length) = some 3 := by decide +kernel
def rmX5_sight : Room := { frames := 4, cells := 0, slots := 0, locals := 89 }
theorem ydX5_forget : yX5_forget.cls ≠ "java/lang/invoke/MethodHandle" ∧ yX5_forget.cls ≠ "java/lang/invoke/VarHandle" ∧ (parseMethodDescriptor yX5_forget.desc).map (fun d => d.parameters.length) = some 0 := by decide +kernel
def rmX5_forget : Room := { frames := 4, cells := 0, slots := 0, locals := 89 }
theorem ydX5_fits : yX5_fits.cls ≠ "java/lang/invoke/MethodHandle" ∧ yX5_fits.cls ≠ "java/lang/invoke/VarHandle" ∧ (parseMethodDescriptor yX5_fits.desc).map (fun d => d.parameters.length) = some 2 := by decide +kernel
def rmX5_fits : Room := { frames := 3, cells := 0, slots := 0, locals := 76 }
theorem ydX5_when : yX5_when.cls ≠ "java/lang/invoke/MethodHandle" ∧ yX5_when.cls ≠ "java/lang/invoke/VarHandle" ∧ (parseMethodDescriptor yX5_when.desc).map (fun d => d.parameters.length) = some 1 := by decide +kernel
def rmX5_when : Room := { frames := 4, cells := 0, slots := 0, locals := 99 }
theorem ydX5_suspects : yX5_suspects.cls ≠ "java/lang/invoke/MethodHandle" ∧ yX5_suspects.cls ≠ "java/lang/invoke/VarHandle" ∧ (parseMethodDescriptor yX5_suspects.desc).map (fun d => d.parameters.length) = some 0 := by decide +kernel
def rmX5_suspects : Room := { frames := 5, cells := 0, slots := 0, locals := 121 }
theorem ydX5_next : yX5_next.cls ≠ "java/lang/invoke/MethodHandle" ∧ yX5_next.cls ≠ "java/lang/invoke/VarHandle" ∧ (parseMethodDescriptor yX5_next.desc).map (fun d => d.parameters.length) = some 1 := by decide +kernel
def rmX5_next : Room := { frames := 5, cells := 0, slots := 0, locals := 121 }
theorem ydX5_alike : yX5_alike.cls ≠ "java/lang/invoke/MethodHandle" ∧ yX5_alike.cls ≠ "java/lang/invoke/VarHandle" ∧ (parseMethodDescriptor yX5_alike.desc).map (fun d => d.parameters.length) = some 1 := by decide +kernel
def rmX5_alike : Room := { frames := 1, cells := 0, slots := 0, locals := 23 }
theorem ydX5_sensors : yX5_sensors.cls ≠ "java/lang/invoke/MethodHandle" ∧ yX5_sensors.cls ≠ "java/lang/invoke/VarHandle" ∧ (parseMethodDescriptor yX5_sensors.desc).map (fun d => d.parameters.length) = some 1 := by decide +kernel
def rmX5_sensors : Room := { frames := 2, cells := 0, slots := 0, locals := 47 }
theorem ydX5_type : yX5_type.cls ≠ "java/lang/invoke/MethodHandle" ∧ yX5_type.cls ≠ "java/lang/invoke/VarHandle" ∧ (parseMethodDescriptor yX5_type.desc).map (fun d => d.parameters.length) = some 1 := by decide +kernel
def rmX5_type : Room := { frames := 1, cells := 0, slots := 0, locals := 22 }
theorem ydX5_clear : yX5_clear.cls ≠ "java/lang/invoke/MethodHandle" ∧ yX5_clear.cls ≠ "java/lang/invoke/VarHandle" ∧ (parseMethodDescriptor yX5_clear.desc).map (fun d => d.parameters.length) = some 0 := by decide +kernel
def rmX5_clear : Room := { frames := 0, cells := 0, slots := 0, locals := 0 }
theorem ydX5_reads : yX5_reads.cls ≠ "java/lang/invoke/MethodHandle" ∧ yX5_reads.cls ≠ "java/lang/invoke/VarHandle" ∧ (parseMethodDescriptor yX5_reads.desc).map (fun d => d.parameters.length) = some 0 := by decide +kernel
def rmX5_reads : Room := { frames := 5, cells := 0, slots := 0, locals := 113 }
theorem ydX5_back : yX5_back.cls ≠ "java/lang/invoke/MethodHandle" ∧ yX5_back.cls ≠ "java/lang/invoke/VarHandle" ∧ (parseMethodDescriptor yX5_back.desc).map (fun d => d.parameters.length) = some 0 := by decide +kernel
def rmX5_back : Room := { frames := 4, cells := 0, slots := 0, locals := 89 }
theorem ydX5_told : yX5_told.cls ≠ "java/lang/invoke/MethodHandle" ∧ yX5_told.cls ≠ "java/lang/invoke/VarHandle" ∧ (parseMethodDescriptor yX5_told.desc).map (fun d => d.parameters.length) = some 1 := by decide +kernel
def rmX5_told : Room := { frames := 1, cells := 0, slots := 0, locals := 21 }
theorem ydX5_digest : yX5_digest.cls ≠ "java/lang/invoke/MethodHandle" ∧ yX5_digest.cls ≠ "java/lang/invoke/VarHandle" ∧ (parseMethodDescriptor yX5_digest.desc).map (fun d => d.parameters.length) = some 0 := by decide +kernel
def rmX5_digest : Room := { frames := 6, cells := 0, slots := 0, locals := 147 }
theorem ydX5_digestShafts : yX5_digestShafts.cls ≠ "java/lang/invoke/MethodHandle" ∧ yX5_digestShafts.cls ≠ "java/lang/invoke/VarHandle" ∧ (parseMethodDescriptor yX5_digestShafts.desc).map (fun d => d.parameters.length) = some 1 := by decide +kernel
def rmX5_digestShafts : Room := { frames := 5, cells := 0, slots := 0, locals := 120 }
theorem ydX5_digestPipes : yX5_digestPipes.cls ≠ "java/lang/invoke/MethodHandle" ∧ yX5_digestPipes.cls ≠ "java/lang/invoke/VarHandle" ∧ (parseMethodDescriptor yX5_digestPipes.desc).map (fun d => d.parameters.length) = some 1 := by decide +kernel
def rmX5_digestPipes : Room := { frames := 3, cells := 0, slots := 0, locals := 65 }
theorem ydX5_isStart : yX5_isStart.cls ≠ "java/lang/invoke/MethodHandle" ∧ yX5_isStart.cls ≠ "java/lang/invoke/VarHandle" ∧ (parseMethodDescriptor yX5_isStart.desc).map (fun d => d.parameters.length) = some 2 := by decide +kernel
def rmX5_isStart : Room := { frames := 2, cells := 0, slots := 0, locals := 43 }
theorem ydX5_settled : yX5_settled.cls ≠ "java/lang/invoke/MethodHandle" ∧ yX5_settled.cls ≠ "java/lang/invoke/VarHandle" ∧ (parseMethodDescriptor yX5_settled.desc).map (fun d => d.parameters.length) = some 1 := by decide +kernel
def rmX5_settled : Room := { frames := 1, cells := 0, slots := 0, locals := 22 }
theorem ydX5_refused : yX5_refused.cls ≠ "java/lang/invoke/MethodHandle" ∧ yX5_refused.cls ≠ "java/lang/invoke/VarHandle" ∧ (parseMethodDescriptor yX5_refused.desc).map (fun d => d.parameters.length) = some 1 := by decide +kernel
def rmX5_refused : Room := { frames := 0, cells := 0, slots := 0, locals := 0 }
theorem ydX5_largerPart : yX5_largerPart.cls ≠ "java/lang/invoke/MethodHandle" ∧ yX5_largerPart.cls ≠ "java/lang/invoke/VarHandle" ∧ (parseMethodDescriptor yX5_largerPart.desc).map (fun d => d.parameters.length) = some 2 := by decide +kernel
def rmX5_largerPart : Room := { frames := 1, cells := 0, slots := 0, locals := 21 }
theorem ydX5_within : yX5_within.cls ≠ "java/lang/invoke/MethodHandle" ∧ yX5_within.cls ≠ "java/lang/invoke/VarHandle" ∧ (parseMethodDescriptor yX5_within.desc).map (fun d => d.parameters.length) = some 3 := by decide +kernel
def rmX5_within : Room := { frames := 0, cells := 0, slots := 0, locals := 0 }
theorem ydX6_init : yX6_init.cls ≠ "java/lang/invoke/MethodHandle" ∧ yX6_init.cls ≠ "java/lang/invoke/VarHandle" ∧ (parseMethodDescriptor yX6_init.desc).map (fun d => d.parameters.length) = some 0 := by decide +kernel
def rmX6_init : Room := { frames := 1, cells := 9, slots := 1204, locals := 20 }
theorem ydX6_in : yX6_in.cls ≠ "java/lang/invoke/MethodHandle" ∧ yX6_in.cls ≠ "java/lang/invoke/VarHandle" ∧ (parseMethodDescriptor yX6_in.desc).map (fun d => d.parameters.length) = some 3 := by decide +kernel
def rmX6_in : Room := { frames := 0, cells := 0, slots := 0, locals := 0 }
theorem ydX6_has : yX6_has.cls ≠ "java/lang/invoke/MethodHandle" ∧ yX6_has.cls ≠ "java/lang/invoke/VarHandle" ∧ (parseMethodDescriptor yX6_has.desc).map (fun d => d.parameters.length) = some 2 := by decide +kernel
def rmX6_has : Room := { frames := 0, cells := 0, slots := 0, locals := 0 }
theorem ydX6_ones : yX6_ones.cls ≠ "java/lang/invoke/MethodHandle" ∧ yX6_ones.cls ≠ "java/lang/invoke/VarHandle" ∧ (parseMethodDescriptor yX6_ones.desc).map (fun d => d.parameters.length) = some 1 := by decide +kernel
def rmX6_ones : Room := { frames := 1, cells := 0, slots := 0, locals := 21 }
theorem ydX6_refuses : yX6_refuses.cls ≠ "java/lang/invoke/MethodHandle" ∧ yX6_refuses.cls ≠ "java/lang/invoke/VarHandle" ∧ (parseMethodDescriptor yX6_refuses.desc).map (fun d => d.parameters.length) = some 1 := by decide +kernel
def rmX6_refuses : Room := { frames := 0, cells := 0, slots := 0, locals := 0 }
theorem ydX6_hold : yX6_hold.cls ≠ "java/lang/invoke/MethodHandle" ∧ yX6_hold.cls ≠ "java/lang/invoke/VarHandle" ∧ (parseMethodDescriptor yX6_hold.desc).map (fun d => d.parameters.length) = some 0 := by decide +kernel
def rmX6_hold : Room := { frames := 0, cells := 0, slots := 0, locals := 0 }
theorem ydX6_push : yX6_push.cls ≠ "java/lang/invoke/MethodHandle" ∧ yX6_push.cls ≠ "java/lang/invoke/VarHandle" ∧ (parseMethodDescriptor yX6_push.desc).map (fun d => d.parameters.length) = some 0 := by decide +kernel
def rmX6_push : Room := { frames := 0, cells := 0, slots := 0, locals := 0 }
theorem ydX6_ends : yX6_ends.cls ≠ "java/lang/invoke/MethodHandle" ∧ yX6_ends.cls ≠ "java/lang/invoke/VarHandle" ∧ (parseMethodDescriptor yX6_ends.desc).map (fun d => d.parameters.length) = some 1 := by decide +kernel
def rmX6_ends : Room := { frames := 1, cells := 0, slots := 0, locals := 21 }
theorem ydX6_back : yX6_back.cls ≠ "java/lang/invoke/MethodHandle" ∧ yX6_back.cls ≠ "java/lang/invoke/VarHandle" ∧ (parseMethodDescriptor yX6_back.desc).map (fun d => d.parameters.length) = some 0 := by decide +kernel
def rmX6_back : Room := { frames := 1, cells := 0, slots := 0, locals := 21 }
theorem ydX6_isShaft : yX6_isShaft.cls ≠ "java/lang/invoke/MethodHandle" ∧ yX6_isShaft.cls ≠ "java/lang/invoke/VarHandle" ∧ (parseMethodDescriptor yX6_isShaft.desc).map (fun d => d.parameters.length) = some 1 := by decide +kernel
def rmX6_isShaft : Room := { frames := 1, cells := 0, slots := 0, locals := 22 }
theorem ydX6_isPipe : yX6_isPipe.cls ≠ "java/lang/invoke/MethodHandle" ∧ yX6_isPipe.cls ≠ "java/lang/invoke/VarHandle" ∧ (parseMethodDescriptor yX6_isPipe.desc).map (fun d => d.parameters.length) = some 1 := by decide +kernel
def rmX6_isPipe : Room := { frames := 1, cells := 0, slots := 0, locals := 22 }
theorem ydX6_kindOf : yX6_kindOf.cls ≠ "java/lang/invoke/MethodHandle" ∧ yX6_kindOf.cls ≠ "java/lang/invoke/VarHandle" ∧ (parseMethodDescriptor yX6_kindOf.desc).map (fun d => d.parameters.length) = some 1 := by decide +kernel
def rmX6_kindOf : Room := { frames := 0, cells := 0, slots := 0, locals := 0 }
theorem ydX6_numberOf : yX6_numberOf.cls ≠ "java/lang/invoke/MethodHandle" ∧ yX6_numberOf.cls ≠ "java/lang/invoke/VarHandle" ∧ (parseMethodDescriptor yX6_numberOf.desc).map (fun d => d.parameters.length) = some 1 := by decide +kernel
def rmX6_numberOf : Room := { frames := 0, cells := 0, slots := 0, locals := 0 }
theorem ydX6_pipeOf : yX6_pipeOf.cls ≠ "java/lang/invoke/MethodHandle" ∧ yX6_pipeOf.cls ≠ "java/lang/invoke/VarHandle" ∧ (parseMethodDescriptor yX6_pipeOf.desc).map (fun d => d.parameters.length) = some 2 := by decide +kernel
def rmX6_pipeOf : Room := { frames := 0, cells := 0, slots := 0, locals := 0 }
theorem ydX6_below : yX6_below.cls ≠ "java/lang/invoke/MethodHandle" ∧ yX6_below.cls ≠ "java/lang/invoke/VarHandle" ∧ (parseMethodDescriptor yX6_below.desc).map (fun d => d.parameters.length) = some 1 := by decide +kernel
def rmX6_below : Room := { frames := 1, cells := 0, slots := 0, locals := 22 }
theorem ydX6_isKind : yX6_isKind.cls ≠ "java/lang/invoke/MethodHandle" ∧ yX6_isKind.cls ≠ "java/lang/invoke/VarHandle" ∧ (parseMethodDescriptor yX6_isKind.desc).map (fun d => d.parameters.length) = some 1 := by decide +kernel
def rmX6_isKind : Room := { frames := 1, cells := 0, slots := 0, locals := 22 }
theorem ydX6_doShaft : yX6_doShaft.cls ≠ "java/lang/invoke/MethodHandle" ∧ yX6_doShaft.cls ≠ "java/lang/invoke/VarHandle" ∧ (parseMethodDescriptor yX6_doShaft.desc).map (fun d => d.parameters.length) = some 2 := by decide +kernel
def rmX6_doShaft : Room := { frames := 2, cells := 0, slots := 0, locals := 42 }
theorem ydX6_doSets : yX6_doSets.cls ≠ "java/lang/invoke/MethodHandle" ∧ yX6_doSets.cls ≠ "java/lang/invoke/VarHandle" ∧ (parseMethodDescriptor yX6_doSets.desc).map (fun d => d.parameters.length) = some 3 := by decide +kernel
def rmX6_doSets : Room := { frames := 2, cells := 0, slots := 0, locals := 43 }
theorem ydX6_doPipe : yX6_doPipe.cls ≠ "java/lang/invoke/MethodHandle" ∧ yX6_doPipe.cls ≠ "java/lang/invoke/VarHandle" ∧ (parseMethodDescriptor yX6_doPipe.desc).map (fun d => d.parameters.length) = some 4 := by decide +kernel
def rmX6_doPipe : Room := { frames := 2, cells := 0, slots := 0, locals := 46 }
theorem ydX6_doDrops : yX6_doDrops.cls ≠ "java/lang/invoke/MethodHandle" ∧ yX6_doDrops.cls ≠ "java/lang/invoke/VarHandle" ∧ (parseMethodDescriptor yX6_doDrops.desc).map (fun d => d.parameters.length) = some 1 := by decide +kernel
def rmX6_doDrops : Room := { frames := 2, cells := 0, slots := 0, locals := 43 }
theorem ydX6_doSight : yX6_doSight.cls ≠ "java/lang/invoke/MethodHandle" ∧ yX6_doSight.cls ≠ "java/lang/invoke/VarHandle" ∧ (parseMethodDescriptor yX6_doSight.desc).map (fun d => d.parameters.length) = some 3 := by decide +kernel
def rmX6_doSight : Room := { frames := 2, cells := 0, slots := 0, locals := 43 }
theorem ydX6_doForget : yX6_doForget.cls ≠ "java/lang/invoke/MethodHandle" ∧ yX6_doForget.cls ≠ "java/lang/invoke/VarHandle" ∧ (parseMethodDescriptor yX6_doForget.desc).map (fun d => d.parameters.length) = some 0 := by decide +kernel
def rmX6_doForget : Room := { frames := 0, cells := 0, slots := 0, locals := 0 }
theorem ydX6_shaft : yX6_shaft.cls ≠ "java/lang/invoke/MethodHandle" ∧ yX6_shaft.cls ≠ "java/lang/invoke/VarHandle" ∧ (parseMethodDescriptor yX6_shaft.desc).map (fun d => d.parameters.length) = some 2 := by decide +kernel
def rmX6_shaft : Room := { frames := 3, cells := 0, slots := 0, locals := 65 }
theorem ydX6_sets : yX6_sets.cls ≠ "java/lang/invoke/MethodHandle" ∧ yX6_sets.cls ≠ "java/lang/invoke/VarHandle" ∧ (parseMethodDescriptor yX6_sets.desc).map (fun d => d.parameters.length) = some 3 := by decide +kernel
def rmX6_sets : Room := { frames := 3, cells := 0, slots := 0, locals := 68 }
theorem ydX6_pipe : yX6_pipe.cls ≠ "java/lang/invoke/MethodHandle" ∧ yX6_pipe.cls ≠ "java/lang/invoke/VarHandle" ∧ (parseMethodDescriptor yX6_pipe.desc).map (fun d => d.parameters.length) = some 4 := by decide +kernel
def rmX6_pipe : Room := { frames := 3, cells := 0, slots := 0, locals := 71 }
theorem ydX6_drops : yX6_drops.cls ≠ "java/lang/invoke/MethodHandle" ∧ yX6_drops.cls ≠ "java/lang/invoke/VarHandle" ∧ (parseMethodDescriptor yX6_drops.desc).map (fun d => d.parameters.length) = some 1 := by decide +kernel
def rmX6_drops : Room := { frames := 3, cells := 0, slots := 0, locals := 65 }
theorem ydX6_sight : yX6_sight.cls ≠ "java/lang/invoke/MethodHandle" ∧ yX6_sight.cls ≠ "java/lang/invoke/VarHandle" ∧ (parseMethodDescriptor yX6_sight.desc).map (fun d => d.parameters.length) = some 3 := by decide +kernel
def rmX6_sight : Room := { frames := 3, cells := 0, slots := 0, locals := 67 }
theorem ydX6_forget : yX6_forget.cls ≠ "java/lang/invoke/MethodHandle" ∧ yX6_forget.cls ≠ "java/lang/invoke/VarHandle" ∧ (parseMethodDescriptor yX6_forget.desc).map (fun d => d.parameters.length) = some 0 := by decide +kernel
def rmX6_forget : Room := { frames := 2, cells := 0, slots := 0, locals := 42 }
theorem ydX6_ofShaft : yX6_ofShaft.cls ≠ "java/lang/invoke/MethodHandle" ∧ yX6_ofShaft.cls ≠ "java/lang/invoke/VarHandle" ∧ (parseMethodDescriptor yX6_ofShaft.desc).map (fun d => d.parameters.length) = some 2 := by decide +kernel
def rmX6_ofShaft : Room := { frames := 2, cells := 0, slots := 0, locals := 46 }
theorem ydX6_of : yX6_of.cls ≠ "java/lang/invoke/MethodHandle" ∧ yX6_of.cls ≠ "java/lang/invoke/VarHandle" ∧ (parseMethodDescriptor yX6_of.desc).map (fun d => d.parameters.length) = some 2 := by decide +kernel
def rmX6_of : Room := { frames := 3, cells := 0, slots := 0, locals := 72 }
theorem ydX6_about : yX6_about.cls ≠ "java/lang/invoke/MethodHandle" ∧ yX6_about.cls ≠ "java/lang/invoke/VarHandle" ∧ (parseMethodDescriptor yX6_about.desc).map (fun d => d.parameters.length) = some 2 := by decide +kernel
def rmX6_about : Room := { frames := 2, cells := 0, slots := 0, locals := 43 }
theorem ydX6_pumped : yX6_pumped.cls ≠ "java/lang/invoke/MethodHandle" ∧ yX6_pumped.cls ≠ "java/lang/invoke/VarHandle" ∧ (parseMethodDescriptor yX6_pumped.desc).map (fun d => d.parameters.length) = some 2 := by decide +kernel
def rmX6_pumped : Room := { frames := 1, cells := 0, slots := 0, locals := 21 }
theorem ydX6_leavesAt : yX6_leavesAt.cls ≠ "java/lang/invoke/MethodHandle" ∧ yX6_leavesAt.cls ≠ "java/lang/invoke/VarHandle" ∧ (parseMethodDescriptor yX6_leavesAt.desc).map (fun d => d.parameters.length) = some 2 := by decide +kernel
def rmX6_leavesAt : Room := { frames := 2, cells := 0, slots := 0, locals := 44 }
theorem ydX6_hasMinute : yX6_hasMinute.cls ≠ "java/lang/invoke/MethodHandle" ∧ yX6_hasMinute.cls ≠ "java/lang/invoke/VarHandle" ∧ (parseMethodDescriptor yX6_hasMinute.desc).map (fun d => d.parameters.length) = some 2 := by decide +kernel
def rmX6_hasMinute : Room := { frames := 0, cells := 0, slots := 0, locals := 0 }
theorem ydX6_carries : yX6_carries.cls ≠ "java/lang/invoke/MethodHandle" ∧ yX6_carries.cls ≠ "java/lang/invoke/VarHandle" ∧ (parseMethodDescriptor yX6_carries.desc).map (fun d => d.parameters.length) = some 1 := by decide +kernel
def rmX6_carries : Room := { frames := 3, cells := 0, slots := 0, locals := 67 }
theorem ydX6_start : yX6_start.cls ≠ "java/lang/invoke/MethodHandle" ∧ yX6_start.cls ≠ "java/lang/invoke/VarHandle" ∧ (parseMethodDescriptor yX6_start.desc).map (fun d => d.parameters.length) = some 2 := by decide +kernel
def rmX6_start : Room := { frames := 4, cells := 0, slots := 0, locals := 95 }
theorem ydX6_isStart : yX6_isStart.cls ≠ "java/lang/invoke/MethodHandle" ∧ yX6_isStart.cls ≠ "java/lang/invoke/VarHandle" ∧ (parseMethodDescriptor yX6_isStart.desc).map (fun d => d.parameters.length) = some 2 := by decide +kernel
def rmX6_isStart : Room := { frames := 2, cells := 0, slots := 0, locals := 43 }
theorem ydX6_comesOf : yX6_comesOf.cls ≠ "java/lang/invoke/MethodHandle" ∧ yX6_comesOf.cls ≠ "java/lang/invoke/VarHandle" ∧ (parseMethodDescriptor yX6_comesOf.desc).map (fun d => d.parameters.length) = some 3 := by decide +kernel
def rmX6_comesOf : Room := { frames := 5, cells := 0, slots := 0, locals := 119 }
theorem ydX6_comes : yX6_comes.cls ≠ "java/lang/invoke/MethodHandle" ∧ yX6_comes.cls ≠ "java/lang/invoke/VarHandle" ∧ (parseMethodDescriptor yX6_comes.desc).map (fun d => d.parameters.length) = some 3 := by decide +kernel
def rmX6_comes : Room := { frames := 6, cells := 0, slots := 0, locals := 142 }
theorem ydX6_lastOf : yX6_lastOf.cls ≠ "java/lang/invoke/MethodHandle" ∧ yX6_lastOf.cls ≠ "java/lang/invoke/VarHandle" ∧ (parseMethodDescriptor yX6_lastOf.desc).map (fun d => d.parameters.length) = some 1 := by decide +kernel
def rmX6_lastOf : Room := { frames := 1, cells := 0, slots := 0, locals := 22 }
theorem ydX6_times : yX6_times.cls ≠ "java/lang/invoke/MethodHandle" ∧ yX6_times.cls ≠ "java/lang/invoke/VarHandle" ∧ (parseMethodDescriptor yX6_times.desc).map (fun d => d.parameters.length) = some 4 := by decide +kernel
def rmX6_times : Room := { frames := 6, cells := 0, slots := 0, locals := 142 }
theorem ydX6_leaves : yX6_leaves.cls ≠ "java/lang/invoke/MethodHandle" ∧ yX6_leaves.cls ≠ "java/lang/invoke/VarHandle" ∧ (parseMethodDescriptor yX6_leaves.desc).map (fun d => d.parameters.length) = some 2 := by decide +kernel
def rmX6_leaves : Room := { frames := 3, cells := 0, slots := 0, locals := 67 }
theorem ydX6_isFit : yX6_isFit.cls ≠ "java/lang/invoke/MethodHandle" ∧ yX6_isFit.cls ≠ "java/lang/invoke/VarHandle" ∧ (parseMethodDescriptor yX6_isFit.desc).map (fun d => d.parameters.length) = some 2 := by decide +kernel
def rmX6_isFit : Room := { frames := 5, cells := 0, slots := 0, locals := 119 }
theorem ydX6_fits : yX6_fits.cls ≠ "java/lang/invoke/MethodHandle" ∧ yX6_fits.cls ≠ "java/lang/invoke/VarHandle" ∧ (parseMethodDescriptor yX6_fits.desc).map (fun d => d.parameters.length) = some 2 := by decide +kernel
def rmX6_fits : Room := { frames := 6, cells := 0, slots := 0, locals := 146 }
theorem ydX6_whenOf : yX6_whenOf.cls ≠ "java/lang/invoke/MethodHandle" ∧ yX6_whenOf.cls ≠ "java/lang/invoke/VarHandle" ∧ (parseMethodDescriptor yX6_whenOf.desc).map (fun d => d.parameters.length) = some 1 := by decide +kernel
def rmX6_whenOf : Room := { frames := 6, cells := 0, slots := 0, locals := 146 }
theorem ydX6_when : yX6_when.cls ≠ "java/lang/invoke/MethodHandle" ∧ yX6_when.cls ≠ "java/lang/invoke/VarHandle" ∧ (parseMethodDescriptor yX6_when.desc).map (fun d => d.parameters.length) = some 1 := by decide +kernel
def rmX6_when : Room := { frames := 7, cells := 0, slots := 0, locals := 169 }
theorem ydX6_suspectsNow : yX6_suspectsNow.cls ≠ "java/lang/invoke/MethodHandle" ∧ yX6_suspectsNow.cls ≠ "java/lang/invoke/VarHandle" ∧ (parseMethodDescriptor yX6_suspectsNow.desc).map (fun d => d.parameters.length) = some 0 := by decide +kernel
def rmX6_suspectsNow : Room := { frames := 7, cells := 0, slots := 0, locals := 169 }
theorem ydX6_suspects : yX6_suspects.cls ≠ "java/lang/invoke/MethodHandle" ∧ yX6_suspects.cls ≠ "java/lang/invoke/VarHandle" ∧ (parseMethodDescriptor yX6_suspects.desc).map (fun d => d.parameters.length) = some 0 := by decide +kernel
def rmX6_suspects : Room := { frames := 8, cells := 0, slots := 0, locals := 191 }
theorem ydX6_nextOf : yX6_nextOf.cls ≠ "java/lang/invoke/MethodHandle" ∧ yX6_nextOf.cls ≠ "java/lang/invoke/VarHandle" ∧ (parseMethodDescriptor yX6_nextOf.desc).map (fun d => d.parameters.length) = some 1 := by decide +kernel
def rmX6_nextOf : Room := { frames := 8, cells := 0, slots := 0, locals := 191 }
theorem ydX6_next : yX6_next.cls ≠ "java/lang/invoke/MethodHandle" ∧ yX6_next.cls ≠ "java/lang/invoke/VarHandle" ∧ (parseMethodDescriptor yX6_next.desc).map (fun d => d.parameters.length) = some 1 := by decide +kernel
def rmX6_next : Room := { frames := 9, cells := 0, slots := 0, locals := 219 }
theorem ydX6_findBelows : yX6_findBelows.cls ≠ "java/lang/invoke/MethodHandle" ∧ yX6_findBelows.cls ≠ "java/lang/invoke/VarHandle" ∧ (parseMethodDescriptor yX6_findBelows.desc).map (fun d => d.parameters.length) = some 0 := by decide +kernel
def rmX6_findBelows : Room := { frames := 2, cells := 0, slots := 0, locals := 46 }
theorem ydX6_alikeBy : yX6_alikeBy.cls ≠ "java/lang/invoke/MethodHandle" ∧ yX6_alikeBy.cls ≠ "java/lang/invoke/VarHandle" ∧ (parseMethodDescriptor yX6_alikeBy.desc).map (fun d => d.parameters.length) = some 1 := by decide +kernel
def rmX6_alikeBy : Room := { frames := 0, cells := 0, slots := 0, locals := 0 }
theorem ydX6_alike : yX6_alike.cls ≠ "java/lang/invoke/MethodHandle" ∧ yX6_alike.cls ≠ "java/lang/invoke/VarHandle" ∧ (parseMethodDescriptor yX6_alike.desc).map (fun d => d.parameters.length) = some 1 := by decide +kernel
def rmX6_alike : Room := { frames := 3, cells := 0, slots := 0, locals := 67 }
theorem ydX6_sensorsOf : yX6_sensorsOf.cls ≠ "java/lang/invoke/MethodHandle" ∧ yX6_sensorsOf.cls ≠ "java/lang/invoke/VarHandle" ∧ (parseMethodDescriptor yX6_sensorsOf.desc).map (fun d => d.parameters.length) = some 1 := by decide +kernel
def rmX6_sensorsOf : Room := { frames := 3, cells := 0, slots := 0, locals := 67 }
theorem ydX6_sensors : yX6_sensors.cls ≠ "java/lang/invoke/MethodHandle" ∧ yX6_sensors.cls ≠ "java/lang/invoke/VarHandle" ∧ (parseMethodDescriptor yX6_sensors.desc).map (fun d => d.parameters.length) = some 1 := by decide +kernel
def rmX6_sensors : Room := { frames := 4, cells := 0, slots := 0, locals := 91 }
theorem ydX6_type : yX6_type.cls ≠ "java/lang/invoke/MethodHandle" ∧ yX6_type.cls ≠ "java/lang/invoke/VarHandle" ∧ (parseMethodDescriptor yX6_type.desc).map (fun d => d.parameters.length) = some 1 := by decide +kernel
def rmX6_type : Room := { frames := 1, cells := 0, slots := 0, locals := 22 }
theorem ydX6_clear : yX6_clear.cls ≠ "java/lang/invoke/MethodHandle" ∧ yX6_clear.cls ≠ "java/lang/invoke/VarHandle" ∧ (parseMethodDescriptor yX6_clear.desc).map (fun d => d.parameters.length) = some 0 := by decide +kernel
def rmX6_clear : Room := { frames := 0, cells := 0, slots := 0, locals := 0 }
theorem ydX6_here : yX6_here.cls ≠ "java/lang/invoke/MethodHandle" ∧ yX6_here.cls ≠ "java/lang/invoke/VarHandle" ∧ (parseMethodDescriptor yX6_here.desc).map (fun d => d.parameters.length) = some 0 := by decide +kernel
def rmX6_here : Room := { frames := 0, cells := 0, slots := 0, locals := 0 }
theorem ydX6_must : yX6_must.cls ≠ "java/lang/invoke/MethodHandle" ∧ yX6_must.cls ≠ "java/lang/invoke/VarHandle" ∧ (parseMethodDescriptor yX6_must.desc).map (fun d => d.parameters.length) = some 1 := by decide +kernel
def rmX6_must : Room := { frames := 0, cells := 0, slots := 0, locals := 0 }
theorem ydX6_isFigure : yX6_isFigure.cls ≠ "java/lang/invoke/MethodHandle" ∧ yX6_isFigure.cls ≠ "java/lang/invoke/VarHandle" ∧ (parseMethodDescriptor yX6_isFigure.desc).map (fun d => d.parameters.length) = some 0 := by decide +kernel
def rmX6_isFigure : Room := { frames := 1, cells := 0, slots := 0, locals := 22 }
theorem ydX6_number : yX6_number.cls ≠ "java/lang/invoke/MethodHandle" ∧ yX6_number.cls ≠ "java/lang/invoke/VarHandle" ∧ (parseMethodDescriptor yX6_number.desc).map (fun d => d.parameters.length) = some 0 := by decide +kernel
def rmX6_number : Room := { frames := 2, cells := 0, slots := 0, locals := 42 }
theorem ydX6_numbersOf : yX6_numbersOf.cls ≠ "java/lang/invoke/MethodHandle" ∧ yX6_numbersOf.cls ≠ "java/lang/invoke/VarHandle" ∧ (parseMethodDescriptor yX6_numbersOf.desc).map (fun d => d.parameters.length) = some 1 := by decide +kernel
def rmX6_numbersOf : Room := { frames := 0, cells := 0, slots := 0, locals := 0 }
theorem ydX6_readOrder : yX6_readOrder.cls ≠ "java/lang/invoke/MethodHandle" ∧ yX6_readOrder.cls ≠ "java/lang/invoke/VarHandle" ∧ (parseMethodDescriptor yX6_readOrder.desc).map (fun d => d.parameters.length) = some 0 := by decide +kernel
def rmX6_readOrder : Room := { frames := 3, cells := 0, slots := 0, locals := 63 }
theorem ydX6_doOrder : yX6_doOrder.cls ≠ "java/lang/invoke/MethodHandle" ∧ yX6_doOrder.cls ≠ "java/lang/invoke/VarHandle" ∧ (parseMethodDescriptor yX6_doOrder.desc).map (fun d => d.parameters.length) = some 1 := by decide +kernel
def rmX6_doOrder : Room := { frames := 3, cells := 0, slots := 0, locals := 71 }
theorem ydX6_reads : yX6_reads.cls ≠ "java/lang/invoke/MethodHandle" ∧ yX6_reads.cls ≠ "java/lang/invoke/VarHandle" ∧ (parseMethodDescriptor yX6_reads.desc).map (fun d => d.parameters.length) = some 0 := by decide +kernel
def rmX6_reads : Room := { frames := 4, cells := 0, slots := 0, locals := 94 }
theorem ydX6_toldOf : yX6_toldOf.cls ≠ "java/lang/invoke/MethodHandle" ∧ yX6_toldOf.cls ≠ "java/lang/invoke/VarHandle" ∧ (parseMethodDescriptor yX6_toldOf.desc).map (fun d => d.parameters.length) = some 1 := by decide +kernel
def rmX6_toldOf : Room := { frames := 0, cells := 0, slots := 0, locals := 0 }
theorem ydX6_told : yX6_told.cls ≠ "java/lang/invoke/MethodHandle" ∧ yX6_told.cls ≠ "java/lang/invoke/VarHandle" ∧ (parseMethodDescriptor yX6_told.desc).map (fun d => d.parameters.length) = some 1 := by decide +kernel
def rmX6_told : Room := { frames := 1, cells := 0, slots := 0, locals := 22 }
theorem ydX6_mix : yX6_mix.cls ≠ "java/lang/invoke/MethodHandle" ∧ yX6_mix.cls ≠ "java/lang/invoke/VarHandle" ∧ (parseMethodDescriptor yX6_mix.desc).map (fun d => d.parameters.length) = some 1 := by decide +kernel
def rmX6_mix : Room := { frames := 0, cells := 0, slots := 0, locals := 0 }
theorem ydX6_digest : yX6_digest.cls ≠ "java/lang/invoke/MethodHandle" ∧ yX6_digest.cls ≠ "java/lang/invoke/VarHandle" ∧ (parseMethodDescriptor yX6_digest.desc).map (fun d => d.parameters.length) = some 0 := by decide +kernel
def rmX6_digest : Room := { frames := 9, cells := 0, slots := 0, locals := 219 }
theorem ydJ6_numberOfLeadingZeros_0f7a4 : yJ6_numberOfLeadingZeros_0f7a4.cls ≠ "java/lang/invoke/MethodHandle" ∧ yJ6_numberOfLeadingZeros_0f7a4.cls ≠ "java/lang/invoke/VarHandle" ∧ (parseMethodDescriptor yJ6_numberOfLeadingZeros_0f7a4.desc).map (fun d => d.parameters.length) = some 1 := by decide +kernel
def rmJ6_numberOfLeadingZeros_0f7a4 : Room := { frames := 0, cells := 0, slots := 0, locals := 0 }
theorem ydJ6_numberOfTrailingZeros_0f7a4 : yJ6_numberOfTrailingZeros_0f7a4.cls ≠ "java/lang/invoke/MethodHandle" ∧ yJ6_numberOfTrailingZeros_0f7a4.cls ≠ "java/lang/invoke/VarHandle" ∧ (parseMethodDescriptor yJ6_numberOfTrailingZeros_0f7a4.desc).map (fun d => d.parameters.length) = some 1 := by decide +kernel
def rmJ6_numberOfTrailingZeros_0f7a4 : Room := { frames := 0, cells := 0, slots := 0, locals := 0 }
theorem ydJ6_bitCount_0f7a4 : yJ6_bitCount_0f7a4.cls ≠ "java/lang/invoke/MethodHandle" ∧ yJ6_bitCount_0f7a4.cls ≠ "java/lang/invoke/VarHandle" ∧ (parseMethodDescriptor yJ6_bitCount_0f7a4.desc).map (fun d => d.parameters.length) = some 1 := by decide +kernel
def rmJ6_bitCount_0f7a4 : Room := { frames := 0, cells := 0, slots := 0, locals := 0 }
theorem ydJ13_numberOfLeadingZeros_95d88 : yJ13_numberOfLeadingZeros_95d88.cls ≠ "java/lang/invoke/MethodHandle" ∧ yJ13_numberOfLeadingZeros_95d88.cls ≠ "java/lang/invoke/VarHandle" ∧ (parseMethodDescriptor yJ13_numberOfLeadingZeros_95d88.desc).map (fun d => d.parameters.length) = some 1 := by decide +kernel
def rmJ13_numberOfLeadingZeros_95d88 : Room := { frames := 1, cells := 0, slots := 0, locals := 21 }
theorem ydJ13_numberOfTrailingZeros_95d88 : yJ13_numberOfTrailingZeros_95d88.cls ≠ "java/lang/invoke/MethodHandle" ∧ yJ13_numberOfTrailingZeros_95d88.cls ≠ "java/lang/invoke/VarHandle" ∧ (parseMethodDescriptor yJ13_numberOfTrailingZeros_95d88.desc).map (fun d => d.parameters.length) = some 1 := by decide +kernel
def rmJ13_numberOfTrailingZeros_95d88 : Room := { frames := 1, cells := 0, slots := 0, locals := 21 }
theorem ydJ13_bitCount_95d88 : yJ13_bitCount_95d88.cls ≠ "java/lang/invoke/MethodHandle" ∧ yJ13_bitCount_95d88.cls ≠ "java/lang/invoke/VarHandle" ∧ (parseMethodDescriptor yJ13_bitCount_95d88.desc).map (fun d => d.parameters.length) = some 1 := by decide +kernel
def rmJ13_bitCount_95d88 : Room := { frames := 0, cells := 0, slots := 0, locals := 0 }
theorem ydJ9_max_7cf53 : yJ9_max_7cf53.cls ≠ "java/lang/invoke/MethodHandle" ∧ yJ9_max_7cf53.cls ≠ "java/lang/invoke/VarHandle" ∧ (parseMethodDescriptor yJ9_max_7cf53.desc).map (fun d => d.parameters.length) = some 2 := by decide +kernel
def rmJ9_max_7cf53 : Room := { frames := 0, cells := 0, slots := 0, locals := 0 }
theorem ydJ9_min_7cf53 : yJ9_min_7cf53.cls ≠ "java/lang/invoke/MethodHandle" ∧ yJ9_min_7cf53.cls ≠ "java/lang/invoke/VarHandle" ∧ (parseMethodDescriptor yJ9_min_7cf53.desc).map (fun d => d.parameters.length) = some 2 := by decide +kernel
def rmJ9_min_7cf53 : Room := { frames := 0, cells := 0, slots := 0, locals := 0 }
theorem ydJ7_fill_d0a16 : yJ7_fill_d0a16.cls ≠ "java/lang/invoke/MethodHandle" ∧ yJ7_fill_d0a16.cls ≠ "java/lang/invoke/VarHandle" ∧ (parseMethodDescriptor yJ7_fill_d0a16.desc).map (fun d => d.parameters.length) = some 2 := by decide +kernel
def rmJ7_fill_d0a16 : Room := { frames := 0, cells := 0, slots := 0, locals := 0 }
