theorem sd_caA_b0 : ∀ y, 0 ≤ y → y < 16 → sd_ca y = true := fun y h0 h1 => ((Nat.lt_or_ge y 8).elim (fun h => ((Nat.lt_or_ge y 4).elim (fun h => ((Nat.lt_or_ge y 2).elim (fun h => ((Nat.lt_or_ge y 1).elim (fun h => (by rw [show y = 0 by omega]; exact sd_ca_0)) (fun h => (by rw [show y = 1 by omega]; exact sd_ca_1)))) (fun h => ((Nat.lt_or_ge y 3).elim (fun h => (by rw [show y = 2 by omega]; exact sd_ca_2)) (fun h => (by rw [show y = 3 by omega]; exact sd_ca_3)))))) (fun h => ((Nat.lt_or_ge y 6).elim (fun h => ((Nat.lt_or_ge y 5).elim (fun h => (by rw [show y = 4 by omega]; exact sd_ca_4)) (fun h => (by rw [show y = 5 by omega]; exact sd_ca_5)))) (fun h => ((Nat.lt_or_ge y 7).elim (fun h => (by rw [show y = 6 by omega]; exact sd_ca_6)) (fun h => (by rw [show y = 7 by omega]; exact sd_ca_7)))))))) (fun h => ((Nat.lt_or_ge y 12).elim (fun h => ((Nat.lt_or_ge y 10).elim (fun h => ((Nat.lt_or_ge y 9).elim (fun h => (by rw [show y = 8 by omega]; exact sd_ca_8)) (fun h => (by rw [show y = 9 by omega]; exact sd_ca_9)))) (fun h => ((Nat.lt_or_ge y 11).elim (fun h => (by rw [show y = 10 by omega]; exact sd_ca_10)) (fun h => (by rw [show y = 11 by omega]; exact sd_ca_11)))))) (fun h => ((Nat.lt_or_ge y 14).elim (fun h => ((Nat.lt_or_ge y 13).elim (fun h => (by rw [show y = 12 by omega]; exact sd_ca_12)) (fun h => (by rw [show y = 13 by omega]; exact sd_ca_13)))) (fun h => ((Nat.lt_or_ge y 15).elim (fun h => (by rw [show y = 14 by omega]; exact sd_ca_14)) (fun h => (by rw [show y = 15 by omega]; exact sd_ca_15)))))))))
theorem sd_caA_b16 : ∀ y, 16 ≤ y → y < 32 → sd_ca y = true := fun y h0 h1 => ((Nat.lt_or_ge y 24).elim (fun h => ((Nat.lt_or_ge y 20).elim (fun h => ((Nat.lt_or_ge y 18).elim (fun h => ((Nat.lt_or_ge y 17).elim (fun h => (by rw [show y = 16 by omega]; exact sd_ca_16)) (fun h => (by rw [show y = 17 by omega]; exact sd_ca_17)))) (fun h => ((Nat.lt_or_ge y 19).elim (fun h => (by rw [show y = 18 by omega]; exact sd_ca_18)) (fun h => (by rw [show y = 19 by omega]; exact sd_ca_19)))))) (fun h => ((Nat.lt_or_ge y 22).elim (fun h => ((Nat.lt_or_ge y 21).elim (fun h => (by rw [show y = 20 by omega]; exact sd_ca_20)) (fun h => (by rw [show y = 21 by omega]; exact sd_ca_21)))) (fun h => ((Nat.lt_or_ge y 23).elim (fun h => (by rw [show y = 22 by omega]; exact sd_ca_22)) (fun h => (by rw [show y = 23 by omega]; exact sd_ca_23)))))))) (fun h => ((Nat.lt_or_ge y 28).elim (fun h => ((Nat.lt_or_ge y 26).elim (fun h => ((Nat.lt_or_ge y 25).elim (fun h => (by rw [show y = 24 by omega]; exact sd_ca_24)) (fun h => (by rw [show y = 25 by omega]; exact sd_ca_25)))) (fun h => ((Nat.lt_or_ge y 27).elim (fun h => (by rw [show y = 26 by omega]; exact sd_ca_26)) (fun h => (by rw [show y = 27 by omega]; exact sd_ca_27)))))) (fun h => ((Nat.lt_or_ge y 30).elim (fun h => ((Nat.lt_or_ge y 29).elim (fun h => (by rw [show y = 28 by omega]; exact sd_ca_28)) (fun h => (by rw [show y = 29 by omega]; exact sd_ca_29)))) (fun h => ((Nat.lt_or_ge y 31).elim (fun h => (by rw [show y = 30 by omega]; exact sd_ca_30)) (fun h => (by rw [show y = 31 by omega]; exact sd_ca_31)))))))))
theorem sd_caA_b32 : ∀ y, 32 ≤ y → y < 48 → sd_ca y = true := fun y h0 h1 => ((Nat.lt_or_ge y 40).elim (fun h => ((Nat.lt_or_ge y 36).elim (fun h => ((Nat.lt_or_ge y 34).elim (fun h => ((Nat.lt_or_ge y 33).elim (fun h => (by rw [show y = 32 by omega]; exact sd_ca_32)) (fun h => (by rw [show y = 33 by omega]; exact sd_ca_33)))) (fun h => ((Nat.lt_or_ge y 35).elim (fun h => (by rw [show y = 34 by omega]; exact sd_ca_34)) (fun h => (by rw [show y = 35 by omega]; exact sd_ca_35)))))) (fun h => ((Nat.lt_or_ge y 38).elim (fun h => ((Nat.lt_or_ge y 37).elim (fun h => (by rw [show y = 36 by omega]; exact sd_ca_36)) (fun h => (by rw [show y = 37 by omega]; exact sd_ca_37)))) (fun h => ((Nat.lt_or_ge y 39).elim (fun h => (by rw [show y = 38 by omega]; exact sd_ca_38)) (fun h => (by rw [show y = 39 by omega]; exact sd_ca_39)))))))) (fun h => ((Nat.lt_or_ge y 44).elim (fun h => ((Nat.lt_or_ge y 42).elim (fun h => ((Nat.lt_or_ge y 41).elim (fun h => (by rw [show y = 40 by omega]; exact sd_ca_40)) (fun h => (by rw [show y = 41 by omega]; exact sd_ca_41)))) (fun h => ((Nat.lt_or_ge y 43).elim (fun h => (by rw [show y = 42 by omega]; exact sd_ca_42)) (fun h => (by rw [show y = 43 by omega]; exact sd_ca_43)))))) (fun h => ((Nat.lt_or_ge y 46).elim (fun h => ((Nat.lt_or_ge y 45).elim (fun h => (by rw [show y = 44 by omega]; exact sd_ca_44)) (fun h => (by rw [show y = 45 by omega]; exact sd_ca_45)))) (fun h => ((Nat.lt_or_ge y 47).elim (fun h => (by rw [show y = 46 by omega]; exact sd_ca_46)) (fun h => (by rw [show y = 47 by omega]; exact sd_ca_47)))))))))
theorem sd_caA_b48 : ∀ y, 48 ≤ y → y < 64 → sd_ca y = true := fun y h0 h1 => ((Nat.lt_or_ge y 56).elim (fun h => ((Nat.lt_or_ge y 52).elim (fun h => ((Nat.lt_or_ge y 50).elim (fun h => ((Nat.lt_or_ge y 49).elim (fun h => (by rw [show y = 48 by omega]; exact sd_ca_48)) (fun h => (by rw [show y = 49 by omega]; exact sd_ca_49)))) (fun h => ((Nat.lt_or_ge y 51).elim (fun h => (by rw [show y = 50 by omega]; exact sd_ca_50)) (fun h => (by rw [show y = 51 by omega]; exact sd_ca_51)))))) (fun h => ((Nat.lt_or_ge y 54).elim (fun h => ((Nat.lt_or_ge y 53).elim (fun h => (by rw [show y = 52 by omega]; exact sd_ca_52)) (fun h => (by rw [show y = 53 by omega]; exact sd_ca_53)))) (fun h => ((Nat.lt_or_ge y 55).elim (fun h => (by rw [show y = 54 by omega]; exact sd_ca_54)) (fun h => (by rw [show y = 55 by omega]; exact sd_ca_55)))))))) (fun h => ((Nat.lt_or_ge y 60).elim (fun h => ((Nat.lt_or_ge y 58).elim (fun h => ((Nat.lt_or_ge y 57).elim (fun h => (by rw [show y = 56 by omega]; exact sd_ca_56)) (fun h => (by rw [show y = 57 by omega]; exact sd_ca_57)))) (fun h => ((Nat.lt_or_ge y 59).elim (fun h => (by rw [show y = 58 by omega]; exact sd_ca_58)) (fun h => (by rw [show y = 59 by omega]; exact sd_ca_59)))))) (fun h => ((Nat.lt_or_ge y 62).elim (fun h => ((Nat.lt_or_ge y 61).elim (fun h => (by rw [show y = 60 by omega]; exact sd_ca_60)) (fun h => (by rw [show y = 61 by omega]; exact sd_ca_61)))) (fun h => ((Nat.lt_or_ge y 63).elim (fun h => (by rw [show y = 62 by omega]; exact sd_ca_62)) (fun h => (by rw [show y = 63 by omega]; exact sd_ca_63)))))))))
theorem sd_caA_b64 : ∀ y, 64 ≤ y → y < 80 → sd_ca y = true := fun y h0 h1 => ((Nat.lt_or_ge y 72).elim (fun h => ((Nat.lt_or_ge y 68).elim (fun h => ((Nat.lt_or_ge y 66).elim (fun h => ((Nat.lt_or_ge y 65).elim (fun h => (by rw [show y = 64 by omega]; exact sd_ca_64)) (fun h => (by rw [show y = 65 by omega]; exact sd_ca_65)))) (fun h => ((Nat.lt_or_ge y 67).elim (fun h => (by rw [show y = 66 by omega]; exact sd_ca_66)) (fun h => (by rw [show y = 67 by omega]; exact sd_ca_67)))))) (fun h => ((Nat.lt_or_ge y 70).elim (fun h => ((Nat.lt_or_ge y 69).elim (fun h => (by rw [show y = 68 by omega]; exact sd_ca_68)) (fun h => (by rw [show y = 69 by omega]; exact sd_ca_69)))) (fun h => ((Nat.lt_or_ge y 71).elim (fun h => (by rw [show y = 70 by omega]; exact sd_ca_70)) (fun h => (by rw [show y = 71 by omega]; exact sd_ca_71)))))))) (fun h => ((Nat.lt_or_ge y 76).elim (fun h => ((Nat.lt_or_ge y 74).elim (fun h => ((Nat.lt_or_ge y 73).elim (fun h => (by rw [show y = 72 by omega]; exact sd_ca_72)) (fun h => (by rw [show y = 73 by omega]; exact sd_ca_73)))) (fun h => ((Nat.lt_or_ge y 75).elim (fun h => (by rw [show y = 74 by omega]; exact sd_ca_74)) (fun h => (by rw [show y = 75 by omega]; exact sd_ca_75)))))) (fun h => ((Nat.lt_or_ge y 78).elim (fun h => ((Nat.lt_or_ge y 77).elim (fun h => (by rw [show y = 76 by omega]; exact sd_ca_76)) (fun h => (by rw [show y = 77 by omega]; exact sd_ca_77)))) (fun h => ((Nat.lt_or_ge y 79).elim (fun h => (by rw [show y = 78 by omega]; exact sd_ca_78)) (fun h => (by rw [show y = 79 by omega]; exact sd_ca_79)))))))))
theorem sd_caA_b80 : ∀ y, 80 ≤ y → y < 96 → sd_ca y = true := fun y h0 h1 => ((Nat.lt_or_ge y 88).elim (fun h => ((Nat.lt_or_ge y 84).elim (fun h => ((Nat.lt_or_ge y 82).elim (fun h => ((Nat.lt_or_ge y 81).elim (fun h => (by rw [show y = 80 by omega]; exact sd_ca_80)) (fun h => (by rw [show y = 81 by omega]; exact sd_ca_81)))) (fun h => ((Nat.lt_or_ge y 83).elim (fun h => (by rw [show y = 82 by omega]; exact sd_ca_82)) (fun h => (by rw [show y = 83 by omega]; exact sd_ca_83)))))) (fun h => ((Nat.lt_or_ge y 86).elim (fun h => ((Nat.lt_or_ge y 85).elim (fun h => (by rw [show y = 84 by omega]; exact sd_ca_84)) (fun h => (by rw [show y = 85 by omega]; exact sd_ca_85)))) (fun h => ((Nat.lt_or_ge y 87).elim (fun h => (by rw [show y = 86 by omega]; exact sd_ca_86)) (fun h => (by rw [show y = 87 by omega]; exact sd_ca_87)))))))) (fun h => ((Nat.lt_or_ge y 92).elim (fun h => ((Nat.lt_or_ge y 90).elim (fun h => ((Nat.lt_or_ge y 89).elim (fun h => (by rw [show y = 88 by omega]; exact sd_ca_88)) (fun h => (by rw [show y = 89 by omega]; exact sd_ca_89)))) (fun h => ((Nat.lt_or_ge y 91).elim (fun h => (by rw [show y = 90 by omega]; exact sd_ca_90)) (fun h => (by rw [show y = 91 by omega]; exact sd_ca_91)))))) (fun h => ((Nat.lt_or_ge y 94).elim (fun h => ((Nat.lt_or_ge y 93).elim (fun h => (by rw [show y = 92 by omega]; exact sd_ca_92)) (fun h => (by rw [show y = 93 by omega]; exact sd_ca_93)))) (fun h => ((Nat.lt_or_ge y 95).elim (fun h => (by rw [show y = 94 by omega]; exact sd_ca_94)) (fun h => (by rw [show y = 95 by omega]; exact sd_ca_95)))))))))
theorem sd_caA_b96 : ∀ y, 96 ≤ y → y < 112 → sd_ca y = true := fun y h0 h1 => ((Nat.lt_or_ge y 104).elim (fun h => ((Nat.lt_or_ge y 100).elim (fun h => ((Nat.lt_or_ge y 98).elim (fun h => ((Nat.lt_or_ge y 97).elim (fun h => (by rw [show y = 96 by omega]; exact sd_ca_96)) (fun h => (by rw [show y = 97 by omega]; exact sd_ca_97)))) (fun h => ((Nat.lt_or_ge y 99).elim (fun h => (by rw [show y = 98 by omega]; exact sd_ca_98)) (fun h => (by rw [show y = 99 by omega]; exact sd_ca_99)))))) (fun h => ((Nat.lt_or_ge y 102).elim (fun h => ((Nat.lt_or_ge y 101).elim (fun h => (by rw [show y = 100 by omega]; exact sd_ca_100)) (fun h => (by rw [show y = 101 by omega]; exact sd_ca_101)))) (fun h => ((Nat.lt_or_ge y 103).elim (fun h => (by rw [show y = 102 by omega]; exact sd_ca_102)) (fun h => (by rw [show y = 103 by omega]; exact sd_ca_103)))))))) (fun h => ((Nat.lt_or_ge y 108).elim (fun h => ((Nat.lt_or_ge y 106).elim (fun h => ((Nat.lt_or_ge y 105).elim (fun h => (by rw [show y = 104 by omega]; exact sd_ca_104)) (fun h => (by rw [show y = 105 by omega]; exact sd_ca_105)))) (fun h => ((Nat.lt_or_ge y 107).elim (fun h => (by rw [show y = 106 by omega]; exact sd_ca_106)) (fun h => (by rw [show y = 107 by omega]; exact sd_ca_107)))))) (fun h => ((Nat.lt_or_ge y 110).elim (fun h => ((Nat.lt_or_ge y 109).elim (fun h => (by rw [show y = 108 by omega]; exact sd_ca_108)) (fun h => (by rw [show y = 109 by omega]; exact sd_ca_109)))) (fun h => ((Nat.lt_or_ge y 111).elim (fun h => (by rw [show y = 110 by omega]; exact sd_ca_110)) (fun h => (by rw [show y = 111 by omega]; exact sd_ca_111)))))))))
theorem sd_caA_b112 : ∀ y, 112 ≤ y → y < 128 → sd_ca y = true := fun y h0 h1 => ((Nat.lt_or_ge y 120).elim (fun h => ((Nat.lt_or_ge y 116).elim (fun h => ((Nat.lt_or_ge y 114).elim (fun h => ((Nat.lt_or_ge y 113).elim (fun h => (by rw [show y = 112 by omega]; exact sd_ca_112)) (fun h => (by rw [show y = 113 by omega]; exact sd_ca_113)))) (fun h => ((Nat.lt_or_ge y 115).elim (fun h => (by rw [show y = 114 by omega]; exact sd_ca_114)) (fun h => (by rw [show y = 115 by omega]; exact sd_ca_115)))))) (fun h => ((Nat.lt_or_ge y 118).elim (fun h => ((Nat.lt_or_ge y 117).elim (fun h => (by rw [show y = 116 by omega]; exact sd_ca_116)) (fun h => (by rw [show y = 117 by omega]; exact sd_ca_117)))) (fun h => ((Nat.lt_or_ge y 119).elim (fun h => (by rw [show y = 118 by omega]; exact sd_ca_118)) (fun h => (by rw [show y = 119 by omega]; exact sd_ca_119)))))))) (fun h => ((Nat.lt_or_ge y 124).elim (fun h => ((Nat.lt_or_ge y 122).elim (fun h => ((Nat.lt_or_ge y 121).elim (fun h => (by rw [show y = 120 by omega]; exact sd_ca_120)) (fun h => (by rw [show y = 121 by omega]; exact sd_ca_121)))) (fun h => ((Nat.lt_or_ge y 123).elim (fun h => (by rw [show y = 122 by omega]; exact sd_ca_122)) (fun h => (by rw [show y = 123 by omega]; exact sd_ca_123)))))) (fun h => ((Nat.lt_or_ge y 126).elim (fun h => ((Nat.lt_or_ge y 125).elim (fun h => (by rw [show y = 124 by omega]; exact sd_ca_124)) (fun h => (by rw [show y = 125 by omega]; exact sd_ca_125)))) (fun h => ((Nat.lt_or_ge y 127).elim (fun h => (by rw [show y = 126 by omega]; exact sd_ca_126)) (fun h => (by rw [show y = 127 by omega]; exact sd_ca_127)))))))))
theorem sd_caA_b128 : ∀ y, 128 ≤ y → y < 144 → sd_ca y = true := fun y h0 h1 => ((Nat.lt_or_ge y 136).elim (fun h => ((Nat.lt_or_ge y 132).elim (fun h => ((Nat.lt_or_ge y 130).elim (fun h => ((Nat.lt_or_ge y 129).elim (fun h => (by rw [show y = 128 by omega]; exact sd_ca_128)) (fun h => (by rw [show y = 129 by omega]; exact sd_ca_129)))) (fun h => ((Nat.lt_or_ge y 131).elim (fun h => (by rw [show y = 130 by omega]; exact sd_ca_130)) (fun h => (by rw [show y = 131 by omega]; exact sd_ca_131)))))) (fun h => ((Nat.lt_or_ge y 134).elim (fun h => ((Nat.lt_or_ge y 133).elim (fun h => (by rw [show y = 132 by omega]; exact sd_ca_132)) (fun h => (by rw [show y = 133 by omega]; exact sd_ca_133)))) (fun h => ((Nat.lt_or_ge y 135).elim (fun h => (by rw [show y = 134 by omega]; exact sd_ca_134)) (fun h => (by rw [show y = 135 by omega]; exact sd_ca_135)))))))) (fun h => ((Nat.lt_or_ge y 140).elim (fun h => ((Nat.lt_or_ge y 138).elim (fun h => ((Nat.lt_or_ge y 137).elim (fun h => (by rw [show y = 136 by omega]; exact sd_ca_136)) (fun h => (by rw [show y = 137 by omega]; exact sd_ca_137)))) (fun h => ((Nat.lt_or_ge y 139).elim (fun h => (by rw [show y = 138 by omega]; exact sd_ca_138)) (fun h => (by rw [show y = 139 by omega]; exact sd_ca_139)))))) (fun h => ((Nat.lt_or_ge y 142).elim (fun h => ((Nat.lt_or_ge y 141).elim (fun h => (by rw [show y = 140 by omega]; exact sd_ca_140)) (fun h => (by rw [show y = 141 by omega]; exact sd_ca_141)))) (fun h => ((Nat.lt_or_ge y 143).elim (fun h => (by rw [show y = 142 by omega]; exact sd_ca_142)) (fun h => (by rw [show y = 143 by omega]; exact sd_ca_143)))))))))
theorem sd_caA_b144 : ∀ y, 144 ≤ y → y < 146 → sd_ca y = true := fun y h0 h1 => ((Nat.lt_or_ge y 145).elim (fun h => (by rw [show y = 144 by omega]; exact sd_ca_144)) (fun h => (by rw [show y = 145 by omega]; exact sd_ca_145)))
theorem sd_caA : ∀ y, y < 146 → sd_ca y = true := fun y hy => (Nat.lt_or_ge y 16).elim (fun h => sd_caA_b0 y (by omega) h) (fun h => (Nat.lt_or_ge y 32).elim (fun h => sd_caA_b16 y (by omega) h) (fun h => (Nat.lt_or_ge y 48).elim (fun h => sd_caA_b32 y (by omega) h) (fun h => (Nat.lt_or_ge y 64).elim (fun h => sd_caA_b48 y (by omega) h) (fun h => (Nat.lt_or_ge y 80).elim (fun h => sd_caA_b64 y (by omega) h) (fun h => (Nat.lt_or_ge y 96).elim (fun h => sd_caA_b80 y (by omega) h) (fun h => (Nat.lt_or_ge y 112).elim (fun h => sd_caA_b96 y (by omega) h) (fun h => (Nat.lt_or_ge y 128).elim (fun h => sd_caA_b112 y (by omega) h) (fun h => (Nat.lt_or_ge y 144).elim (fun h => sd_caA_b128 y (by omega) h) (fun h => sd_caA_b144 y (by omega) (by omega))))))))))
theorem sd_cmA_b0 : ∀ y, 0 ≤ y → y < 16 → sd_cm y = true := fun y h0 h1 => ((Nat.lt_or_ge y 8).elim (fun h => ((Nat.lt_or_ge y 4).elim (fun h => ((Nat.lt_or_ge y 2).elim (fun h => ((Nat.lt_or_ge y 1).elim (fun h => (by rw [show y = 0 by omega]; exact sd_cm_0)) (fun h => (by rw [show y = 1 by omega]; exact sd_cm_1)))) (fun h => ((Nat.lt_or_ge y 3).elim (fun h => (by rw [show y = 2 by omega]; exact sd_cm_2)) (fun h => (by rw [show y = 3 by omega]; exact sd_cm_3)))))) (fun h => ((Nat.lt_or_ge y 6).elim (fun h => ((Nat.lt_or_ge y 5).elim (fun h => (by rw [show y = 4 by omega]; exact sd_cm_4)) (fun h => (by rw [show y = 5 by omega]; exact sd_cm_5)))) (fun h => ((Nat.lt_or_ge y 7).elim (fun h => (by rw [show y = 6 by omega]; exact sd_cm_6)) (fun h => (by rw [show y = 7 by omega]; exact sd_cm_7)))))))) (fun h => ((Nat.lt_or_ge y 12).elim (fun h => ((Nat.lt_or_ge y 10).elim (fun h => ((Nat.lt_or_ge y 9).elim (fun h => (by rw [show y = 8 by omega]; exact sd_cm_8)) (fun h => (by rw [show y = 9 by omega]; exact sd_cm_9)))) (fun h => ((Nat.lt_or_ge y 11).elim (fun h => (by rw [show y = 10 by omega]; exact sd_cm_10)) (fun h => (by rw [show y = 11 by omega]; exact sd_cm_11)))))) (fun h => ((Nat.lt_or_ge y 14).elim (fun h => ((Nat.lt_or_ge y 13).elim (fun h => (by rw [show y = 12 by omega]; exact sd_cm_12)) (fun h => (by rw [show y = 13 by omega]; exact sd_cm_13)))) (fun h => ((Nat.lt_or_ge y 15).elim (fun h => (by rw [show y = 14 by omega]; exact sd_cm_14)) (fun h => (by rw [show y = 15 by omega]; exact sd_cm_15)))))))))
theorem sd_cmA_b16 : ∀ y, 16 ≤ y → y < 32 → sd_cm y = true := fun y h0 h1 => ((Nat.lt_or_ge y 24).elim (fun h => ((Nat.lt_or_ge y 20).elim (fun h => ((Nat.lt_or_ge y 18).elim (fun h => ((Nat.lt_or_ge y 17).elim (fun h => (by rw [show y = 16 by omega]; exact sd_cm_16)) (fun h => (by rw [show y = 17 by omega]; exact sd_cm_17)))) (fun h => ((Nat.lt_or_ge y 19).elim (fun h => (by rw [show y = 18 by omega]; exact sd_cm_18)) (fun h => (by rw [show y = 19 by omega]; exact sd_cm_19)))))) (fun h => ((Nat.lt_or_ge y 22).elim (fun h => ((Nat.lt_or_ge y 21).elim (fun h => (by rw [show y = 20 by omega]; exact sd_cm_20)) (fun h => (by rw [show y = 21 by omega]; exact sd_cm_21)))) (fun h => ((Nat.lt_or_ge y 23).elim (fun h => (by rw [show y = 22 by omega]; exact sd_cm_22)) (fun h => (by rw [show y = 23 by omega]; exact sd_cm_23)))))))) (fun h => ((Nat.lt_or_ge y 28).elim (fun h => ((Nat.lt_or_ge y 26).elim (fun h => ((Nat.lt_or_ge y 25).elim (fun h => (by rw [show y = 24 by omega]; exact sd_cm_24)) (fun h => (by rw [show y = 25 by omega]; exact sd_cm_25)))) (fun h => ((Nat.lt_or_ge y 27).elim (fun h => (by rw [show y = 26 by omega]; exact sd_cm_26)) (fun h => (by rw [show y = 27 by omega]; exact sd_cm_27)))))) (fun h => ((Nat.lt_or_ge y 30).elim (fun h => ((Nat.lt_or_ge y 29).elim (fun h => (by rw [show y = 28 by omega]; exact sd_cm_28)) (fun h => (by rw [show y = 29 by omega]; exact sd_cm_29)))) (fun h => ((Nat.lt_or_ge y 31).elim (fun h => (by rw [show y = 30 by omega]; exact sd_cm_30)) (fun h => (by rw [show y = 31 by omega]; exact sd_cm_31)))))))))
theorem sd_cmA_b32 : ∀ y, 32 ≤ y → y < 48 → sd_cm y = true := fun y h0 h1 => ((Nat.lt_or_ge y 40).elim (fun h => ((Nat.lt_or_ge y 36).elim (fun h => ((Nat.lt_or_ge y 34).elim (fun h => ((Nat.lt_or_ge y 33).elim (fun h => (by rw [show y = 32 by omega]; exact sd_cm_32)) (fun h => (by rw [show y = 33 by omega]; exact sd_cm_33)))) (fun h => ((Nat.lt_or_ge y 35).elim (fun h => (by rw [show y = 34 by omega]; exact sd_cm_34)) (fun h => (by rw [show y = 35 by omega]; exact sd_cm_35)))))) (fun h => ((Nat.lt_or_ge y 38).elim (fun h => ((Nat.lt_or_ge y 37).elim (fun h => (by rw [show y = 36 by omega]; exact sd_cm_36)) (fun h => (by rw [show y = 37 by omega]; exact sd_cm_37)))) (fun h => ((Nat.lt_or_ge y 39).elim (fun h => (by rw [show y = 38 by omega]; exact sd_cm_38)) (fun h => (by rw [show y = 39 by omega]; exact sd_cm_39)))))))) (fun h => ((Nat.lt_or_ge y 44).elim (fun h => ((Nat.lt_or_ge y 42).elim (fun h => ((Nat.lt_or_ge y 41).elim (fun h => (by rw [show y = 40 by omega]; exact sd_cm_40)) (fun h => (by rw [show y = 41 by omega]; exact sd_cm_41)))) (fun h => ((Nat.lt_or_ge y 43).elim (fun h => (by rw [show y = 42 by omega]; exact sd_cm_42)) (fun h => (by rw [show y = 43 by omega]; exact sd_cm_43)))))) (fun h => ((Nat.lt_or_ge y 46).elim (fun h => ((Nat.lt_or_ge y 45).elim (fun h => (by rw [show y = 44 by omega]; exact sd_cm_44)) (fun h => (by rw [show y = 45 by omega]; exact sd_cm_45)))) (fun h => ((Nat.lt_or_ge y 47).elim (fun h => (by rw [show y = 46 by omega]; exact sd_cm_46)) (fun h => (by rw [show y = 47 by omega]; exact sd_cm_47)))))))))
theorem sd_cmA_b48 : ∀ y, 48 ≤ y → y < 64 → sd_cm y = true := fun y h0 h1 => ((Nat.lt_or_ge y 56).elim (fun h => ((Nat.lt_or_ge y 52).elim (fun h => ((Nat.lt_or_ge y 50).elim (fun h => ((Nat.lt_or_ge y 49).elim (fun h => (by rw [show y = 48 by omega]; exact sd_cm_48)) (fun h => (by rw [show y = 49 by omega]; exact sd_cm_49)))) (fun h => ((Nat.lt_or_ge y 51).elim (fun h => (by rw [show y = 50 by omega]; exact sd_cm_50)) (fun h => (by rw [show y = 51 by omega]; exact sd_cm_51)))))) (fun h => ((Nat.lt_or_ge y 54).elim (fun h => ((Nat.lt_or_ge y 53).elim (fun h => (by rw [show y = 52 by omega]; exact sd_cm_52)) (fun h => (by rw [show y = 53 by omega]; exact sd_cm_53)))) (fun h => ((Nat.lt_or_ge y 55).elim (fun h => (by rw [show y = 54 by omega]; exact sd_cm_54)) (fun h => (by rw [show y = 55 by omega]; exact sd_cm_55)))))))) (fun h => ((Nat.lt_or_ge y 60).elim (fun h => ((Nat.lt_or_ge y 58).elim (fun h => ((Nat.lt_or_ge y 57).elim (fun h => (by rw [show y = 56 by omega]; exact sd_cm_56)) (fun h => (by rw [show y = 57 by omega]; exact sd_cm_57)))) (fun h => ((Nat.lt_or_ge y 59).elim (fun h => (by rw [show y = 58 by omega]; exact sd_cm_58)) (fun h => (by rw [show y = 59 by omega]; exact sd_cm_59)))))) (fun h => ((Nat.lt_or_ge y 62).elim (fun h => ((Nat.lt_or_ge y 61).elim (fun h => (by rw [show y = 60 by omega]; exact sd_cm_60)) (fun h => (by rw [show y = 61 by omega]; exact sd_cm_61)))) (fun h => ((Nat.lt_or_ge y 63).elim (fun h => (by rw [show y = 62 by omega]; exact sd_cm_62)) (fun h => (by rw [show y = 63 by omega]; exact sd_cm_63)))))))))
theorem sd_cmA_b64 : ∀ y, 64 ≤ y → y < 80 → sd_cm y = true := fun y h0 h1 => ((Nat.lt_or_ge y 72).elim (fun h => ((Nat.lt_or_ge y 68).elim (fun h => ((Nat.lt_or_ge y 66).elim (fun h => ((Nat.lt_or_ge y 65).elim (fun h => (by rw [show y = 64 by omega]; exact sd_cm_64)) (fun h => (by rw [show y = 65 by omega]; exact sd_cm_65)))) (fun h => ((Nat.lt_or_ge y 67).elim (fun h => (by rw [show y = 66 by omega]; exact sd_cm_66)) (fun h => (by rw [show y = 67 by omega]; exact sd_cm_67)))))) (fun h => ((Nat.lt_or_ge y 70).elim (fun h => ((Nat.lt_or_ge y 69).elim (fun h => (by rw [show y = 68 by omega]; exact sd_cm_68)) (fun h => (by rw [show y = 69 by omega]; exact sd_cm_69)))) (fun h => ((Nat.lt_or_ge y 71).elim (fun h => (by rw [show y = 70 by omega]; exact sd_cm_70)) (fun h => (by rw [show y = 71 by omega]; exact sd_cm_71)))))))) (fun h => ((Nat.lt_or_ge y 76).elim (fun h => ((Nat.lt_or_ge y 74).elim (fun h => ((Nat.lt_or_ge y 73).elim (fun h => (by rw [show y = 72 by omega]; exact sd_cm_72)) (fun h => (by rw [show y = 73 by omega]; exact sd_cm_73)))) (fun h => ((Nat.lt_or_ge y 75).elim (fun h => (by rw [show y = 74 by omega]; exact sd_cm_74)) (fun h => (by rw [show y = 75 by omega]; exact sd_cm_75)))))) (fun h => ((Nat.lt_or_ge y 78).elim (fun h => ((Nat.lt_or_ge y 77).elim (fun h => (by rw [show y = 76 by omega]; exact sd_cm_76)) (fun h => (by rw [show y = 77 by omega]; exact sd_cm_77)))) (fun h => ((Nat.lt_or_ge y 79).elim (fun h => (by rw [show y = 78 by omega]; exact sd_cm_78)) (fun h => (by rw [show y = 79 by omega]; exact sd_cm_79)))))))))
theorem sd_cmA_b80 : ∀ y, 80 ≤ y → y < 96 → sd_cm y = true := fun y h0 h1 => ((Nat.lt_or_ge y 88).elim (fun h => ((Nat.lt_or_ge y 84).elim (fun h => ((Nat.lt_or_ge y 82).elim (fun h => ((Nat.lt_or_ge y 81).elim (fun h => (by rw [show y = 80 by omega]; exact sd_cm_80)) (fun h => (by rw [show y = 81 by omega]; exact sd_cm_81)))) (fun h => ((Nat.lt_or_ge y 83).elim (fun h => (by rw [show y = 82 by omega]; exact sd_cm_82)) (fun h => (by rw [show y = 83 by omega]; exact sd_cm_83)))))) (fun h => ((Nat.lt_or_ge y 86).elim (fun h => ((Nat.lt_or_ge y 85).elim (fun h => (by rw [show y = 84 by omega]; exact sd_cm_84)) (fun h => (by rw [show y = 85 by omega]; exact sd_cm_85)))) (fun h => ((Nat.lt_or_ge y 87).elim (fun h => (by rw [show y = 86 by omega]; exact sd_cm_86)) (fun h => (by rw [show y = 87 by omega]; exact sd_cm_87)))))))) (fun h => ((Nat.lt_or_ge y 92).elim (fun h => ((Nat.lt_or_ge y 90).elim (fun h => ((Nat.lt_or_ge y 89).elim (fun h => (by rw [show y = 88 by omega]; exact sd_cm_88)) (fun h => (by rw [show y = 89 by omega]; exact sd_cm_89)))) (fun h => ((Nat.lt_or_ge y 91).elim (fun h => (by rw [show y = 90 by omega]; exact sd_cm_90)) (fun h => (by rw [show y = 91 by omega]; exact sd_cm_91)))))) (fun h => ((Nat.lt_or_ge y 94).elim (fun h => ((Nat.lt_or_ge y 93).elim (fun h => (by rw [show y = 92 by omega]; exact sd_cm_92)) (fun h => (by rw [show y = 93 by omega]; exact sd_cm_93)))) (fun h => ((Nat.lt_or_ge y 95).elim (fun h => (by rw [show y = 94 by omega]; exact sd_cm_94)) (fun h => (by rw [show y = 95 by omega]; exact sd_cm_95)))))))))
theorem sd_cmA_b96 : ∀ y, 96 ≤ y → y < 112 → sd_cm y = true := fun y h0 h1 => ((Nat.lt_or_ge y 104).elim (fun h => ((Nat.lt_or_ge y 100).elim (fun h => ((Nat.lt_or_ge y 98).elim (fun h => ((Nat.lt_or_ge y 97).elim (fun h => (by rw [show y = 96 by omega]; exact sd_cm_96)) (fun h => (by rw [show y = 97 by omega]; exact sd_cm_97)))) (fun h => ((Nat.lt_or_ge y 99).elim (fun h => (by rw [show y = 98 by omega]; exact sd_cm_98)) (fun h => (by rw [show y = 99 by omega]; exact sd_cm_99)))))) (fun h => ((Nat.lt_or_ge y 102).elim (fun h => ((Nat.lt_or_ge y 101).elim (fun h => (by rw [show y = 100 by omega]; exact sd_cm_100)) (fun h => (by rw [show y = 101 by omega]; exact sd_cm_101)))) (fun h => ((Nat.lt_or_ge y 103).elim (fun h => (by rw [show y = 102 by omega]; exact sd_cm_102)) (fun h => (by rw [show y = 103 by omega]; exact sd_cm_103)))))))) (fun h => ((Nat.lt_or_ge y 108).elim (fun h => ((Nat.lt_or_ge y 106).elim (fun h => ((Nat.lt_or_ge y 105).elim (fun h => (by rw [show y = 104 by omega]; exact sd_cm_104)) (fun h => (by rw [show y = 105 by omega]; exact sd_cm_105)))) (fun h => ((Nat.lt_or_ge y 107).elim (fun h => (by rw [show y = 106 by omega]; exact sd_cm_106)) (fun h => (by rw [show y = 107 by omega]; exact sd_cm_107)))))) (fun h => ((Nat.lt_or_ge y 110).elim (fun h => ((Nat.lt_or_ge y 109).elim (fun h => (by rw [show y = 108 by omega]; exact sd_cm_108)) (fun h => (by rw [show y = 109 by omega]; exact sd_cm_109)))) (fun h => ((Nat.lt_or_ge y 111).elim (fun h => (by rw [show y = 110 by omega]; exact sd_cm_110)) (fun h => (by rw [show y = 111 by omega]; exact sd_cm_111)))))))))
theorem sd_cmA_b112 : ∀ y, 112 ≤ y → y < 128 → sd_cm y = true := fun y h0 h1 => ((Nat.lt_or_ge y 120).elim (fun h => ((Nat.lt_or_ge y 116).elim (fun h => ((Nat.lt_or_ge y 114).elim (fun h => ((Nat.lt_or_ge y 113).elim (fun h => (by rw [show y = 112 by omega]; exact sd_cm_112)) (fun h => (by rw [show y = 113 by omega]; exact sd_cm_113)))) (fun h => ((Nat.lt_or_ge y 115).elim (fun h => (by rw [show y = 114 by omega]; exact sd_cm_114)) (fun h => (by rw [show y = 115 by omega]; exact sd_cm_115)))))) (fun h => ((Nat.lt_or_ge y 118).elim (fun h => ((Nat.lt_or_ge y 117).elim (fun h => (by rw [show y = 116 by omega]; exact sd_cm_116)) (fun h => (by rw [show y = 117 by omega]; exact sd_cm_117)))) (fun h => ((Nat.lt_or_ge y 119).elim (fun h => (by rw [show y = 118 by omega]; exact sd_cm_118)) (fun h => (by rw [show y = 119 by omega]; exact sd_cm_119)))))))) (fun h => ((Nat.lt_or_ge y 124).elim (fun h => ((Nat.lt_or_ge y 122).elim (fun h => ((Nat.lt_or_ge y 121).elim (fun h => (by rw [show y = 120 by omega]; exact sd_cm_120)) (fun h => (by rw [show y = 121 by omega]; exact sd_cm_121)))) (fun h => ((Nat.lt_or_ge y 123).elim (fun h => (by rw [show y = 122 by omega]; exact sd_cm_122)) (fun h => (by rw [show y = 123 by omega]; exact sd_cm_123)))))) (fun h => ((Nat.lt_or_ge y 126).elim (fun h => ((Nat.lt_or_ge y 125).elim (fun h => (by rw [show y = 124 by omega]; exact sd_cm_124)) (fun h => (by rw [show y = 125 by omega]; exact sd_cm_125)))) (fun h => ((Nat.lt_or_ge y 127).elim (fun h => (by rw [show y = 126 by omega]; exact sd_cm_126)) (fun h => (by rw [show y = 127 by omega]; exact sd_cm_127)))))))))
theorem sd_cmA_b128 : ∀ y, 128 ≤ y → y < 144 → sd_cm y = true := fun y h0 h1 => ((Nat.lt_or_ge y 136).elim (fun h => ((Nat.lt_or_ge y 132).elim (fun h => ((Nat.lt_or_ge y 130).elim (fun h => ((Nat.lt_or_ge y 129).elim (fun h => (by rw [show y = 128 by omega]; exact sd_cm_128)) (fun h => (by rw [show y = 129 by omega]; exact sd_cm_129)))) (fun h => ((Nat.lt_or_ge y 131).elim (fun h => (by rw [show y = 130 by omega]; exact sd_cm_130)) (fun h => (by rw [show y = 131 by omega]; exact sd_cm_131)))))) (fun h => ((Nat.lt_or_ge y 134).elim (fun h => ((Nat.lt_or_ge y 133).elim (fun h => (by rw [show y = 132 by omega]; exact sd_cm_132)) (fun h => (by rw [show y = 133 by omega]; exact sd_cm_133)))) (fun h => ((Nat.lt_or_ge y 135).elim (fun h => (by rw [show y = 134 by omega]; exact sd_cm_134)) (fun h => (by rw [show y = 135 by omega]; exact sd_cm_135)))))))) (fun h => ((Nat.lt_or_ge y 140).elim (fun h => ((Nat.lt_or_ge y 138).elim (fun h => ((Nat.lt_or_ge y 137).elim (fun h => (by rw [show y = 136 by omega]; exact sd_cm_136)) (fun h => (by rw [show y = 137 by omega]; exact sd_cm_137)))) (fun h => ((Nat.lt_or_ge y 139).elim (fun h => (by rw [show y = 138 by omega]; exact sd_cm_138)) (fun h => (by rw [show y = 139 by omega]; exact sd_cm_139)))))) (fun h => ((Nat.lt_or_ge y 142).elim (fun h => ((Nat.lt_or_ge y 141).elim (fun h => (by rw [show y = 140 by omega]; exact sd_cm_140)) (fun h => (by rw [show y = 141 by omega]; exact sd_cm_141)))) (fun h => ((Nat.lt_or_ge y 143).elim (fun h => (by rw [show y = 142 by omega]; exact sd_cm_142)) (fun h => (by rw [show y = 143 by omega]; exact sd_cm_143)))))))))
theorem sd_cmA_b144 : ∀ y, 144 ≤ y → y < 145 → sd_cm y = true := fun y h0 h1 => (by rw [show y = 144 by omega]; exact sd_cm_144)
theorem sd_cmA : ∀ y, y < 145 → sd_cm y = true := fun y hy => (Nat.lt_or_ge y 16).elim (fun h => sd_cmA_b0 y (by omega) h) (fun h => (Nat.lt_or_ge y 32).elim (fun h => sd_cmA_b16 y (by omega) h) (fun h => (Nat.lt_or_ge y 48).elim (fun h => sd_cmA_b32 y (by omega) h) (fun h => (Nat.lt_or_ge y 64).elim (fun h => sd_cmA_b48 y (by omega) h) (fun h => (Nat.lt_or_ge y 80).elim (fun h => sd_cmA_b64 y (by omega) h) (fun h => (Nat.lt_or_ge y 96).elim (fun h => sd_cmA_b80 y (by omega) h) (fun h => (Nat.lt_or_ge y 112).elim (fun h => sd_cmA_b96 y (by omega) h) (fun h => (Nat.lt_or_ge y 128).elim (fun h => sd_cmA_b112 y (by omega) h) (fun h => (Nat.lt_or_ge y 144).elim (fun h => sd_cmA_b128 y (by omega) h) (fun h => sd_cmA_b144 y (by omega) (by omega))))))))))
/-- the tag of the class whose method it is (8: static) -/
def sd_vl : List Nat := [8, 8, 8, 8, 8, 8, 8, 8, 8, 8, 8, 2, 2, 2, 2, 5, 5, 4, 4, 4, 4, 4, 4, 4, 4, 4, 1, 1, 1, 1, 1, 1, 1, 6, 6, 6, 6, 6, 8, 6, 6, 6, 6, 6, 6, 6, 6, 8, 8, 8, 8, 8, 8, 8, 3, 3, 3, 3, 3, 3, 0, 0, 0, 0, 0, 0, 0, 0, 0, 0, 0, 0, 0, 0, 0, 0, 0, 0, 0, 0, 0, 0, 0, 0, 0, 0, 0, 0, 0, 0, 7, 8, 7, 7, 7, 7, 7, 7, 7, 7, 7, 7, 7, 7, 7, 7, 7, 7, 7, 7, 7, 7, 7, 8, 7, 7, 7, 7, 7, 7, 7, 7, 7, 7, 7, 7, 7, 7, 7, 7, 7, 7, 7, 7, 7, 7, 7, 7, 7, 8, 8, 8, 8, 8, 8, 8]
def sd_vt (y : Nat) : Nat := (sd_nth sd_vl y).getD 8
theorem sd_vtA : ∀ y, y < 145 → (sd_mx y).2.2.2.2.1 = false → sd_vt y < 8 ∧ sd_cn (sd_vt y) = (sd_nm y).cls := by decide +kernel
/-- what the check of a method's words says -/
theorem sd_cms {y : Nat} (hy : y < 145) : Cond.code (sd_nm y) (sd_by y) (sd_ml y) (sd_rt y) ∈ lw_tbl ∧ ((sd_mx y).2.2.2.2.1 = true → Cond.static (sd_nm y) ∈ lw_tbl) ∧ ((sd_mx y).2.2.2.2.1 = false → Cond.instanceMethod (sd_nm y) ∈ lw_tbl ∧ 1 ≤ (sd_mx y).2.2.2.1) ∧ ((sd_mx y).2.2.2.2.1 = false → (sd_nm y).name ≠ "<init>" → Cond.selects (sd_nm y).cls (sd_nm y) (sd_nm y) ∈ lw_tbl) ∧ Cond.initialized (sd_nm y).cls ∈ lw_tbl ∧
    ((sd_nm y).cls ≠ "java/lang/invoke/MethodHandle" ∧ (sd_nm y).cls ≠ "java/lang/invoke/VarHandle") ∧ (parseMethodDescriptor (sd_nm y).desc).map (fun d => d.parameters.length) = some ((sd_mx y).2.2.2.1 - if (sd_mx y).2.2.2.2.1 = true then 0 else 1) ∧ sd_ml y ≤ 20 ∧ plainFor (sd_nm y) = true := by
  have h := sd_cmA y hy
  unfold sd_cm at h
  unfold sd_nm sd_by sd_ml sd_rt
  generalize sd_mr y = mr at h ⊢
  generalize sd_mx y = mx at h ⊢
  obtain ⟨nm, bytes, ml, rt, cd⟩ := mr
  obtain ⟨dp, mc, mz, np, stt, ic, im, is, ii⟩ := mx
  simp only [sd_cq, Bool.and_eq_true, decide_eq_true_eq, Bool.or_eq_true] at h
  obtain ⟨⟨⟨⟨⟨⟨⟨⟨h1, h2⟩, h3⟩, h4⟩, h5⟩, h6⟩, h7⟩, h8⟩, h9⟩ := h
  refine ⟨sd_wd_mem h1, fun q => ?_, fun q => ⟨?_, ?_⟩, fun q q2 => ?_, sd_wd_mem h4, h5, h6, h7, h8⟩
  · have q : stt = true := q
    rw [if_pos q] at h2; exact sd_wd_mem h2
  · have q : stt = false := q
    rw [if_neg (by rw [q]; decide)] at h2; exact sd_wd_mem h2
  · have q : stt = false := q
    rcases h9 with h9 | h9
    · rw [q] at h9; cases h9
    · exact h9
  · have q : stt = false := q
    rcases h3 with (h3 | h3) | h3
    · rw [q] at h3; cases h3
    · exact absurd h3 q2
    · exact sd_wd_mem h3
/-- every word of the tables holds on in every later state -/
def sd_gd : Cond → Bool
  | .methodLinkNest .. => true
  | .privateMethod _ => true
  | .arrayOver (.object _) => true
  | w => goodWord w
theorem sd_gdA : lw_tbl.all sd_gd = true := by decide +kernel
theorem sd_pm {x : MethodName} {a a' : Array Value} {s U : State} (hW : s.WarmedH U.vm) (h : (Cond.privateMethod x).before a s = true) : (Cond.privateMethod x).before a' U = true := by
  have h1 : (Cond.privateMethod x).before a (s.setVm U.vm) = true := by
    rw [Cond.before_iff] at h ⊢
    have hm : U.vm.method? = s.vm.method? := funext hW.alike.method?
    simp only [Cond.value, State.methodNamed?_setVm hW.alike, State.vm_setVm, hm] at h ⊢
    exact h
  exact va_tabs rfl (rfl : (s.setVm U.vm).vm = U.vm) h1
theorem sd_pay1 {w : Cond} {args : Array Value} {s : State} (hg : sd_gd w = true) (h : w.before args s = true) (a' : Array Value) (U : State) (hW : s.WarmedH U.vm) : w.before a' U = true := by
  unfold sd_gd at hg
  split at hg
  · exact va_Nw.use rfl (va_Nw.warmM hW (va_Nw.of rfl h))
  · exact sd_pm hW h
  · exact va_AO.use (va_AO.moved hW.alike (va_AO.of h))
  · exact word_at hW (good_of_word hg) h
theorem sd_pay {args : Array Value} {s : State} (hts : ∀ w ∈ lw_tbl, w.before args s = true) : ∀ w ∈ lw_tbl, ∀ (a' : Array Value) (U : State), s.WarmedH U.vm → w.before a' U = true :=
  fun w hw => sd_pay1 (List.all_eq_true.mp sd_gdA w hw) (hts w hw)
section SK
variable {l : Launch} {sc : Option (Nat × (Nat → Int32))} {y : Nat} {rm : Bool} {Q : Option sd_V → sd_H → Prop} {pc : Nat} {ls : List (Option sd_V)} {st r : List sd_V} {h : sd_H} {cs ss : Nat}
theorem sd_RT.ext {p : Program} {e : Env} {R : Room} {s : State} {m : MethodId} {args : Array Value} {below : List Frame} {meth : Method} {c : Code} {D : va_G} {base : Nat} {Z : State → Prop} {ad ad' : sd_A} {h' : sd_H} (hrt : sd_RT l y rm Q p e R s m args below meth c D base Z h ad) (hx : sd_ext h ad h' ad') : sd_RT l y rm Q p e R s m args below meth c D base Z h' ad' :=
  fun r h2 ad2 H2 l2 c2 s2 p2 A2 q1 q2 q3 => hrt r h2 ad2 H2 l2 c2 s2 p2 A2 q1 q2 (hx.tr q3)
theorem sd_VS {base : Nat} {H0 H H' : Heap} {locs : List Loc} (hV : va_S (fun q => base ≤ q) H0 H locs) (hz : H'.size = H.size + 1) (ho : ∀ q : Nat, q < H.size → H'[q]? = H[q]?) : va_S (fun q => base ≤ q) H0 H' locs :=
  ⟨Nat.le_trans hV.1 (by omega), fun x h1 h2 => (ho x (Nat.lt_of_lt_of_le h1 hV.1)).trans (hV.2.1 x h1 h2), hV.2.2⟩
/-- behind a making: the new heap, the old stack and locals -/
theorem sd_made {T : Nat} {ad : sd_A} {D : va_G} {base : Nat} {H H' : Heap} {locs : List Loc} {s : State} {p : Program} {e : Env} {R : Room} {m : MethodId} {args : Array Value} {below : List Frame} {meth : Method} {c : Code} {Z : State → Prop} {lsA : Array Slot} {n : Nat} (hT : T < sd_nT) (hrm : rm = false) (kk : sd_Wq l sc y rm Q pc ls (.inr (.inr (T, some (h.2.2.2 T))) :: r) (sd_nw h T) (cs + 1) (ss + n))
    (C : sd_C p s m args meth c R y) (hb : base ≤ s.heap.size) (hS' : sd_S D base (sd_ad ad h T H.size) (sd_nw h T) s H') (hV : va_S (fun q => base ≤ q) s.heap H locs) (hz : H'.size = H.size + 1) (ho : ∀ q : Nat, q < H.size → H'[q]? = H[q]?)
    (hl : lv_has lsA (sd_ml y) (sd_al ad 0 ls)) (hst : ∀ v ∈ r, sd_ok h v) (hls : ∀ v, some v ∈ ls → sd_ok h v) (hsc : ∀ (L : Nat) (xs : Nat → Int32), sc = some (L, xs) → va_X (ad sd_nT 0) L xs s s.heap ∧ ad sd_nT 0 < base) (hrt : sd_RT l y rm Q p e R s m args below meth c D base Z h ad) (hcs : cs + 1 ≤ sd_mc y ∧ ss + n ≤ sd_mz y) :
    W p l e R s m args below meth c H' locs (cs + 1) (ss + n) Z (F0 m pc lsA (.ref H.size :: r.map (sd_rv ad))) := by
  have hx := sd_nw_ext (ad := ad) (h := h) (a := H.size) hT
  have w := kk p e s m args below meth c R D base (sd_ad ad h T H.size) H' locs lsA Z C hb hS' (sd_VS hV hz ho) (by rw [sd_al_ext hx ls 0 hls]; exact hl)
    (sd_oc (fun t k e => by
      have := Sum.inr.inj (Sum.inr.inj e)
      cases this
      exact Or.inl ⟨hT, by rw [sd_nw_cnt, if_pos rfl]; omega⟩) fun v hv => sd_ok_ext hx (hst v hv)) (fun v hv => sd_ok_ext hx (hls v hv)) (fun q => by rw [hrm] at q; cases q)
    (fun L xs e => by rw [hx.1 sd_nT 0 (Or.inr ⟨rfl, rfl⟩)]; exact hsc L xs e) (hrt.ext hx) hcs
  have e1 : (.inr (.inr (T, some (h.2.2.2 T))) :: r : List sd_V).map (sd_rv (sd_ad ad h T H.size)) = .ref H.size :: r.map (sd_rv ad) := by
    show Value.ref (sd_ad ad h T H.size T (h.2.2.2 T)) :: r.map (sd_rv (sd_ad ad h T H.size)) = _
    rw [sd_ad_new, sd_map_ext hx hst]
  rw [e1] at w
  exact w
theorem sw_new {T ix : Nat} (hd : decode (sd_by y) pc = .ok (.new ix, 3)) (hT : T < 8) (w1 : Cond.classLink (sd_nm y).cls ix (sd_cn T) ∈ lw_tbl) (w2 : Cond.instantiable (sd_cn T) (sd_tn T) ∈ lw_tbl) (w3 : Cond.initialized (sd_cn T) ∈ lw_tbl) (hrm : rm = false) (hc : cs + 1 ≤ sd_mc y ∧ ss + sd_tn T ≤ sd_mz y)
    (kk : sd_Wq l sc y rm Q (pc + 3) ls (.inr (.inr (T, some (h.2.2.2 T))) :: st) (sd_nw h T) (cs + 1) (ss + sd_tn T)) : sd_Wq l sc y rm Q pc ls st h cs ss := by
  intro p e s m args below meth c R D base ad H locs lsA Z C hb hS hV hl hst hls hok hsc hrt hcs
  obtain ⟨hx, hb', -, hown, hts, -, -, -, -, -, hRc, hRs⟩ := id C
  have hT46 : T < sd_nT := show T < 46 by omega
  have hKn := hS.1.1 T _ (sd_cl8 T hT)
  refine W.newcK hx hb' hown (hts _ w1) (hts _ w2) (hts _ w3) rfl hd (Nat.le_trans hc.1 hRc) (Nat.le_trans hc.2 hRs) hKn.2.1 rfl fun H1 kC hkC e1 z1 o1 => ?_
  have born := u_born (sd_fy T) hts (sd_uw T hT) hKn hkC e1 (sd_tyA T hT)
  refine sd_made hT46 hrm kk C hb (sd_S_nw hS hT46 z1 o1 (sd_ob_at hT ?_)) hV z1 o1 hl hst hls hsc hrt hc
  rw [sd_ad_new]
  exact born.to fun j hj => by rw [sd_fv_new, sd_dv (sd_fkA T hT j hj)]
theorem sw_newa {T : Nat} {x : Int32} {at_ : ArrayType} (hd : decode (sd_by y) pc = .ok (.newarray at_, 2)) (h8 : 8 ≤ T) (hT : T < sd_nT) (h3 : sd_fc T 0 < 3) (hty : sd_aty (sd_fc T 0) = newarray.typeOf at_) (w1 : Cond.arrayClass (newarray.typeOf at_) ∈ lw_tbl) (hrm : rm = false) (hc : cs + 1 ≤ sd_mc y ∧ ss + sd_tn T ≤ sd_mz y) (hxn : x = nI (sd_tn T))
    (kk : sd_Wq l sc y rm Q (pc + 2) ls (.inr (.inr (T, some (h.2.2.2 T))) :: r) (sd_nw h T) (cs + 1) (ss + sd_tn T)) : sd_Wq l sc y rm Q pc ls (.inl x :: r) h cs ss := by
  intro p e s m args below meth c R D base ad H locs lsA Z C hb hS hV hl hst hls hok hsc hrt hcs
  obtain ⟨hx, hb', -, hown, hts, -, -, -, -, -, hRc, hRs⟩ := id C
  have hN := sd_tnA T hT
  have hlt : sd_tn T < 2 ^ 31 := Nat.lt_trans hN (by decide)
  have hcb : componentBytes (newarray.typeOf at_) ≤ 8 := by
    rw [← hty]; rcases (show sd_fc T 0 = 0 ∨ sd_fc T 0 = 1 ∨ sd_fc T 0 = 2 by omega) with q | q | q <;> rw [q] <;> decide
  refine va_newaK hx hb' (hts _ w1) rfl hd rfl (by rw [hxn]; exact nI_pos hlt) (by rw [hxn]; exact nI_clamp hlt) (Nat.le_trans (Nat.mul_le_mul (Nat.le_of_lt hN) hcb) (by decide)) (Nat.le_trans hc.1 hRc) (Nat.le_trans hc.2 hRs) rfl fun H1 cA e1 z1 o1 hA hf => ?_
  refine sd_made hT hrm kk C hb (sd_S_nw hS hT z1 o1 (sd_ar_at (cA := cA) h8 hT ?_ ⟨by rw [hty]; exact hA, ?_⟩)) hV z1 o1 hl (sd_o1 hst) hls hsc hrt hc
  · rw [sd_ad_new, e1]
    congr 2
    funext j
    rw [sd_fv_new, sd_fcA T hT h8 j, ← hty]
    rcases (show sd_fc T 0 = 0 ∨ sd_fc T 0 = 1 ∨ sd_fc T 0 = 2 by omega) with q | q | q <;> rw [q] <;> rfl
  · rw [← hty] at hf
    rcases (show sd_fc T 0 = 0 ∨ sd_fc T 0 = 1 ∨ sd_fc T 0 = 2 by omega) with q | q | q <;> rw [q] at hf ⊢ <;> exact hf
theorem sw_anew {T ix t : Nat} {x : Int32} (hd : decode (sd_by y) pc = .ok (.anewarray ix, 3)) (h8 : 8 ≤ T) (hT : T < sd_nT) (ht : sd_fc T 0 = t + 3) (w1 : Cond.classLink (sd_nm y).cls ix (sd_cn t) ∈ lw_tbl) (w2 : Cond.arrayOver (.object (sd_cn t)) ∈ lw_tbl) (hrm : rm = false) (hc : cs + 1 ≤ sd_mc y ∧ ss + sd_tn T ≤ sd_mz y) (hxn : x = nI (sd_tn T))
    (kk : sd_Wq l sc y rm Q (pc + 3) ls (.inr (.inr (T, some (h.2.2.2 T))) :: r) (sd_nw h T) (cs + 1) (ss + sd_tn T)) : sd_Wq l sc y rm Q pc ls (.inl x :: r) h cs ss := by
  intro p e s m args below meth c R D base ad H locs lsA Z C hb hS hV hl hst hls hok hsc hrt hcs
  obtain ⟨hx, hb', -, hown, hts, -, -, -, -, -, hRc, hRs⟩ := id C
  have hN := sd_tnA T hT
  have hlt : sd_tn T < 2 ^ 31 := Nat.lt_trans hN (by decide)
  have hcl : x.toNatClampNeg = sd_tn T := by rw [hxn]; exact nI_clamp hlt
  refine W.anew hx hb' hown (hts _ w1) (hts _ w2) rfl hd rfl (by rw [hxn]; exact nI_pos hlt) (by rw [hcl]; omega) (Nat.le_trans hc.1 hRc) (by rw [hcl]; exact Nat.le_trans hc.2 hRs) fun cA kA comp f1 f2 f3 f4 => ?_
  rw [hcl]
  generalize hH1 : H.push ({ cls := cA, slots := Array.replicate (sd_tn T) .null, vm := .none } : Cell) = H1
  have z1 : H1.size = H.size + 1 := by rw [← hH1, Array.size_push]
  have e1 : H1[H.size]? = some (arrV cA (sd_tn T) (fun _ => .null)) := by rw [← hH1, Array.getElem?_push_size, ← arrV_new]
  have o1 : ∀ q : Nat, q < H.size → H1[q]? = H[q]? := fun q hq => by rw [← hH1, Array.getElem?_push, if_neg (Nat.ne_of_lt hq)]
  have hAr : ArrOfT s cA (.object (sd_cn t)) := fun N z => ⟨(fun k h => by cases h), kA, f2, comp, f3⟩
  refine sd_made hT hrm kk C hb (sd_S_nw hS hT z1 o1 (sd_ar_at (cA := cA) h8 hT ?_ ⟨by rw [ht]; exact hAr, by rw [ht]; exact ⟨kA, comp, f2, f3, f4, f1⟩⟩)) hV z1 o1 hl (sd_o1 hst) hls hsc hrt hc
  rw [sd_ad_new, e1]
  congr 2
  funext j
  rw [sd_fv_new, sd_fcA T hT h8 j, ht]
  rfl
/-- Object.<init> -/
theorem sw_objInit {ix : Nat} {q : Nat × Nat} (hd : decode (sd_by y) pc = .ok (.invokespecial ix, 3)) (w1 : Cond.methodLink (sd_nm y).cls ix Lib.objectInit ∈ lw_tbl) (w2 : Cond.instanceMethod Lib.objectInit ∈ lw_tbl) (w3 : Cond.code Lib.objectInit ⟨#[0xb1]⟩ 1 none ∈ lw_tbl) (hdp : 1 ≤ sd_dp y) (hr : r = [])
    (kk : sd_Wq l sc y rm Q (pc + 3) ls r h cs ss) : sd_Wq l sc y rm Q pc ls (.inr (.inr (q.1, some q.2)) :: r) h cs ss := by
  intro p e s m args below meth c R D base ad H locs lsA Z C hb hS hV hl hst hls hok hsc hrt hcs
  obtain ⟨hx, hb', hml, hown, hts, -, -, -, hRf, hRl, -, -⟩ := id C
  subst hr
  exact W.objInit hx hb' hown (hts _ w1) (hts _ w2) (hts _ w3) rfl (by rw [hml]; exact hl.1) rfl hd (Nat.le_trans hdp hRf) (by show 2 * 0 + 0 + 12 ≤ R.locals; omega) (kk p e s m args below meth c R D base ad H locs lsA Z C hb hS hV hl (sd_o1 hst) hls hok hsc hrt hcs)
def sd_cat (v : sd_V) : Nat := match v with
  | .inr (.inl _) => 2
  | _ => 1
def sd_cats : List sd_V → Nat
  | [] => 0
  | v :: t => sd_cat v + sd_cats t
theorem sd_cats_eq (ad : sd_A) : ∀ r : List sd_V, ((r.map (sd_rv ad)).map fun v => v.category).sum = sd_cats r
  | [] => rfl
  | v :: t => by
    have e : (sd_rv ad v).category = sd_cat v := by
      rcases v with x | x | ⟨u, _ | k⟩ <;> rfl
    simp only [List.map_cons, List.sum_cons, sd_cats, e]
    rw [sd_cats_eq ad t]
/-- the heap behind a call -/
theorem sd_goon {p : Program} {e : Env} {R : Room} {s : State} {m : MethodId} {args a : Array Value} {below : List Frame} {meth : Method} {c : Code} {H : Heap} {locs : List Loc} {mc ms : Nat} {Z : State → Prop} {D : va_G} {base : Nat} {ad : sd_A} {lsA : Array Slot} {st0 rest : List Value} {Q' : Option sd_V → sd_H → Prop}
    (hr : va_Run p l e R s m args below meth c H locs cs ss mc ms (F0 m pc lsA st0) rest (sd_Qc D base ad h Q' a) (fun q => base ≤ q)) (hV : va_S (fun q => base ≤ q) s.heap H locs)
    (kk : ∀ (v : Option sd_V) (h' : sd_H) (ad' : sd_A) (H1 : Heap) (locs1 : List Loc), Q' v h' → sd_ext h ad h' ad' → sd_S D base ad' h' s H1 → va_S (fun q => base ≤ q) s.heap H1 locs1 → (∀ w, v = some w → sd_ok h' w) → W p l e R s m args below meth c H1 locs1 (cs + mc) (ss + ms) Z (F0 m (pc + 3) lsA (sd_rs ad' v ++ rest))) :
    W p l e R s m args below meth c H locs cs ss Z (F0 m pc lsA st0) := by
  intro T hT X
  obtain ⟨v, st₀, t, T', L, h0, X', hL, e1, e2, ⟨r, h', ad', hv, hQ, hx, hS', hrv, hz, hk⟩, st⟩ := hr T hT X
  have hv : v = r.map (sd_rv ad') := Outcome.returned.inj hv
  rw [h0] at hz hk
  have hvm : t.vm.Alike s.vm := by rw [← e2]; exact X'.warmed.alike.symm
  obtain ⟨t2, a1, b1⟩ := kk r h' ad' T'.heap (locs ++ L) hQ hx (by rw [e1]; exact hS'.moved hvm)
    ⟨Nat.le_trans hV.1 (by rw [e1]; exact hz), fun q h1 h2 => by rw [e1, hk q (Nat.lt_of_lt_of_le h1 hV.1) h2]; exact hV.2.1 q h1 h2, fun q hq => by
      rcases List.mem_append.mp hq with h | h
      · exact hV.2.2 q h
      · exact hL q h⟩ hrv T' rfl X'
  refine ⟨t2, st t2 ?_, b1⟩
  have e3 : v.toList = sd_rs ad' r := by
    rw [hv]; cases r <;> rfl
  rw [e3]
  exact a1
theorem sd_blind {D : va_G} {base : Nat} {ad : sd_A} {as : List sd_V} : FrameBlind (sd_Pc D base ad h as) := fun a U g mk q => ⟨q.1, q.2.1, q.2.2.moved (u := U) (U := U.calling g mk a) (Vm.Alike.refl U.vm)⟩
theorem sd_preU {D : va_G} {base : Nat} {ad : sd_A} {as : List sd_V} {s : State} {H : Heap} (hb : base ≤ s.heap.size) (hz : s.heap.size ≤ H.size) (hS : sd_S D base ad h s H) : ∀ U : State, U.heap = H → s.WarmedH U.vm → sd_Pc D base ad h as (as.map (sd_rv ad)).toArray U := fun U hU hW =>
  ⟨rfl, by rw [hU]; omega, by rw [hU]; exact hS.moved hW.alike⟩
/-- how a method y' is called from a method y -/
def sd_how (y y' pc : Nat) (as : List sd_V) : Prop := ∃ ix : Nat,
  (decode (sd_by y) pc = .ok (.invokevirtual ix, 3) ∧ Cond.methodLink (sd_nm y).cls ix (sd_nm y') ∈ lw_tbl ∧ (sd_mx y').2.2.2.2.1 = false ∧ (sd_nm y').name ≠ "<init>" ∧ ∃ (T k : Nat) (as' : List sd_V), as = .inr (.inr (T, some k)) :: as' ∧ T = sd_vt y') ∨
  (decode (sd_by y) pc = .ok (.invokestatic ix, 3) ∧ Cond.methodLink (sd_nm y).cls ix (sd_nm y') ∈ lw_tbl ∧ (sd_mx y').2.2.2.2.1 = true) ∨
  (decode (sd_by y) pc = .ok (.invokespecial ix, 3) ∧ (Cond.methodLink (sd_nm y).cls ix (sd_nm y') ∈ lw_tbl ∨ Cond.methodLinkNest (sd_nm y).cls ix (sd_nm y') "StreamDesk" ∈ lw_tbl) ∧ (sd_mx y').2.2.2.2.1 = false ∧ (sd_nm y').name = "<init>" ∧ sd_rt y' = none ∧ ∃ (T k : Nat) (as' : List sd_V), as = .inr (.inr (T, some k)) :: as')
theorem sw_call {y' : Nat} {as : List sd_V} (hy : y' < 145) (how : sd_how y y' pc as) (hlen : as.length = (sd_mx y').2.2.2.1) (hdp : sd_dp y' + 1 ≤ sd_dp y) (hrest : sd_cats r ≤ 8) (hc : cs + sd_mc y' ≤ sd_mc y ∧ ss + sd_mz y' ≤ sd_mz y)
    (hE : (rm = true → sd_OK h) → sd_E l y' as h (fun v h' => (rm = true → sd_OK h') ∧ sd_Wq l sc y rm Q (pc + 3) ls (v.toList ++ r) h' (cs + sd_mc y') (ss + sd_mz y'))) : sd_Wq l sc y rm Q pc ls (as.reverse ++ r) h cs ss := by
  intro p e s m args below meth c R D base ad H locs lsA Z C hb hS hV hl hst hls hok hsc hrt hcs
  obtain ⟨hx, hb', hml, hown, hts, hlk, hrr, hnm, hRf, hRl, hRc, hRs⟩ := id C
  obtain ⟨c1, c2, c3, c4, c5, c6, c7, c8, c9⟩ := sd_cms hy
  have hoka : ∀ v ∈ as, sd_ok h v := fun v hv => hst v (List.mem_append_left _ (List.mem_reverse.mpr hv))
  have hokr : ∀ v ∈ r, sd_ok h v := fun v hv => hst v (List.mem_append_right _ hv)
  have hM := hE hok hoka D base ad
  have hR : (sd_rm y').frames + 1 ≤ R.frames ∧ 8 + (sd_ml y' + 11) + (sd_rm y').locals ≤ R.locals := by
    refine ⟨Nat.le_trans hdp hRf, ?_⟩
    show 8 + (sd_ml y' + 11) + 39 * sd_dp y' ≤ R.locals
    omega
  have hcode : Cond.code (sd_nm y') (sd_by y') (sd_ml y') (sd_rt y') ∈ sd_ws y' := List.mem_cons_self
  have hpay : ∀ w ∈ sd_ws y', ∀ (a' : Array Value) (U : State), s.WarmedH U.vm → w.before a' U = true := by
    intro w hw
    rcases List.mem_cons.mp hw with rfl | hw
    · exact sd_pay hts _ c1
    · exact sd_pay hts w hw
  have hf : cs + sd_mc y' ≤ R.cells ∧ ss + sd_mz y' ≤ R.slots := ⟨Nat.le_trans hc.1 hRc, Nat.le_trans hc.2 hRs⟩
  have hroom : 2 * (F0 m pc lsA ((as.reverse ++ r).map (sd_rv ad))).monitorRoom + ((r.map (sd_rv ad)).map fun v => v.category).sum ≤ 8 := lv_room (by rw [sd_cats_eq]; exact hrest)
  have hparm : ∀ n, (sd_mx y').2.2.2.1 - (if (sd_mx y').2.2.2.2.1 = true then 0 else 1) = n → ∀ sig, parseMethodDescriptor (sd_nm y').desc = some sig → n = sig.parameters.length := by
    intro n hn sig hs
    rw [hs] at c7
    rw [← hn]
    exact (Option.some.inj c7).symm
  have hzz := hV.1
  have hB : ∀ ix n, (sd_mx y').2.2.2.1 - (if (sd_mx y').2.2.2.2.1 = true then 0 else 1) = n → Cond.methodLink (sd_nm y).cls ix (sd_nm y') ∈ lw_tbl → CallB R s args (sd_nm y).cls ix (sd_nm y') (sd_by y') (sd_ml y') (sd_rt y') (sd_ws y') (sd_rm y') (sd_mc y') (sd_mz y') n := fun ix n hn hw =>
    ⟨rfl, rfl, hR.1, hR.2, hpay, hcode, hts _ c1, hts _ c5, c6, hparm n hn, hts _ hw⟩
  have fix : CallFix p m c (sd_by y) (sd_ml y) s args lw_tbl (sd_nm y).cls := ⟨hx, hb', hml, hown, hts⟩
  have go : va_Run p l e R s m args below meth c H locs cs ss (sd_mc y') (sd_mz y') (F0 m pc lsA ((as.reverse ++ r).map (sd_rv ad))) (r.map (sd_rv ad)) (sd_Qc D base ad h (fun v h' => (rm = true → sd_OK h') ∧ sd_Wq l sc y rm Q (pc + 3) ls (v.toList ++ r) h' (cs + sd_mc y') (ss + sd_mz y')) (as.map (sd_rv ad)).toArray) (fun q => base ≤ q) := by
    obtain ⟨ix, ⟨d1, d2, d3, d4, T, k, as', rfl, hTT⟩ | ⟨d1, d2, d3⟩ | ⟨d1, d2, d3, d4, d5, T, k, as', rfl⟩⟩ := how
    · obtain ⟨v1, v2⟩ := sd_vtA y' hy d3
      subst hTT
      have hkk := sd_okR (hoka _ List.mem_cons_self) (show sd_vt y' < 46 by omega)
      obtain ⟨cell, g1, g2, g3, -⟩ := hS.ob v1 hkk
      refine va_runV (C := (sd_nm y').cls) (b := ad (sd_vt y') k) (As := as'.map (sd_rv ad)) (n := as'.length) fix hM ⟨hB ix _ ?_ d2, hts _ (c3 d3).1, hts _ (c4 d3 d4)⟩ ⟨sd_blind, ⟨cell, g1, by rw [g3]; rfl, ?_⟩, sd_preU (as := .inr (.inr (sd_vt y', some k)) :: as') hb hzz hS⟩ rfl (by simp) hl.1 (by simp [sd_rv, va_rf]) hroom d1 hf
      · rw [← hlen, d3]; simp
      · rw [g2, ← v2]; exact (hS.1.1 _ _ (sd_cl8 _ v1)).2.1
    · refine va_runS (As := as.map (sd_rv ad)) (n := as.length) fix hM ⟨hB ix _ ?_ d2, hts _ (c2 d3)⟩ ⟨sd_blind, sd_preU hb hzz hS⟩ rfl (by simp) hl.1 (by simp) hroom d1 hf
      rw [← hlen, d3]; simp
    · rcases d2 with d2 | d2
      · have hB' := hB ix as'.length (by rw [← hlen, d3]; simp) d2
        rw [d5] at hB'
        exact va_runI (b := ad T k) (As := as'.map (sd_rv ad)) (n := as'.length) fix hM ⟨hB', d4, hts _ (c3 d3).1⟩ ⟨sd_blind, sd_preU (as := .inr (.inr (T, some k)) :: as') hb hzz hS⟩ rfl (by simp) hl.1 (by simp [sd_rv, va_rf]) hroom d1 hf
      · have hN : va_CN R s args (sd_nm y).cls ix (sd_nm y') "StreamDesk" (sd_by y') (sd_ml y') none (sd_ws y') (sd_rm y') (sd_mc y') (sd_mz y') as'.length := by
          rw [← d5]
          exact ⟨⟨rfl, rfl, hR.1, hR.2, hpay, hcode⟩, hts _ c1, hts _ c5, c6, hparm _ (by rw [← hlen, d3]; simp), hts _ d2⟩
        exact va_runIN (b := ad T k) (As := as'.map (sd_rv ad)) fix hM ⟨hN, d4, hts _ (c3 d3).1⟩ ⟨sd_blind, sd_preU (as := .inr (.inr (T, some k)) :: as') hb hzz hS⟩ rfl (by simp) hl.1 (by simp [sd_rv, va_rf]) hroom d1 hf
  refine sd_goon go hV fun v h' ad' H1 locs1 hQ hx' hS' hV' hrv => ?_
  have w := hQ.2 p e s m args below meth c R D base ad' H1 locs1 lsA Z C hb hS' hV' (by rw [sd_al_ext hx' ls 0 hls]; exact hl) (fun u hu => by
      rcases List.mem_append.mp hu with hu | hu
      · cases v with
        | none => cases hu
        | some w => exact hrv u (by rw [List.mem_singleton.mp hu])
      · exact sd_ok_ext hx' (hokr u hu)) (fun u hu => sd_ok_ext hx' (hls u hu)) hQ.1 (fun L xs e => by rw [hx'.1 sd_nT 0 (Or.inr ⟨rfl, rfl⟩)]; exact hsc L xs e) (hrt.ext hx') hc
  have e1 : (v.toList ++ r).map (sd_rv ad') = sd_rs ad' v ++ r.map (sd_rv ad) := by
    rw [List.map_append, sd_map_ext hx' hokr]
    cases v <;> rfl
  rw [e1] at w
  exact w
theorem sw_ret {v : Option sd_V} (hk : sd_rk y pc v) (hQ : Q v h) : sd_Wq l sc y rm Q pc ls v.toList h cs ss := by
  intro p e s m args below meth c R D base ad H locs lsA Z C hb hS hV hl hst hls hok hsc hrt hcs
  have w := hrt v h ad H locs cs ss pc lsA hQ hok (sd_ext.rf h ad) hS hV hcs.1 hcs.2 (fun u hu => hst u (by rw [hu]; exact List.mem_singleton.mpr rfl)) hk
  cases v <;> exact w
/-! switches -/
def sd_sw (k : Nat → Prop) (x : Int32) (d : Nat) : Int32 → List Nat → Prop
  | _, [] => k d
  | c, t :: ts => (x = c → k t) ∧ (¬ x = c → sd_sw k x d (c + 1) ts)
theorem sd_p1 {c : Int32} (h0 : 0 ≤ c.toInt) (h1 : c.toInt < 100000) : (c + 1).toInt = c.toInt + 1 := by
  rw [Int32.toInt_add]
  have : (1 : Int32).toInt = 1 := rfl
  rw [this]
  exact Int.bmod_eq_of_le (by omega) (by omega)
theorem sd_sw_in {k : Nat → Prop} {x : Int32} {d : Nat} : ∀ (ts : List Nat) (c : Int32) (j t : Nat), 0 ≤ c.toInt → c.toInt + (ts.length : Int) < 100000 → x.toInt = c.toInt + (j : Int) → ts[j]? = some t → sd_sw k x d c ts → k t
  | [], _, _, _, _, _, _, h, _ => by simp at h
  | a :: ts, c, 0, t, h0, h1, hx, ht, hs => by
    simp at ht
    rw [← ht]
    exact hs.1 (Int32.toInt_inj.mp (by rw [hx]; simp))
  | a :: ts, c, j + 1, t, h0, h1, hx, ht, hs => by
    have hlen : ((a :: ts).length : Int) = (ts.length : Int) + 1 := by simp
    rw [hlen] at h1
    have hc1 := sd_p1 h0 (by omega)
    have hne : ¬ x = c := fun e => by rw [e] at hx; omega
    exact sd_sw_in ts (c + 1) j t (by omega) (by omega) (by rw [hc1, hx]; omega) (by simpa using ht) (hs.2 hne)
theorem sd_sw_out {k : Nat → Prop} {x : Int32} {d : Nat} : ∀ (ts : List Nat) (c : Int32), 0 ≤ c.toInt → c.toInt + (ts.length : Int) < 100000 → (x.toInt < c.toInt ∨ c.toInt + (ts.length : Int) ≤ x.toInt) → sd_sw k x d c ts → k d
  | [], _, _, _, _, hs => hs
  | a :: ts, c, h0, h1, hx, hs => by
    have hlen : ((a :: ts).length : Int) = (ts.length : Int) + 1 := by simp
    rw [hlen] at h1 hx
    have hc1 := sd_p1 h0 (by omega)
    have hne : ¬ x = c := fun e => by rw [e] at hx; omega
    exact sd_sw_out ts (c + 1) (by omega) (by omega) (by omega) (hs.2 hne)
theorem sw_tab {df lo hi : Int} {of : Array Int} {len d : Nat} {x c0 : Int32} {ts : List Nat} (hd : decode (sd_by y) pc = .ok (.tableswitch df lo hi of, len)) (h1 : (pc : Int) + df = (d : Int)) (h2 : lo = c0.toInt) (h3 : hi = lo + (ts.length : Int) - 1) (h4 : 0 ≤ lo) (h5 : hi < 1000) (h6 : of.toList.map (fun o => (pc : Int) + o) = ts.map (fun t : Nat => (t : Int)))
    (kk : sd_sw (fun t => sd_Wq l sc y rm Q t ls r h cs ss) x d c0 ts) : sd_Wq l sc y rm Q pc ls (.inl x :: r) h cs ss := by
  have key : ∀ (t : Nat) (off : Int), (pc : Int) + off = (t : Int) → ((¬ x.toInt < lo ∧ ¬ hi < x.toInt ∧ of[(x.toInt - lo).toNat]? = some off) ∨ ((x.toInt < lo ∨ hi < x.toInt) ∧ off = df)) → sd_Wq l sc y rm Q t ls r h cs ss → sd_Wq l sc y rm Q pc ls (.inl x :: r) h cs ss := by
    intro t off ht hcase k
    intro p e s m args below meth c R D base ad H locs lsA Z C hb hS hV hl hst hls hok hsc hrt hcs
    have w := k p e s m args below meth c R D base ad H locs lsA Z C hb hS hV hl (sd_o1 hst) hls hok hsc hrt hcs
    rcases hcase with ⟨q1, q2, q3⟩ | ⟨q1, rfl⟩
    · exact lv_tableIn C.1 C.2.1 hd q1 q2 q3 ht w
    · exact lv_tableOut C.1 C.2.1 hd q1 ht w
  by_cases hr : x.toInt < lo ∨ hi < x.toInt
  · exact key d df h1 (Or.inr ⟨hr, rfl⟩) (sd_sw_out (x := x) (k := fun t => sd_Wq l sc y rm Q t ls r h cs ss) ts c0 (by omega) (by omega) (by omega) kk)
  · have hj : (x.toInt - lo).toNat < ts.length := by omega
    obtain ⟨j, hjj⟩ : ∃ j : Nat, j = (x.toInt - lo).toNat := ⟨_, rfl⟩
    rw [← hjj] at hj
    have hl2 : of.toList.length = ts.length := by
      have := congrArg List.length h6
      simpa using this
    have ho : j < of.toList.length := by rw [hl2]; exact hj
    have e6 : (pc : Int) + of.toList[j] = (ts[j] : Int) := by
      have := congrArg (fun l : List Int => l[j]?) h6
      simp only [List.getElem?_map, List.getElem?_eq_getElem ho, List.getElem?_eq_getElem hj, Option.map_some, Option.some.injEq] at this
      exact this
    refine key ts[j] of.toList[j] e6 (Or.inl ⟨fun q => hr (Or.inl q), fun q => hr (Or.inr q), ?_⟩) (sd_sw_in (x := x) (k := fun t => sd_Wq l sc y rm Q t ls r h cs ss) ts c0 j ts[j] (by omega) (by omega) (by omega) (List.getElem?_eq_getElem hj) kk)
    rw [← hjj, ← Array.getElem?_toList, List.getElem?_eq_getElem ho]
end SK
/-! a method's contract out of its body -/
def sd_en : List sd_V → List (Option sd_V)
  | [] => []
  | .inr (.inl x) :: t => some (.inr (.inl x)) :: none :: sd_en t
  | v :: t => some v :: sd_en t
theorem sd_en_len (ad : sd_A) : ∀ as : List sd_V, (lg_sl (as.map (sd_rv ad))).length = (sd_en as).length
  | [] => rfl
  | .inl x :: t => by simpa [lg_sl, sd_rv, sd_en, Value.category] using sd_en_len ad t
  | .inr (.inl x) :: t => by simpa [lg_sl, sd_rv, sd_en, Value.category] using sd_en_len ad t
  | .inr (.inr (u, none)) :: t => by simpa [lg_sl, sd_rv, sd_en, va_rf, Value.category] using sd_en_len ad t
  | .inr (.inr (u, some k)) :: t => by simpa [lg_sl, sd_rv, sd_en, va_rf, Value.category] using sd_en_len ad t
theorem sd_al_app (ad : sd_A) (n : Nat) : ∀ (ls : List (Option sd_V)) (b : Nat), sd_al ad b (ls ++ List.replicate n none) = sd_al ad b ls
  | [], b => by
    induction n generalizing b with
    | zero => rfl
    | succ n ih => exact ih (b + 1)
  | none :: t, b => sd_al_app ad n t (b + 1)
  | some v :: t, b => by
    show (b, sd_rv ad v) :: sd_al ad (b + 1) (t ++ List.replicate n none) = (b, sd_rv ad v) :: sd_al ad (b + 1) t
    rw [sd_al_app ad n t (b + 1)]
theorem sd_al_en (ad : sd_A) : ∀ (as : List sd_V) (b : Nat), sd_al ad b (sd_en as) = lv_args b (as.map (sd_rv ad))
  | [], _ => rfl
  | .inl x :: t, b => by
    show (b, _) :: sd_al ad (b + 1) (sd_en t) = (b, _) :: lv_args _ _
    rw [sd_al_en ad t (b + 1)]; rfl
  | .inr (.inl x) :: t, b => by
    show (b, _) :: sd_al ad (b + 2) (sd_en t) = (b, _) :: lv_args _ _
    rw [sd_al_en ad t (b + 2)]; rfl
  | .inr (.inr (u, none)) :: t, b => by
    show (b, _) :: sd_al ad (b + 1) (sd_en t) = (b, _) :: lv_args _ _
    rw [sd_al_en ad t (b + 1)]; rfl
  | .inr (.inr (u, some k)) :: t, b => by
    show (b, _) :: sd_al ad (b + 1) (sd_en t) = (b, _) :: lv_args _ _
    rw [sd_al_en ad t (b + 1)]; rfl
theorem sd_en_ok {h : sd_H} : ∀ (as : List sd_V), (∀ v ∈ as, sd_ok h v) → ∀ v, some v ∈ sd_en as → sd_ok h v
  | [], _, _, hv => by cases hv
  | .inl x :: t, ho, v, hv => by
    rcases List.mem_cons.mp hv with hv | hv
    · cases hv; exact ho _ List.mem_cons_self
    · exact sd_en_ok t (fun u hu => ho u (List.mem_cons_of_mem _ hu)) v hv
  | .inr (.inl x) :: t, ho, v, hv => by
    rcases List.mem_cons.mp hv with hv | hv
    · cases hv; exact ho _ List.mem_cons_self
    · rcases List.mem_cons.mp hv with hv | hv
      · cases hv
      · exact sd_en_ok t (fun u hu => ho u (List.mem_cons_of_mem _ hu)) v hv
  | .inr (.inr q) :: t, ho, v, hv => by
    rcases List.mem_cons.mp hv with hv | hv
    · cases hv; exact ho _ List.mem_cons_self
    · exact sd_en_ok t (fun u hu => ho u (List.mem_cons_of_mem _ hu)) v hv
def sd_in (y : Nat) (as : List sd_V) : List (Option sd_V) := sd_en as ++ List.replicate (sd_ml y - (sd_en as).length) none
theorem sd_intro {l : Launch} {y : Nat} {rm : Bool} {Q Q2 : Option sd_V → sd_H → Prop} {h : sd_H} {as : List sd_V} (hy : y < 145) (hok : rm = true → sd_OK h) (hQ2 : ∀ v h', Q v h' → (rm = true → sd_OK h') → Q2 v h') (hlen : (sd_en as).length ≤ sd_ml y)
    (hw : sd_Wq l none y rm Q 0 (sd_in y as) [] h 0 0) : sd_E l y as h Q2 := by
  intro hoka D base ad
  obtain ⟨c1, -, -, -, -, -, -, -, c9⟩ := sd_cms hy
  refine MetFree.of_bodySF (code := sd_by y) (maxLocals := sd_ml y) (ret := sd_rt y) c9 ?_ ?_
  · intro args s m hpre hn
    obtain ⟨meth, c, h1, h2, h3, h4, h5, h6, -, -⟩ := Cond.code_spec hn (atoms_spec (ws := sd_ws y) hpre _ List.mem_cons_self)
    exact ⟨meth, c, h1, h2, h3, h4, h5, h6⟩
  · intro p e s m args below meth c s₁ B hml hP _
    have hh0 : s₁.heap = s.heap := by rw [B.state]; rfl
    obtain ⟨rfl, hbs, hS⟩ := hP
    have hts := atoms_spec (ws := sd_ws y) B.pre
    have C : sd_C p s m (as.map (sd_rv ad)).toArray meth c (headSpec (sd_ws y) (sd_rm y)).room y :=
      ⟨B.exec, B.bytes, hml, findClass_of_methodNamed B.named, fun w hw => hts w (List.mem_cons_of_mem _ hw), B.notSynchronized, B.returns, (name_of_methodNamed B.named B.method).1, Nat.le_refl _, Nat.le_refl _, Nat.le_refl _, Nat.le_refl _⟩
    have hl := lv_entry (as.map (sd_rv ad)) (n := sd_ml y) (by rw [sd_en_len]; exact hlen)
    have K : W p l e (headSpec (sd_ws y) (sd_rm y)).room s m (as.map (sd_rv ad)).toArray below meth c s.heap [] 0 0 (MQ below (sd_Qc D base ad h Q2) (as.map (sd_rv ad)).toArray s (sd_mc y) (sd_mz y) (fun q => base ≤ q)) (entryFrame m (as.map (sd_rv ad)).toArray (sd_ml y)) := by
      rw [lg_entry_eq]
      refine hw p e s m _ below meth c _ D base ad s.heap [] _ _ C hbs hS va_S.rf (by rw [sd_in, sd_al_app, sd_al_en]; exact hl) (fun v hv => by cases hv) (fun v hv => ?_) hok (fun L xs q => by cases q) ?_ ⟨Nat.zero_le _, Nat.zero_le _⟩
      · rcases List.mem_append.mp hv with hv | hv
        · exact sd_en_ok as hoka v hv
        · rw [List.mem_replicate] at hv; cases hv.2
      · intro r h' ad' H' locs' cs' ss' pc' lsA' q1 q2 q3 q4 q5 q6 q7 q8 q9
        refine W.widen (k := sd_mc y) (n := sd_mz y) q6 q7 ?_
        have fin : ∀ t : State, t.heap = H' → s.WarmedH t.vm → sd_Qc D base ad h Q2 (as.map (sd_rv ad)).toArray s (.returned (r.map (sd_rv ad'))) t := fun t ht hWm => ⟨r, h', ad', rfl, hQ2 r h' q1 q2, q3, by rw [ht]; exact q4.moved hWm.alike, q8, q5.F ht⟩
        rcases r with _ | x | x | z
        · exact W.vret B.exec B.bytes (B.returns.trans q9.2) fin q5.2.2 q9.1
        · rcases q9.2 with hr | ⟨hr, hx⟩
          · exact W.iret B.exec B.bytes (B.returns.trans hr) fin q5.2.2 q9.1
          · refine W.zret (ty := .boolean) B.exec B.bytes (B.returns.trans hr) ?_ fin q5.2.2 q9.1
            rcases hx with rfl | rfl <;> decide
        · exact W.lret B.exec B.bytes (B.returns.trans q9.2) fin q5.2.2 q9.1
        · obtain ⟨n, hn⟩ := q9.2
          exact W.aret B.exec B.bytes (B.returns.trans hn) (Or.inl ⟨n, rfl⟩) (sd_rv_null ad' z) fin q5.2.2 q9.1
    obtain ⟨t, a1, o, b1, b2, b3⟩ := K s₁ hh0 (Stand.of_body B)
    exact ⟨t, o, a1, b1, b2, ⟨b3.1, b3.2⟩⟩

