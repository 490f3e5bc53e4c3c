/-! each method's code word stands in the table -/
set_option maxRecDepth 100000 in
theorem am_kc_50 : lw_tbl[(am_mp 50).2.1]? = some (.code (am_y 50) (am_b 50) (am_L 50) (am_r 50)) := rfl
set_option maxRecDepth 100000 in
theorem am_kc_51 : lw_tbl[(am_mp 51).2.1]? = some (.code (am_y 51) (am_b 51) (am_L 51) (am_r 51)) := rfl
set_option maxRecDepth 100000 in
theorem am_kc_52 : lw_tbl[(am_mp 52).2.1]? = some (.code (am_y 52) (am_b 52) (am_L 52) (am_r 52)) := rfl
set_option maxRecDepth 100000 in
theorem am_kc_53 : lw_tbl[(am_mp 53).2.1]? = some (.code (am_y 53) (am_b 53) (am_L 53) (am_r 53)) := rfl
set_option maxRecDepth 100000 in
theorem am_kc_54 : lw_tbl[(am_mp 54).2.1]? = some (.code (am_y 54) (am_b 54) (am_L 54) (am_r 54)) := rfl
set_option maxRecDepth 100000 in
theorem am_kc_55 : lw_tbl[(am_mp 55).2.1]? = some (.code (am_y 55) (am_b 55) (am_L 55) (am_r 55)) := rfl
set_option maxRecDepth 100000 in
theorem am_kc_56 : lw_tbl[(am_mp 56).2.1]? = some (.code (am_y 56) (am_b 56) (am_L 56) (am_r 56)) := rfl
set_option maxRecDepth 100000 in
theorem am_kc_57 : lw_tbl[(am_mp 57).2.1]? = some (.code (am_y 57) (am_b 57) (am_L 57) (am_r 57)) := rfl
set_option maxRecDepth 100000 in
theorem am_kc_58 : lw_tbl[(am_mp 58).2.1]? = some (.code (am_y 58) (am_b 58) (am_L 58) (am_r 58)) := rfl
set_option maxRecDepth 100000 in
theorem am_kc_59 : lw_tbl[(am_mp 59).2.1]? = some (.code (am_y 59) (am_b 59) (am_L 59) (am_r 59)) := rfl
set_option maxRecDepth 100000 in
theorem am_kc_60 : lw_tbl[(am_mp 60).2.1]? = some (.code (am_y 60) (am_b 60) (am_L 60) (am_r 60)) := rfl
set_option maxRecDepth 100000 in
theorem am_kc_61 : lw_tbl[(am_mp 61).2.1]? = some (.code (am_y 61) (am_b 61) (am_L 61) (am_r 61)) := rfl
set_option maxRecDepth 100000 in
theorem am_kc_62 : lw_tbl[(am_mp 62).2.1]? = some (.code (am_y 62) (am_b 62) (am_L 62) (am_r 62)) := rfl
set_option maxRecDepth 100000 in
theorem am_kc_63 : lw_tbl[(am_mp 63).2.1]? = some (.code (am_y 63) (am_b 63) (am_L 63) (am_r 63)) := rfl
set_option maxRecDepth 100000 in
theorem am_kc_64 : lw_tbl[(am_mp 64).2.1]? = some (.code (am_y 64) (am_b 64) (am_L 64) (am_r 64)) := rfl
set_option maxRecDepth 100000 in
theorem am_kc_65 : lw_tbl[(am_mp 65).2.1]? = some (.code (am_y 65) (am_b 65) (am_L 65) (am_r 65)) := rfl
set_option maxRecDepth 100000 in
theorem am_kc_66 : lw_tbl[(am_mp 66).2.1]? = some (.code (am_y 66) (am_b 66) (am_L 66) (am_r 66)) := rfl
set_option maxRecDepth 100000 in
theorem am_kc_67 : lw_tbl[(am_mp 67).2.1]? = some (.code (am_y 67) (am_b 67) (am_L 67) (am_r 67)) := rfl
set_option maxRecDepth 100000 in
theorem am_kc_68 : lw_tbl[(am_mp 68).2.1]? = some (.code (am_y 68) (am_b 68) (am_L 68) (am_r 68)) := rfl
set_option maxRecDepth 100000 in
theorem am_kc_69 : lw_tbl[(am_mp 69).2.1]? = some (.code (am_y 69) (am_b 69) (am_L 69) (am_r 69)) := rfl
set_option maxRecDepth 100000 in
theorem am_kc_70 : lw_tbl[(am_mp 70).2.1]? = some (.code (am_y 70) (am_b 70) (am_L 70) (am_r 70)) := rfl
set_option maxRecDepth 100000 in
theorem am_kc_71 : lw_tbl[(am_mp 71).2.1]? = some (.code (am_y 71) (am_b 71) (am_L 71) (am_r 71)) := rfl
set_option maxRecDepth 100000 in
theorem am_kc_72 : lw_tbl[(am_mp 72).2.1]? = some (.code (am_y 72) (am_b 72) (am_L 72) (am_r 72)) := rfl
set_option maxRecDepth 100000 in
theorem am_kc_73 : lw_tbl[(am_mp 73).2.1]? = some (.code (am_y 73) (am_b 73) (am_L 73) (am_r 73)) := rfl
set_option maxRecDepth 100000 in
theorem am_kc_74 : lw_tbl[(am_mp 74).2.1]? = some (.code (am_y 74) (am_b 74) (am_L 74) (am_r 74)) := rfl
set_option maxRecDepth 100000 in
theorem am_kc_75 : lw_tbl[(am_mp 75).2.1]? = some (.code (am_y 75) (am_b 75) (am_L 75) (am_r 75)) := rfl
set_option maxRecDepth 100000 in
theorem am_kc_76 : lw_tbl[(am_mp 76).2.1]? = some (.code (am_y 76) (am_b 76) (am_L 76) (am_r 76)) := rfl
set_option maxRecDepth 100000 in
theorem am_kc_77 : lw_tbl[(am_mp 77).2.1]? = some (.code (am_y 77) (am_b 77) (am_L 77) (am_r 77)) := rfl
set_option maxRecDepth 100000 in
theorem am_kc_78 : lw_tbl[(am_mp 78).2.1]? = some (.code (am_y 78) (am_b 78) (am_L 78) (am_r 78)) := rfl
set_option maxRecDepth 100000 in
theorem am_kc_79 : lw_tbl[(am_mp 79).2.1]? = some (.code (am_y 79) (am_b 79) (am_L 79) (am_r 79)) := rfl
set_option maxRecDepth 100000 in
theorem am_kc_80 : lw_tbl[(am_mp 80).2.1]? = some (.code (am_y 80) (am_b 80) (am_L 80) (am_r 80)) := rfl
set_option maxRecDepth 100000 in
theorem am_kc_81 : lw_tbl[(am_mp 81).2.1]? = some (.code (am_y 81) (am_b 81) (am_L 81) (am_r 81)) := rfl
set_option maxRecDepth 100000 in
theorem am_kc_82 : lw_tbl[(am_mp 82).2.1]? = some (.code (am_y 82) (am_b 82) (am_L 82) (am_r 82)) := rfl
set_option maxRecDepth 100000 in
theorem am_kc_83 : lw_tbl[(am_mp 83).2.1]? = some (.code (am_y 83) (am_b 83) (am_L 83) (am_r 83)) := rfl
set_option maxRecDepth 100000 in
theorem am_kc_84 : lw_tbl[(am_mp 84).2.1]? = some (.code (am_y 84) (am_b 84) (am_L 84) (am_r 84)) := rfl
set_option maxRecDepth 100000 in
theorem am_kc_85 : lw_tbl[(am_mp 85).2.1]? = some (.code (am_y 85) (am_b 85) (am_L 85) (am_r 85)) := rfl
set_option maxRecDepth 100000 in
theorem am_kc_86 : lw_tbl[(am_mp 86).2.1]? = some (.code (am_y 86) (am_b 86) (am_L 86) (am_r 86)) := rfl
set_option maxRecDepth 100000 in
theorem am_kc_87 : lw_tbl[(am_mp 87).2.1]? = some (.code (am_y 87) (am_b 87) (am_L 87) (am_r 87)) := rfl
set_option maxRecDepth 100000 in
theorem am_kc_88 : lw_tbl[(am_mp 88).2.1]? = some (.code (am_y 88) (am_b 88) (am_L 88) (am_r 88)) := rfl
set_option maxRecDepth 100000 in
theorem am_kc_89 : lw_tbl[(am_mp 89).2.1]? = some (.code (am_y 89) (am_b 89) (am_L 89) (am_r 89)) := rfl
set_option maxRecDepth 100000 in
theorem am_kc_90 : lw_tbl[(am_mp 90).2.1]? = some (.code (am_y 90) (am_b 90) (am_L 90) (am_r 90)) := rfl
set_option maxRecDepth 100000 in
theorem am_kc_91 : lw_tbl[(am_mp 91).2.1]? = some (.code (am_y 91) (am_b 91) (am_L 91) (am_r 91)) := rfl
set_option maxRecDepth 100000 in
theorem am_kc_92 : lw_tbl[(am_mp 92).2.1]? = some (.code (am_y 92) (am_b 92) (am_L 92) (am_r 92)) := rfl
set_option maxRecDepth 100000 in
theorem am_kc_93 : lw_tbl[(am_mp 93).2.1]? = some (.code (am_y 93) (am_b 93) (am_L 93) (am_r 93)) := rfl
set_option maxRecDepth 100000 in
theorem am_kc_94 : lw_tbl[(am_mp 94).2.1]? = some (.code (am_y 94) (am_b 94) (am_L 94) (am_r 94)) := rfl
set_option maxRecDepth 100000 in
theorem am_kc_95 : lw_tbl[(am_mp 95).2.1]? = some (.code (am_y 95) (am_b 95) (am_L 95) (am_r 95)) := rfl
set_option maxRecDepth 100000 in
theorem am_kc_96 : lw_tbl[(am_mp 96).2.1]? = some (.code (am_y 96) (am_b 96) (am_L 96) (am_r 96)) := rfl
set_option maxRecDepth 100000 in
theorem am_kc_97 : lw_tbl[(am_mp 97).2.1]? = some (.code (am_y 97) (am_b 97) (am_L 97) (am_r 97)) := rfl
set_option maxRecDepth 100000 in
theorem am_kc_98 : lw_tbl[(am_mp 98).2.1]? = some (.code (am_y 98) (am_b 98) (am_L 98) (am_r 98)) := rfl
set_option maxRecDepth 100000 in
theorem am_kc_99 : lw_tbl[(am_mp 99).2.1]? = some (.code (am_y 99) (am_b 99) (am_L 99) (am_r 99)) := rfl
set_option maxRecDepth 100000 in
theorem am_kc1 : ∀ k, k < 50 → lw_tbl[(am_mp (50 + k)).2.1]? = some (.code (am_y (50 + k)) (am_b (50 + k)) (am_L (50 + k)) (am_r (50 + k))) := by
  intro k hk
  match k, hk with
  | 0, _ => exact am_kc_50
  | 1, _ => exact am_kc_51
  | 2, _ => exact am_kc_52
  | 3, _ => exact am_kc_53
  | 4, _ => exact am_kc_54
  | 5, _ => exact am_kc_55
  | 6, _ => exact am_kc_56
  | 7, _ => exact am_kc_57
  | 8, _ => exact am_kc_58
  | 9, _ => exact am_kc_59
  | 10, _ => exact am_kc_60
  | 11, _ => exact am_kc_61
  | 12, _ => exact am_kc_62
  | 13, _ => exact am_kc_63
  | 14, _ => exact am_kc_64
  | 15, _ => exact am_kc_65
  | 16, _ => exact am_kc_66
  | 17, _ => exact am_kc_67
  | 18, _ => exact am_kc_68
  | 19, _ => exact am_kc_69
  | 20, _ => exact am_kc_70
  | 21, _ => exact am_kc_71
  | 22, _ => exact am_kc_72
  | 23, _ => exact am_kc_73
  | 24, _ => exact am_kc_74
  | 25, _ => exact am_kc_75
  | 26, _ => exact am_kc_76
  | 27, _ => exact am_kc_77
  | 28, _ => exact am_kc_78
  | 29, _ => exact am_kc_79
  | 30, _ => exact am_kc_80
  | 31, _ => exact am_kc_81
  | 32, _ => exact am_kc_82
  | 33, _ => exact am_kc_83
  | 34, _ => exact am_kc_84
  | 35, _ => exact am_kc_85
  | 36, _ => exact am_kc_86
  | 37, _ => exact am_kc_87
  | 38, _ => exact am_kc_88
  | 39, _ => exact am_kc_89
  | 40, _ => exact am_kc_90
  | 41, _ => exact am_kc_91
  | 42, _ => exact am_kc_92
  | 43, _ => exact am_kc_93
  | 44, _ => exact am_kc_94
  | 45, _ => exact am_kc_95
  | 46, _ => exact am_kc_96
  | 47, _ => exact am_kc_97
  | 48, _ => exact am_kc_98
  | 49, _ => exact am_kc_99
  | k + 50, h => exact absurd h (by omega)
