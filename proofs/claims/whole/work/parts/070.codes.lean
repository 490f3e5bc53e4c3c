/-! each method's code word stands in the table -/
set_option maxRecDepth 100000 in
theorem am_kc_0 : lw_tbl[(am_mp 0).2.1]? = some (.code (am_y 0) (am_b 0) (am_L 0) (am_r 0)) := rfl
set_option maxRecDepth 100000 in
theorem am_kc_1 : lw_tbl[(am_mp 1).2.1]? = some (.code (am_y 1) (am_b 1) (am_L 1) (am_r 1)) := rfl
set_option maxRecDepth 100000 in
theorem am_kc_2 : lw_tbl[(am_mp 2).2.1]? = some (.code (am_y 2) (am_b 2) (am_L 2) (am_r 2)) := rfl
set_option maxRecDepth 100000 in
theorem am_kc_3 : lw_tbl[(am_mp 3).2.1]? = some (.code (am_y 3) (am_b 3) (am_L 3) (am_r 3)) := rfl
set_option maxRecDepth 100000 in
theorem am_kc_4 : lw_tbl[(am_mp 4).2.1]? = some (.code (am_y 4) (am_b 4) (am_L 4) (am_r 4)) := rfl
set_option maxRecDepth 100000 in
theorem am_kc_5 : lw_tbl[(am_mp 5).2.1]? = some (.code (am_y 5) (am_b 5) (am_L 5) (am_r 5)) := rfl
set_option maxRecDepth 100000 in
theorem am_kc_6 : lw_tbl[(am_mp 6).2.1]? = some (.code (am_y 6) (am_b 6) (am_L 6) (am_r 6)) := rfl
set_option maxRecDepth 100000 in
theorem am_kc_7 : lw_tbl[(am_mp 7).2.1]? = some (.code (am_y 7) (am_b 7) (am_L 7) (am_r 7)) := rfl
set_option maxRecDepth 100000 in
theorem am_kc_8 : lw_tbl[(am_mp 8).2.1]? = some (.code (am_y 8) (am_b 8) (am_L 8) (am_r 8)) := rfl
set_option maxRecDepth 100000 in
theorem am_kc_9 : lw_tbl[(am_mp 9).2.1]? = some (.code (am_y 9) (am_b 9) (am_L 9) (am_r 9)) := rfl
set_option maxRecDepth 100000 in
theorem am_kc_10 : lw_tbl[(am_mp 10).2.1]? = some (.code (am_y 10) (am_b 10) (am_L 10) (am_r 10)) := rfl
set_option maxRecDepth 100000 in
theorem am_kc_11 : lw_tbl[(am_mp 11).2.1]? = some (.code (am_y 11) (am_b 11) (am_L 11) (am_r 11)) := rfl
set_option maxRecDepth 100000 in
theorem am_kc_12 : lw_tbl[(am_mp 12).2.1]? = some (.code (am_y 12) (am_b 12) (am_L 12) (am_r 12)) := rfl
set_option maxRecDepth 100000 in
theorem am_kc_13 : lw_tbl[(am_mp 13).2.1]? = some (.code (am_y 13) (am_b 13) (am_L 13) (am_r 13)) := rfl
set_option maxRecDepth 100000 in
theorem am_kc_14 : lw_tbl[(am_mp 14).2.1]? = some (.code (am_y 14) (am_b 14) (am_L 14) (am_r 14)) := rfl
set_option maxRecDepth 100000 in
theorem am_kc_15 : lw_tbl[(am_mp 15).2.1]? = some (.code (am_y 15) (am_b 15) (am_L 15) (am_r 15)) := rfl
set_option maxRecDepth 100000 in
theorem am_kc_16 : lw_tbl[(am_mp 16).2.1]? = some (.code (am_y 16) (am_b 16) (am_L 16) (am_r 16)) := rfl
set_option maxRecDepth 100000 in
theorem am_kc_17 : lw_tbl[(am_mp 17).2.1]? = some (.code (am_y 17) (am_b 17) (am_L 17) (am_r 17)) := rfl
set_option maxRecDepth 100000 in
theorem am_kc_18 : lw_tbl[(am_mp 18).2.1]? = some (.code (am_y 18) (am_b 18) (am_L 18) (am_r 18)) := rfl
set_option maxRecDepth 100000 in
theorem am_kc_19 : lw_tbl[(am_mp 19).2.1]? = some (.code (am_y 19) (am_b 19) (am_L 19) (am_r 19)) := rfl
set_option maxRecDepth 100000 in
theorem am_kc_20 : lw_tbl[(am_mp 20).2.1]? = some (.code (am_y 20) (am_b 20) (am_L 20) (am_r 20)) := rfl
set_option maxRecDepth 100000 in
theorem am_kc_21 : lw_tbl[(am_mp 21).2.1]? = some (.code (am_y 21) (am_b 21) (am_L 21) (am_r 21)) := rfl
set_option maxRecDepth 100000 in
theorem am_kc_22 : lw_tbl[(am_mp 22).2.1]? = some (.code (am_y 22) (am_b 22) (am_L 22) (am_r 22)) := rfl
set_option maxRecDepth 100000 in
theorem am_kc_23 : lw_tbl[(am_mp 23).2.1]? = some (.code (am_y 23) (am_b 23) (am_L 23) (am_r 23)) := rfl
set_option maxRecDepth 100000 in
theorem am_kc_24 : lw_tbl[(am_mp 24).2.1]? = some (.code (am_y 24) (am_b 24) (am_L 24) (am_r 24)) := rfl
set_option maxRecDepth 100000 in
theorem am_kc_25 : lw_tbl[(am_mp 25).2.1]? = some (.code (am_y 25) (am_b 25) (am_L 25) (am_r 25)) := rfl
set_option maxRecDepth 100000 in
theorem am_kc_26 : lw_tbl[(am_mp 26).2.1]? = some (.code (am_y 26) (am_b 26) (am_L 26) (am_r 26)) := rfl
set_option maxRecDepth 100000 in
theorem am_kc_27 : lw_tbl[(am_mp 27).2.1]? = some (.code (am_y 27) (am_b 27) (am_L 27) (am_r 27)) := rfl
set_option maxRecDepth 100000 in
theorem am_kc_28 : lw_tbl[(am_mp 28).2.1]? = some (.code (am_y 28) (am_b 28) (am_L 28) (am_r 28)) := rfl
set_option maxRecDepth 100000 in
theorem am_kc_29 : lw_tbl[(am_mp 29).2.1]? = some (.code (am_y 29) (am_b 29) (am_L 29) (am_r 29)) := rfl
set_option maxRecDepth 100000 in
theorem am_kc_30 : lw_tbl[(am_mp 30).2.1]? = some (.code (am_y 30) (am_b 30) (am_L 30) (am_r 30)) := rfl
set_option maxRecDepth 100000 in
theorem am_kc_31 : lw_tbl[(am_mp 31).2.1]? = some (.code (am_y 31) (am_b 31) (am_L 31) (am_r 31)) := rfl
set_option maxRecDepth 100000 in
theorem am_kc_32 : lw_tbl[(am_mp 32).2.1]? = some (.code (am_y 32) (am_b 32) (am_L 32) (am_r 32)) := rfl
set_option maxRecDepth 100000 in
theorem am_kc_33 : lw_tbl[(am_mp 33).2.1]? = some (.code (am_y 33) (am_b 33) (am_L 33) (am_r 33)) := rfl
set_option maxRecDepth 100000 in
theorem am_kc_34 : lw_tbl[(am_mp 34).2.1]? = some (.code (am_y 34) (am_b 34) (am_L 34) (am_r 34)) := rfl
set_option maxRecDepth 100000 in
theorem am_kc_35 : lw_tbl[(am_mp 35).2.1]? = some (.code (am_y 35) (am_b 35) (am_L 35) (am_r 35)) := rfl
set_option maxRecDepth 100000 in
theorem am_kc_36 : lw_tbl[(am_mp 36).2.1]? = some (.code (am_y 36) (am_b 36) (am_L 36) (am_r 36)) := rfl
set_option maxRecDepth 100000 in
theorem am_kc_37 : lw_tbl[(am_mp 37).2.1]? = some (.code (am_y 37) (am_b 37) (am_L 37) (am_r 37)) := rfl
set_option maxRecDepth 100000 in
theorem am_kc_38 : lw_tbl[(am_mp 38).2.1]? = some (.code (am_y 38) (am_b 38) (am_L 38) (am_r 38)) := rfl
set_option maxRecDepth 100000 in
theorem am_kc_39 : lw_tbl[(am_mp 39).2.1]? = some (.code (am_y 39) (am_b 39) (am_L 39) (am_r 39)) := rfl
set_option maxRecDepth 100000 in
theorem am_kc_40 : lw_tbl[(am_mp 40).2.1]? = some (.code (am_y 40) (am_b 40) (am_L 40) (am_r 40)) := rfl
set_option maxRecDepth 100000 in
theorem am_kc_41 : lw_tbl[(am_mp 41).2.1]? = some (.code (am_y 41) (am_b 41) (am_L 41) (am_r 41)) := rfl
set_option maxRecDepth 100000 in
theorem am_kc_42 : lw_tbl[(am_mp 42).2.1]? = some (.code (am_y 42) (am_b 42) (am_L 42) (am_r 42)) := rfl
set_option maxRecDepth 100000 in
theorem am_kc_43 : lw_tbl[(am_mp 43).2.1]? = some (.code (am_y 43) (am_b 43) (am_L 43) (am_r 43)) := rfl
set_option maxRecDepth 100000 in
theorem am_kc_44 : lw_tbl[(am_mp 44).2.1]? = some (.code (am_y 44) (am_b 44) (am_L 44) (am_r 44)) := rfl
set_option maxRecDepth 100000 in
theorem am_kc_45 : lw_tbl[(am_mp 45).2.1]? = some (.code (am_y 45) (am_b 45) (am_L 45) (am_r 45)) := rfl
set_option maxRecDepth 100000 in
theorem am_kc_46 : lw_tbl[(am_mp 46).2.1]? = some (.code (am_y 46) (am_b 46) (am_L 46) (am_r 46)) := rfl
set_option maxRecDepth 100000 in
theorem am_kc_47 : lw_tbl[(am_mp 47).2.1]? = some (.code (am_y 47) (am_b 47) (am_L 47) (am_r 47)) := rfl
set_option maxRecDepth 100000 in
theorem am_kc_48 : lw_tbl[(am_mp 48).2.1]? = some (.code (am_y 48) (am_b 48) (am_L 48) (am_r 48)) := rfl
set_option maxRecDepth 100000 in
theorem am_kc_49 : lw_tbl[(am_mp 49).2.1]? = some (.code (am_y 49) (am_b 49) (am_L 49) (am_r 49)) := rfl
set_option maxRecDepth 100000 in
theorem am_kc0 : ∀ k, k < 50 → lw_tbl[(am_mp (0 + k)).2.1]? = some (.code (am_y (0 + k)) (am_b (0 + k)) (am_L (0 + k)) (am_r (0 + k))) := by
  intro k hk
  match k, hk with
  | 0, _ => exact am_kc_0
  | 1, _ => exact am_kc_1
  | 2, _ => exact am_kc_2
  | 3, _ => exact am_kc_3
  | 4, _ => exact am_kc_4
  | 5, _ => exact am_kc_5
  | 6, _ => exact am_kc_6
  | 7, _ => exact am_kc_7
  | 8, _ => exact am_kc_8
  | 9, _ => exact am_kc_9
  | 10, _ => exact am_kc_10
  | 11, _ => exact am_kc_11
  | 12, _ => exact am_kc_12
  | 13, _ => exact am_kc_13
  | 14, _ => exact am_kc_14
  | 15, _ => exact am_kc_15
  | 16, _ => exact am_kc_16
  | 17, _ => exact am_kc_17
  | 18, _ => exact am_kc_18
  | 19, _ => exact am_kc_19
  | 20, _ => exact am_kc_20
  | 21, _ => exact am_kc_21
  | 22, _ => exact am_kc_22
  | 23, _ => exact am_kc_23
  | 24, _ => exact am_kc_24
  | 25, _ => exact am_kc_25
  | 26, _ => exact am_kc_26
  | 27, _ => exact am_kc_27
  | 28, _ => exact am_kc_28
  | 29, _ => exact am_kc_29
  | 30, _ => exact am_kc_30
  | 31, _ => exact am_kc_31
  | 32, _ => exact am_kc_32
  | 33, _ => exact am_kc_33
  | 34, _ => exact am_kc_34
  | 35, _ => exact am_kc_35
  | 36, _ => exact am_kc_36
  | 37, _ => exact am_kc_37
  | 38, _ => exact am_kc_38
  | 39, _ => exact am_kc_39
  | 40, _ => exact am_kc_40
  | 41, _ => exact am_kc_41
  | 42, _ => exact am_kc_42
  | 43, _ => exact am_kc_43
  | 44, _ => exact am_kc_44
  | 45, _ => exact am_kc_45
  | 46, _ => exact am_kc_46
  | 47, _ => exact am_kc_47
  | 48, _ => exact am_kc_48
  | 49, _ => exact am_kc_49
  | k + 50, h => exact absurd h (by omega)
