/-! ===== of each method: its code, its arguments ===== -/
theorem nof_0 : mNof mXt 0 = (1, some 2) := rfl
theorem mq_0 : (mXt 0).2.2.2.2.2.2.2 = mc_0 := rfl
theorem ml_0 {as : List mV} (h : Nat.ble (mEnt as).length 1 = true) : Nat.ble (mEnt as).length (mXt 0).2.2.1 = true := h
theorem nof_1 : mNof mXt 1 = (1, some 9) := rfl
theorem mq_1 : (mXt 1).2.2.2.2.2.2.2 = mc_1 := rfl
theorem ml_1 {as : List mV} (h : Nat.ble (mEnt as).length 1 = true) : Nat.ble (mEnt as).length (mXt 1).2.2.1 = true := h
theorem nof_2 : mNof mXt 2 = (2, some 6) := rfl
theorem mq_2 : (mXt 2).2.2.2.2.2.2.2 = mc_2 := rfl
theorem ml_2 {as : List mV} (h : Nat.ble (mEnt as).length 2 = true) : Nat.ble (mEnt as).length (mXt 2).2.2.1 = true := h
theorem nof_3 : mNof mXt 3 = (1, some 3) := rfl
theorem mq_3 : (mXt 3).2.2.2.2.2.2.2 = mc_3 := rfl
theorem ml_3 {as : List mV} (h : Nat.ble (mEnt as).length 1 = true) : Nat.ble (mEnt as).length (mXt 3).2.2.1 = true := h
theorem nof_4 : mNof mXt 4 = (1, some 8) := rfl
theorem mq_4 : (mXt 4).2.2.2.2.2.2.2 = mc_4 := rfl
theorem ml_4 {as : List mV} (h : Nat.ble (mEnt as).length 1 = true) : Nat.ble (mEnt as).length (mXt 4).2.2.1 = true := h
theorem nof_5 : mNof mXt 5 = (1, some 8) := rfl
theorem mq_5 : (mXt 5).2.2.2.2.2.2.2 = mc_5 := rfl
theorem ml_5 {as : List mV} (h : Nat.ble (mEnt as).length 2 = true) : Nat.ble (mEnt as).length (mXt 5).2.2.1 = true := h
theorem nof_6 : mNof mXt 6 = (1, some 4) := rfl
theorem mq_6 : (mXt 6).2.2.2.2.2.2.2 = mc_6 := rfl
theorem ml_6 {as : List mV} (h : Nat.ble (mEnt as).length 2 = true) : Nat.ble (mEnt as).length (mXt 6).2.2.1 = true := h
theorem nof_7 : mNof mXt 7 = (2, some 7) := rfl
theorem mq_7 : (mXt 7).2.2.2.2.2.2.2 = mc_7 := rfl
theorem ml_7 {as : List mV} (h : Nat.ble (mEnt as).length 3 = true) : Nat.ble (mEnt as).length (mXt 7).2.2.1 = true := h
theorem nof_8 : mNof mXt 8 = (2, some 5) := rfl
theorem mq_8 : (mXt 8).2.2.2.2.2.2.2 = mc_8 := rfl
theorem ml_8 {as : List mV} (h : Nat.ble (mEnt as).length 3 = true) : Nat.ble (mEnt as).length (mXt 8).2.2.1 = true := h
theorem nof_9 : mNof mXt 9 = (2, none) := rfl
theorem mq_9 : (mXt 9).2.2.2.2.2.2.2 = mc_9 := rfl
theorem ml_9 {as : List mV} (h : Nat.ble (mEnt as).length 2 = true) : Nat.ble (mEnt as).length (mXt 9).2.2.1 = true := h
theorem nof_10 : mNof mXt 10 = (1, some 0) := rfl
theorem mq_10 : (mXt 10).2.2.2.2.2.2.2 = mc_10 := rfl
theorem ml_10 {as : List mV} (h : Nat.ble (mEnt as).length 1 = true) : Nat.ble (mEnt as).length (mXt 10).2.2.1 = true := h
theorem nof_11 : mNof mXt 11 = (3, some 1) := rfl
theorem mq_11 : (mXt 11).2.2.2.2.2.2.2 = mc_11 := rfl
theorem ml_11 {as : List mV} (h : Nat.ble (mEnt as).length 3 = true) : Nat.ble (mEnt as).length (mXt 11).2.2.1 = true := h
theorem nof_12 : mNof mXt 12 = (2, some 2) := rfl
theorem mq_12 : (mXt 12).2.2.2.2.2.2.2 = mc_12 := rfl
theorem ml_12 {as : List mV} (h : Nat.ble (mEnt as).length 2 = true) : Nat.ble (mEnt as).length (mXt 12).2.2.1 = true := h
theorem nof_13 : mNof mXt 13 = (2, some 9) := rfl
theorem mq_13 : (mXt 13).2.2.2.2.2.2.2 = mc_13 := rfl
theorem ml_13 {as : List mV} (h : Nat.ble (mEnt as).length 2 = true) : Nat.ble (mEnt as).length (mXt 13).2.2.1 = true := h
theorem nof_14 : mNof mXt 14 = (1, some 2) := rfl
theorem mq_14 : (mXt 14).2.2.2.2.2.2.2 = mc_14 := rfl
theorem ml_14 {as : List mV} (h : Nat.ble (mEnt as).length 2 = true) : Nat.ble (mEnt as).length (mXt 14).2.2.1 = true := h
theorem nof_15 : mNof mXt 15 = (1, some 2) := rfl
theorem mq_15 : (mXt 15).2.2.2.2.2.2.2 = mc_15 := rfl
theorem ml_15 {as : List mV} (h : Nat.ble (mEnt as).length 1 = true) : Nat.ble (mEnt as).length (mXt 15).2.2.1 = true := h
theorem nof_16 : mNof mXt 16 = (1, some 6) := rfl
theorem mq_16 : (mXt 16).2.2.2.2.2.2.2 = mc_16 := rfl
theorem ml_16 {as : List mV} (h : Nat.ble (mEnt as).length 2 = true) : Nat.ble (mEnt as).length (mXt 16).2.2.1 = true := h
theorem nof_17 : mNof mXt 17 = (1, some 9) := rfl
theorem mq_17 : (mXt 17).2.2.2.2.2.2.2 = mc_17 := rfl
theorem ml_17 {as : List mV} (h : Nat.ble (mEnt as).length 1 = true) : Nat.ble (mEnt as).length (mXt 17).2.2.1 = true := h
theorem nof_18 : mNof mXt 18 = (1, some 6) := rfl
theorem mq_18 : (mXt 18).2.2.2.2.2.2.2 = mc_18 := rfl
theorem ml_18 {as : List mV} (h : Nat.ble (mEnt as).length 1 = true) : Nat.ble (mEnt as).length (mXt 18).2.2.1 = true := h
theorem nof_19 : mNof mXt 19 = (1, some 9) := rfl
theorem mq_19 : (mXt 19).2.2.2.2.2.2.2 = mc_19 := rfl
theorem ml_19 {as : List mV} (h : Nat.ble (mEnt as).length 1 = true) : Nat.ble (mEnt as).length (mXt 19).2.2.1 = true := h
theorem nof_20 : mNof mXt 20 = (1, none) := rfl
theorem mq_20 : (mXt 20).2.2.2.2.2.2.2 = mc_20 := rfl
theorem ml_20 {as : List mV} (h : Nat.ble (mEnt as).length 1 = true) : Nat.ble (mEnt as).length (mXt 20).2.2.1 = true := h
theorem nof_21 : mNof mXt 21 = (1, some 9) := rfl
theorem mq_21 : (mXt 21).2.2.2.2.2.2.2 = mc_21 := rfl
theorem ml_21 {as : List mV} (h : Nat.ble (mEnt as).length 1 = true) : Nat.ble (mEnt as).length (mXt 21).2.2.1 = true := h
theorem nof_22 : mNof mXt 22 = (2, some 6) := rfl
theorem mq_22 : (mXt 22).2.2.2.2.2.2.2 = mc_22 := rfl
theorem ml_22 {as : List mV} (h : Nat.ble (mEnt as).length 2 = true) : Nat.ble (mEnt as).length (mXt 22).2.2.1 = true := h
theorem nof_23 : mNof mXt 23 = (2, some 6) := rfl
theorem mq_23 : (mXt 23).2.2.2.2.2.2.2 = mc_23 := rfl
theorem ml_23 {as : List mV} (h : Nat.ble (mEnt as).length 2 = true) : Nat.ble (mEnt as).length (mXt 23).2.2.1 = true := h
theorem nof_24 : mNof mXt 24 = (2, some 3) := rfl
theorem mq_24 : (mXt 24).2.2.2.2.2.2.2 = mc_24 := rfl
theorem ml_24 {as : List mV} (h : Nat.ble (mEnt as).length 2 = true) : Nat.ble (mEnt as).length (mXt 24).2.2.1 = true := h
theorem nof_25 : mNof mXt 25 = (2, some 6) := rfl
theorem mq_25 : (mXt 25).2.2.2.2.2.2.2 = mc_25 := rfl
theorem ml_25 {as : List mV} (h : Nat.ble (mEnt as).length 2 = true) : Nat.ble (mEnt as).length (mXt 25).2.2.1 = true := h
theorem nof_26 : mNof mXt 26 = (3, some 6) := rfl
theorem mq_26 : (mXt 26).2.2.2.2.2.2.2 = mc_26 := rfl
theorem ml_26 {as : List mV} (h : Nat.ble (mEnt as).length 3 = true) : Nat.ble (mEnt as).length (mXt 26).2.2.1 = true := h
theorem nof_27 : mNof mXt 27 = (2, some 6) := rfl
theorem mq_27 : (mXt 27).2.2.2.2.2.2.2 = mc_27 := rfl
theorem ml_27 {as : List mV} (h : Nat.ble (mEnt as).length 2 = true) : Nat.ble (mEnt as).length (mXt 27).2.2.1 = true := h
theorem nof_28 : mNof mXt 28 = (2, some 6) := rfl
theorem mq_28 : (mXt 28).2.2.2.2.2.2.2 = mc_28 := rfl
theorem ml_28 {as : List mV} (h : Nat.ble (mEnt as).length 3 = true) : Nat.ble (mEnt as).length (mXt 28).2.2.1 = true := h
theorem nof_29 : mNof mXt 29 = (3, some 8) := rfl
theorem mq_29 : (mXt 29).2.2.2.2.2.2.2 = mc_29 := rfl
theorem ml_29 {as : List mV} (h : Nat.ble (mEnt as).length 3 = true) : Nat.ble (mEnt as).length (mXt 29).2.2.1 = true := h
theorem nof_30 : mNof mXt 30 = (2, some 8) := rfl
theorem mq_30 : (mXt 30).2.2.2.2.2.2.2 = mc_30 := rfl
theorem ml_30 {as : List mV} (h : Nat.ble (mEnt as).length 2 = true) : Nat.ble (mEnt as).length (mXt 30).2.2.1 = true := h
theorem nof_31 : mNof mXt 31 = (2, some 8) := rfl
theorem mq_31 : (mXt 31).2.2.2.2.2.2.2 = mc_31 := rfl
theorem ml_31 {as : List mV} (h : Nat.ble (mEnt as).length 2 = true) : Nat.ble (mEnt as).length (mXt 31).2.2.1 = true := h
theorem nof_32 : mNof mXt 32 = (3, some 8) := rfl
theorem mq_32 : (mXt 32).2.2.2.2.2.2.2 = mc_32 := rfl
theorem ml_32 {as : List mV} (h : Nat.ble (mEnt as).length 3 = true) : Nat.ble (mEnt as).length (mXt 32).2.2.1 = true := h
theorem nof_33 : mNof mXt 33 = (1, some 2) := rfl
theorem mq_33 : (mXt 33).2.2.2.2.2.2.2 = mc_33 := rfl
theorem ml_33 {as : List mV} (h : Nat.ble (mEnt as).length 1 = true) : Nat.ble (mEnt as).length (mXt 33).2.2.1 = true := h
theorem nof_34 : mNof mXt 34 = (2, some 8) := rfl
theorem mq_34 : (mXt 34).2.2.2.2.2.2.2 = mc_34 := rfl
theorem ml_34 {as : List mV} (h : Nat.ble (mEnt as).length 3 = true) : Nat.ble (mEnt as).length (mXt 34).2.2.1 = true := h
theorem nof_35 : mNof mXt 35 = (1, some 4) := rfl
theorem mq_35 : (mXt 35).2.2.2.2.2.2.2 = mc_35 := rfl
theorem ml_35 {as : List mV} (h : Nat.ble (mEnt as).length 1 = true) : Nat.ble (mEnt as).length (mXt 35).2.2.1 = true := h
theorem nof_36 : mNof mXt 36 = (4, some 2) := rfl
theorem mq_36 : (mXt 36).2.2.2.2.2.2.2 = mc_36 := rfl
theorem ml_36 {as : List mV} (h : Nat.ble (mEnt as).length 4 = true) : Nat.ble (mEnt as).length (mXt 36).2.2.1 = true := h
theorem nof_37 : mNof mXt 37 = (1, none) := rfl
theorem mq_37 : (mXt 37).2.2.2.2.2.2.2 = mc_37 := rfl
theorem ml_37 {as : List mV} (h : Nat.ble (mEnt as).length 1 = true) : Nat.ble (mEnt as).length (mXt 37).2.2.1 = true := h
theorem nof_38 : mNof mXt 38 = (2, none) := rfl
theorem mq_38 : (mXt 38).2.2.2.2.2.2.2 = mc_38 := rfl
theorem ml_38 {as : List mV} (h : Nat.ble (mEnt as).length 2 = true) : Nat.ble (mEnt as).length (mXt 38).2.2.1 = true := h
theorem nof_39 : mNof mXt 39 = (6, some 2) := rfl
theorem mq_39 : (mXt 39).2.2.2.2.2.2.2 = mc_39 := rfl
theorem ml_39 {as : List mV} (h : Nat.ble (mEnt as).length 7 = true) : Nat.ble (mEnt as).length (mXt 39).2.2.1 = true := h
theorem nof_40 : mNof mXt 40 = (2, none) := rfl
theorem mq_40 : (mXt 40).2.2.2.2.2.2.2 = mc_40 := rfl
theorem ml_40 {as : List mV} (h : Nat.ble (mEnt as).length 2 = true) : Nat.ble (mEnt as).length (mXt 40).2.2.1 = true := h
theorem nof_41 : mNof mXt 41 = (1, some 8) := rfl
theorem mq_41 : (mXt 41).2.2.2.2.2.2.2 = mc_41 := rfl
theorem ml_41 {as : List mV} (h : Nat.ble (mEnt as).length 1 = true) : Nat.ble (mEnt as).length (mXt 41).2.2.1 = true := h
theorem nof_42 : mNof mXt 42 = (1, some 8) := rfl
theorem mq_42 : (mXt 42).2.2.2.2.2.2.2 = mc_42 := rfl
theorem ml_42 {as : List mV} (h : Nat.ble (mEnt as).length 3 = true) : Nat.ble (mEnt as).length (mXt 42).2.2.1 = true := h
theorem nof_43 : mNof mXt 43 = (1, none) := rfl
theorem mq_43 : (mXt 43).2.2.2.2.2.2.2 = mc_43 := rfl
theorem ml_43 {as : List mV} (h : Nat.ble (mEnt as).length 1 = true) : Nat.ble (mEnt as).length (mXt 43).2.2.1 = true := h
theorem nof_44 : mNof mXt 44 = (4, some 8) := rfl
theorem mq_44 : (mXt 44).2.2.2.2.2.2.2 = mc_44 := rfl
theorem ml_44 {as : List mV} (h : Nat.ble (mEnt as).length 8 = true) : Nat.ble (mEnt as).length (mXt 44).2.2.1 = true := h
theorem nof_45 : mNof mXt 45 = (5, some 8) := rfl
theorem mq_45 : (mXt 45).2.2.2.2.2.2.2 = mc_45 := rfl
theorem ml_45 {as : List mV} (h : Nat.ble (mEnt as).length 6 = true) : Nat.ble (mEnt as).length (mXt 45).2.2.1 = true := h
theorem nof_46 : mNof mXt 46 = (2, none) := rfl
theorem mq_46 : (mXt 46).2.2.2.2.2.2.2 = mc_46 := rfl
theorem ml_46 {as : List mV} (h : Nat.ble (mEnt as).length 2 = true) : Nat.ble (mEnt as).length (mXt 46).2.2.1 = true := h
theorem nof_47 : mNof mXt 47 = (4, some 8) := rfl
theorem mq_47 : (mXt 47).2.2.2.2.2.2.2 = mc_47 := rfl
theorem ml_47 {as : List mV} (h : Nat.ble (mEnt as).length 8 = true) : Nat.ble (mEnt as).length (mXt 47).2.2.1 = true := h
theorem nof_48 : mNof mXt 48 = (5, some 2) := rfl
theorem mq_48 : (mXt 48).2.2.2.2.2.2.2 = mc_48 := rfl
theorem ml_48 {as : List mV} (h : Nat.ble (mEnt as).length 5 = true) : Nat.ble (mEnt as).length (mXt 48).2.2.1 = true := h
theorem nof_49 : mNof mXt 49 = (2, some 4) := rfl
theorem mq_49 : (mXt 49).2.2.2.2.2.2.2 = mc_49 := rfl
theorem ml_49 {as : List mV} (h : Nat.ble (mEnt as).length 2 = true) : Nat.ble (mEnt as).length (mXt 49).2.2.1 = true := h
theorem nof_50 : mNof mXt 50 = (2, some 3) := rfl
theorem mq_50 : (mXt 50).2.2.2.2.2.2.2 = mc_50 := rfl
theorem ml_50 {as : List mV} (h : Nat.ble (mEnt as).length 2 = true) : Nat.ble (mEnt as).length (mXt 50).2.2.1 = true := h
theorem nof_51 : mNof mXt 51 = (4, some 2) := rfl
theorem mq_51 : (mXt 51).2.2.2.2.2.2.2 = mc_51 := rfl
theorem ml_51 {as : List mV} (h : Nat.ble (mEnt as).length 5 = true) : Nat.ble (mEnt as).length (mXt 51).2.2.1 = true := h
theorem nof_52 : mNof mXt 52 = (4, some 2) := rfl
theorem mq_52 : (mXt 52).2.2.2.2.2.2.2 = mc_52 := rfl
theorem ml_52 {as : List mV} (h : Nat.ble (mEnt as).length 6 = true) : Nat.ble (mEnt as).length (mXt 52).2.2.1 = true := h
theorem nof_53 : mNof mXt 53 = (4, some 8) := rfl
theorem mq_53 : (mXt 53).2.2.2.2.2.2.2 = mc_53 := rfl
theorem ml_53 {as : List mV} (h : Nat.ble (mEnt as).length 7 = true) : Nat.ble (mEnt as).length (mXt 53).2.2.1 = true := h
theorem nof_54 : mNof mXt 54 = (1, some 8) := rfl
theorem mq_54 : (mXt 54).2.2.2.2.2.2.2 = mc_54 := rfl
theorem ml_54 {as : List mV} (h : Nat.ble (mEnt as).length 2 = true) : Nat.ble (mEnt as).length (mXt 54).2.2.1 = true := h
theorem nof_55 : mNof mXt 55 = (2, some 2) := rfl
theorem mq_55 : (mXt 55).2.2.2.2.2.2.2 = mc_55 := rfl
theorem ml_55 {as : List mV} (h : Nat.ble (mEnt as).length 4 = true) : Nat.ble (mEnt as).length (mXt 55).2.2.1 = true := h
theorem nof_56 : mNof mXt 56 = (2, some 8) := rfl
theorem mq_56 : (mXt 56).2.2.2.2.2.2.2 = mc_56 := rfl
theorem ml_56 {as : List mV} (h : Nat.ble (mEnt as).length 5 = true) : Nat.ble (mEnt as).length (mXt 56).2.2.1 = true := h
theorem nof_57 : mNof mXt 57 = (2, some 2) := rfl
theorem mq_57 : (mXt 57).2.2.2.2.2.2.2 = mc_57 := rfl
theorem ml_57 {as : List mV} (h : Nat.ble (mEnt as).length 2 = true) : Nat.ble (mEnt as).length (mXt 57).2.2.1 = true := h
theorem nof_58 : mNof mXt 58 = (3, some 8) := rfl
theorem mq_58 : (mXt 58).2.2.2.2.2.2.2 = mc_58 := rfl
theorem ml_58 {as : List mV} (h : Nat.ble (mEnt as).length 4 = true) : Nat.ble (mEnt as).length (mXt 58).2.2.1 = true := h
theorem nof_59 : mNof mXt 59 = (2, some 2) := rfl
theorem mq_59 : (mXt 59).2.2.2.2.2.2.2 = mc_59 := rfl
theorem ml_59 {as : List mV} (h : Nat.ble (mEnt as).length 2 = true) : Nat.ble (mEnt as).length (mXt 59).2.2.1 = true := h
theorem nof_60 : mNof mXt 60 = (3, some 8) := rfl
theorem mq_60 : (mXt 60).2.2.2.2.2.2.2 = mc_60 := rfl
theorem ml_60 {as : List mV} (h : Nat.ble (mEnt as).length 5 = true) : Nat.ble (mEnt as).length (mXt 60).2.2.1 = true := h
theorem nof_61 : mNof mXt 61 = (1, some 2) := rfl
theorem mq_61 : (mXt 61).2.2.2.2.2.2.2 = mc_61 := rfl
theorem ml_61 {as : List mV} (h : Nat.ble (mEnt as).length 1 = true) : Nat.ble (mEnt as).length (mXt 61).2.2.1 = true := h
theorem nof_62 : mNof mXt 62 = (2, some 4) := rfl
theorem mq_62 : (mXt 62).2.2.2.2.2.2.2 = mc_62 := rfl
theorem ml_62 {as : List mV} (h : Nat.ble (mEnt as).length 3 = true) : Nat.ble (mEnt as).length (mXt 62).2.2.1 = true := h
theorem nof_63 : mNof mXt 63 = (2, some 2) := rfl
theorem mq_63 : (mXt 63).2.2.2.2.2.2.2 = mc_63 := rfl
theorem ml_63 {as : List mV} (h : Nat.ble (mEnt as).length 2 = true) : Nat.ble (mEnt as).length (mXt 63).2.2.1 = true := h
theorem nof_64 : mNof mXt 64 = (1, some 3) := rfl
theorem mq_64 : (mXt 64).2.2.2.2.2.2.2 = mc_64 := rfl
theorem ml_64 {as : List mV} (h : Nat.ble (mEnt as).length 1 = true) : Nat.ble (mEnt as).length (mXt 64).2.2.1 = true := h
theorem nof_65 : mNof mXt 65 = (2, some 2) := rfl
theorem mq_65 : (mXt 65).2.2.2.2.2.2.2 = mc_65 := rfl
theorem ml_65 {as : List mV} (h : Nat.ble (mEnt as).length 2 = true) : Nat.ble (mEnt as).length (mXt 65).2.2.1 = true := h
theorem nof_66 : mNof mXt 66 = (4, some 2) := rfl
theorem mq_66 : (mXt 66).2.2.2.2.2.2.2 = mc_66 := rfl
theorem ml_66 {as : List mV} (h : Nat.ble (mEnt as).length 6 = true) : Nat.ble (mEnt as).length (mXt 66).2.2.1 = true := h
theorem nof_67 : mNof mXt 67 = (2, some 2) := rfl
theorem mq_67 : (mXt 67).2.2.2.2.2.2.2 = mc_67 := rfl
theorem ml_67 {as : List mV} (h : Nat.ble (mEnt as).length 3 = true) : Nat.ble (mEnt as).length (mXt 67).2.2.1 = true := h
theorem nof_68 : mNof mXt 68 = (1, some 7) := rfl
theorem mq_68 : (mXt 68).2.2.2.2.2.2.2 = mc_68 := rfl
theorem ml_68 {as : List mV} (h : Nat.ble (mEnt as).length 1 = true) : Nat.ble (mEnt as).length (mXt 68).2.2.1 = true := h
theorem nof_69 : mNof mXt 69 = (1, some 7) := rfl
theorem mq_69 : (mXt 69).2.2.2.2.2.2.2 = mc_69 := rfl
theorem ml_69 {as : List mV} (h : Nat.ble (mEnt as).length 4 = true) : Nat.ble (mEnt as).length (mXt 69).2.2.1 = true := h
theorem nof_70 : mNof mXt 70 = (1, some 5) := rfl
theorem mq_70 : (mXt 70).2.2.2.2.2.2.2 = mc_70 := rfl
theorem ml_70 {as : List mV} (h : Nat.ble (mEnt as).length 1 = true) : Nat.ble (mEnt as).length (mXt 70).2.2.1 = true := h
theorem nof_71 : mNof mXt 71 = (4, some 7) := rfl
theorem mq_71 : (mXt 71).2.2.2.2.2.2.2 = mc_71 := rfl
theorem ml_71 {as : List mV} (h : Nat.ble (mEnt as).length 11 = true) : Nat.ble (mEnt as).length (mXt 71).2.2.1 = true := h
theorem nof_72 : mNof mXt 72 = (3, none) := rfl
theorem mq_72 : (mXt 72).2.2.2.2.2.2.2 = mc_72 := rfl
theorem ml_72 {as : List mV} (h : Nat.ble (mEnt as).length 5 = true) : Nat.ble (mEnt as).length (mXt 72).2.2.1 = true := h
theorem nof_73 : mNof mXt 73 = (5, some 8) := rfl
theorem mq_73 : (mXt 73).2.2.2.2.2.2.2 = mc_73 := rfl
theorem ml_73 {as : List mV} (h : Nat.ble (mEnt as).length 7 = true) : Nat.ble (mEnt as).length (mXt 73).2.2.1 = true := h
theorem nof_74 : mNof mXt 74 = (5, some 5) := rfl
theorem mq_74 : (mXt 74).2.2.2.2.2.2.2 = mc_74 := rfl
theorem ml_74 {as : List mV} (h : Nat.ble (mEnt as).length 7 = true) : Nat.ble (mEnt as).length (mXt 74).2.2.1 = true := h
theorem nof_75 : mNof mXt 75 = (5, some 5) := rfl
theorem mq_75 : (mXt 75).2.2.2.2.2.2.2 = mc_75 := rfl
theorem ml_75 {as : List mV} (h : Nat.ble (mEnt as).length 6 = true) : Nat.ble (mEnt as).length (mXt 75).2.2.1 = true := h
theorem nof_76 : mNof mXt 76 = (2, none) := rfl
theorem mq_76 : (mXt 76).2.2.2.2.2.2.2 = mc_76 := rfl
theorem ml_76 {as : List mV} (h : Nat.ble (mEnt as).length 4 = true) : Nat.ble (mEnt as).length (mXt 76).2.2.1 = true := h
theorem nof_77 : mNof mXt 77 = (3, some 5) := rfl
theorem mq_77 : (mXt 77).2.2.2.2.2.2.2 = mc_77 := rfl
theorem ml_77 {as : List mV} (h : Nat.ble (mEnt as).length 3 = true) : Nat.ble (mEnt as).length (mXt 77).2.2.1 = true := h
theorem nof_78 : mNof mXt 78 = (2, none) := rfl
theorem mq_78 : (mXt 78).2.2.2.2.2.2.2 = mc_78 := rfl
theorem ml_78 {as : List mV} (h : Nat.ble (mEnt as).length 6 = true) : Nat.ble (mEnt as).length (mXt 78).2.2.1 = true := h
theorem nof_79 : mNof mXt 79 = (1, none) := rfl
theorem mq_79 : (mXt 79).2.2.2.2.2.2.2 = mc_79 := rfl
theorem ml_79 {as : List mV} (h : Nat.ble (mEnt as).length 1 = true) : Nat.ble (mEnt as).length (mXt 79).2.2.1 = true := h
theorem nof_80 : mNof mXt 80 = (1, some 7) := rfl
theorem mq_80 : (mXt 80).2.2.2.2.2.2.2 = mc_80 := rfl
theorem ml_80 {as : List mV} (h : Nat.ble (mEnt as).length 3 = true) : Nat.ble (mEnt as).length (mXt 80).2.2.1 = true := h
theorem nof_81 : mNof mXt 81 = (4, some 7) := rfl
theorem mq_81 : (mXt 81).2.2.2.2.2.2.2 = mc_81 := rfl
theorem ml_81 {as : List mV} (h : Nat.ble (mEnt as).length 6 = true) : Nat.ble (mEnt as).length (mXt 81).2.2.1 = true := h
theorem nof_82 : mNof mXt 82 = (4, some 0) := rfl
theorem mq_82 : (mXt 82).2.2.2.2.2.2.2 = mc_82 := rfl
theorem ml_82 {as : List mV} (h : Nat.ble (mEnt as).length 4 = true) : Nat.ble (mEnt as).length (mXt 82).2.2.1 = true := h
theorem nof_83 : mNof mXt 83 = (1, some 0) := rfl
theorem mq_83 : (mXt 83).2.2.2.2.2.2.2 = mc_83 := rfl
theorem ml_83 {as : List mV} (h : Nat.ble (mEnt as).length 1 = true) : Nat.ble (mEnt as).length (mXt 83).2.2.1 = true := h
theorem nof_84 : mNof mXt 84 = (1, some 0) := rfl
theorem mq_84 : (mXt 84).2.2.2.2.2.2.2 = mc_84 := rfl
theorem ml_84 {as : List mV} (h : Nat.ble (mEnt as).length 1 = true) : Nat.ble (mEnt as).length (mXt 84).2.2.1 = true := h
theorem nof_85 : mNof mXt 85 = (1, some 0) := rfl
theorem mq_85 : (mXt 85).2.2.2.2.2.2.2 = mc_85 := rfl
theorem ml_85 {as : List mV} (h : Nat.ble (mEnt as).length 1 = true) : Nat.ble (mEnt as).length (mXt 85).2.2.1 = true := h
theorem nof_86 : mNof mXt 86 = (2, some 5) := rfl
theorem mq_86 : (mXt 86).2.2.2.2.2.2.2 = mc_86 := rfl
theorem ml_86 {as : List mV} (h : Nat.ble (mEnt as).length 2 = true) : Nat.ble (mEnt as).length (mXt 86).2.2.1 = true := h
theorem nof_87 : mNof mXt 87 = (3, none) := rfl
theorem mq_87 : (mXt 87).2.2.2.2.2.2.2 = mc_87 := rfl
theorem ml_87 {as : List mV} (h : Nat.ble (mEnt as).length 5 = true) : Nat.ble (mEnt as).length (mXt 87).2.2.1 = true := h
theorem nof_88 : mNof mXt 88 = (2, none) := rfl
theorem mq_88 : (mXt 88).2.2.2.2.2.2.2 = mc_88 := rfl
theorem ml_88 {as : List mV} (h : Nat.ble (mEnt as).length 2 = true) : Nat.ble (mEnt as).length (mXt 88).2.2.1 = true := h
theorem nof_89 : mNof mXt 89 = (3, some 0) := rfl
theorem mq_89 : (mXt 89).2.2.2.2.2.2.2 = mc_89 := rfl
theorem ml_89 {as : List mV} (h : Nat.ble (mEnt as).length 4 = true) : Nat.ble (mEnt as).length (mXt 89).2.2.1 = true := h
theorem nof_90 : mNof mXt 90 = (2, some 0) := rfl
theorem mq_90 : (mXt 90).2.2.2.2.2.2.2 = mc_90 := rfl
theorem ml_90 {as : List mV} (h : Nat.ble (mEnt as).length 7 = true) : Nat.ble (mEnt as).length (mXt 90).2.2.1 = true := h
theorem nof_91 : mNof mXt 91 = (1, some 0) := rfl
theorem mq_91 : (mXt 91).2.2.2.2.2.2.2 = mc_91 := rfl
theorem ml_91 {as : List mV} (h : Nat.ble (mEnt as).length 1 = true) : Nat.ble (mEnt as).length (mXt 91).2.2.1 = true := h
theorem nof_92 : mNof mXt 92 = (3, some 5) := rfl
theorem mq_92 : (mXt 92).2.2.2.2.2.2.2 = mc_92 := rfl
theorem ml_92 {as : List mV} (h : Nat.ble (mEnt as).length 3 = true) : Nat.ble (mEnt as).length (mXt 92).2.2.1 = true := h
theorem nof_93 : mNof mXt 93 = (2, some 7) := rfl
theorem mq_93 : (mXt 93).2.2.2.2.2.2.2 = mc_93 := rfl
theorem ml_93 {as : List mV} (h : Nat.ble (mEnt as).length 5 = true) : Nat.ble (mEnt as).length (mXt 93).2.2.1 = true := h
theorem nof_94 : mNof mXt 94 = (1, some 7) := rfl
theorem mq_94 : (mXt 94).2.2.2.2.2.2.2 = mc_94 := rfl
theorem ml_94 {as : List mV} (h : Nat.ble (mEnt as).length 3 = true) : Nat.ble (mEnt as).length (mXt 94).2.2.1 = true := h
theorem nof_95 : mNof mXt 95 = (1, some 7) := rfl
theorem mq_95 : (mXt 95).2.2.2.2.2.2.2 = mc_95 := rfl
theorem ml_95 {as : List mV} (h : Nat.ble (mEnt as).length 2 = true) : Nat.ble (mEnt as).length (mXt 95).2.2.1 = true := h
theorem nof_96 : mNof mXt 96 = (2, some 7) := rfl
theorem mq_96 : (mXt 96).2.2.2.2.2.2.2 = mc_96 := rfl
theorem ml_96 {as : List mV} (h : Nat.ble (mEnt as).length 5 = true) : Nat.ble (mEnt as).length (mXt 96).2.2.1 = true := h
theorem nof_97 : mNof mXt 97 = (2, some 0) := rfl
theorem mq_97 : (mXt 97).2.2.2.2.2.2.2 = mc_97 := rfl
theorem ml_97 {as : List mV} (h : Nat.ble (mEnt as).length 3 = true) : Nat.ble (mEnt as).length (mXt 97).2.2.1 = true := h
theorem nof_98 : mNof mXt 98 = (1, none) := rfl
theorem mq_98 : (mXt 98).2.2.2.2.2.2.2 = mc_98 := rfl
theorem ml_98 {as : List mV} (h : Nat.ble (mEnt as).length 1 = true) : Nat.ble (mEnt as).length (mXt 98).2.2.1 = true := h
theorem nof_99 : mNof mXt 99 = (2, none) := rfl
theorem mq_99 : (mXt 99).2.2.2.2.2.2.2 = mc_99 := rfl
theorem ml_99 {as : List mV} (h : Nat.ble (mEnt as).length 5 = true) : Nat.ble (mEnt as).length (mXt 99).2.2.1 = true := h
theorem nof_100 : mNof mXt 100 = (3, none) := rfl
theorem mq_100 : (mXt 100).2.2.2.2.2.2.2 = mc_100 := rfl
theorem ml_100 {as : List mV} (h : Nat.ble (mEnt as).length 7 = true) : Nat.ble (mEnt as).length (mXt 100).2.2.1 = true := h
theorem nof_101 : mNof mXt 101 = (2, some 7) := rfl
theorem mq_101 : (mXt 101).2.2.2.2.2.2.2 = mc_101 := rfl
theorem ml_101 {as : List mV} (h : Nat.ble (mEnt as).length 4 = true) : Nat.ble (mEnt as).length (mXt 101).2.2.1 = true := h
theorem nof_102 : mNof mXt 102 = (2, some 0) := rfl
theorem mq_102 : (mXt 102).2.2.2.2.2.2.2 = mc_102 := rfl
theorem ml_102 {as : List mV} (h : Nat.ble (mEnt as).length 2 = true) : Nat.ble (mEnt as).length (mXt 102).2.2.1 = true := h
theorem nof_103 : mNof mXt 103 = (4, some 2) := rfl
theorem mq_103 : (mXt 103).2.2.2.2.2.2.2 = mc_103 := rfl
theorem ml_103 {as : List mV} (h : Nat.ble (mEnt as).length 5 = true) : Nat.ble (mEnt as).length (mXt 103).2.2.1 = true := h
theorem nof_104 : mNof mXt 104 = (2, some 0) := rfl
theorem mq_104 : (mXt 104).2.2.2.2.2.2.2 = mc_104 := rfl
theorem ml_104 {as : List mV} (h : Nat.ble (mEnt as).length 2 = true) : Nat.ble (mEnt as).length (mXt 104).2.2.1 = true := h
theorem nof_105 : mNof mXt 105 = (5, some 2) := rfl
theorem mq_105 : (mXt 105).2.2.2.2.2.2.2 = mc_105 := rfl
theorem ml_105 {as : List mV} (h : Nat.ble (mEnt as).length 7 = true) : Nat.ble (mEnt as).length (mXt 105).2.2.1 = true := h
theorem nof_106 : mNof mXt 106 = (2, some 7) := rfl
theorem mq_106 : (mXt 106).2.2.2.2.2.2.2 = mc_106 := rfl
theorem ml_106 {as : List mV} (h : Nat.ble (mEnt as).length 2 = true) : Nat.ble (mEnt as).length (mXt 106).2.2.1 = true := h
theorem nof_107 : mNof mXt 107 = (2, some 7) := rfl
theorem mq_107 : (mXt 107).2.2.2.2.2.2.2 = mc_107 := rfl
theorem ml_107 {as : List mV} (h : Nat.ble (mEnt as).length 4 = true) : Nat.ble (mEnt as).length (mXt 107).2.2.1 = true := h
theorem nof_108 : mNof mXt 108 = (2, some 0) := rfl
theorem mq_108 : (mXt 108).2.2.2.2.2.2.2 = mc_108 := rfl
theorem ml_108 {as : List mV} (h : Nat.ble (mEnt as).length 2 = true) : Nat.ble (mEnt as).length (mXt 108).2.2.1 = true := h
theorem nof_109 : mNof mXt 109 = (2, some 7) := rfl
theorem mq_109 : (mXt 109).2.2.2.2.2.2.2 = mc_109 := rfl
theorem ml_109 {as : List mV} (h : Nat.ble (mEnt as).length 3 = true) : Nat.ble (mEnt as).length (mXt 109).2.2.1 = true := h
theorem nof_110 : mNof mXt 110 = (2, some 7) := rfl
theorem mq_110 : (mXt 110).2.2.2.2.2.2.2 = mc_110 := rfl
theorem ml_110 {as : List mV} (h : Nat.ble (mEnt as).length 5 = true) : Nat.ble (mEnt as).length (mXt 110).2.2.1 = true := h
theorem nof_111 : mNof mXt 111 = (2, some 7) := rfl
theorem mq_111 : (mXt 111).2.2.2.2.2.2.2 = mc_111 := rfl
theorem ml_111 {as : List mV} (h : Nat.ble (mEnt as).length 2 = true) : Nat.ble (mEnt as).length (mXt 111).2.2.1 = true := h
theorem nof_112 : mNof mXt 112 = (3, some 7) := rfl
theorem mq_112 : (mXt 112).2.2.2.2.2.2.2 = mc_112 := rfl
theorem ml_112 {as : List mV} (h : Nat.ble (mEnt as).length 7 = true) : Nat.ble (mEnt as).length (mXt 112).2.2.1 = true := h
theorem nof_113 : mNof mXt 113 = (4, some 2) := rfl
theorem mq_113 : (mXt 113).2.2.2.2.2.2.2 = mc_113 := rfl
theorem ml_113 {as : List mV} (h : Nat.ble (mEnt as).length 5 = true) : Nat.ble (mEnt as).length (mXt 113).2.2.1 = true := h
theorem nof_114 : mNof mXt 114 = (2, some 8) := rfl
theorem mq_114 : (mXt 114).2.2.2.2.2.2.2 = mc_114 := rfl
theorem ml_114 {as : List mV} (h : Nat.ble (mEnt as).length 6 = true) : Nat.ble (mEnt as).length (mXt 114).2.2.1 = true := h
theorem nof_115 : mNof mXt 115 = (4, some 8) := rfl
theorem mq_115 : (mXt 115).2.2.2.2.2.2.2 = mc_115 := rfl
theorem ml_115 {as : List mV} (h : Nat.ble (mEnt as).length 4 = true) : Nat.ble (mEnt as).length (mXt 115).2.2.1 = true := h
theorem nof_116 : mNof mXt 116 = (2, none) := rfl
theorem mq_116 : (mXt 116).2.2.2.2.2.2.2 = mc_116 := rfl
theorem ml_116 {as : List mV} (h : Nat.ble (mEnt as).length 2 = true) : Nat.ble (mEnt as).length (mXt 116).2.2.1 = true := h
theorem nof_117 : mNof mXt 117 = (2, none) := rfl
theorem mq_117 : (mXt 117).2.2.2.2.2.2.2 = mc_117 := rfl
theorem ml_117 {as : List mV} (h : Nat.ble (mEnt as).length 3 = true) : Nat.ble (mEnt as).length (mXt 117).2.2.1 = true := h
theorem nof_118 : mNof mXt 118 = (5, some 8) := rfl
theorem mq_118 : (mXt 118).2.2.2.2.2.2.2 = mc_118 := rfl
theorem ml_118 {as : List mV} (h : Nat.ble (mEnt as).length 10 = true) : Nat.ble (mEnt as).length (mXt 118).2.2.1 = true := h
theorem nof_119 : mNof mXt 119 = (5, some 2) := rfl
theorem mq_119 : (mXt 119).2.2.2.2.2.2.2 = mc_119 := rfl
theorem ml_119 {as : List mV} (h : Nat.ble (mEnt as).length 9 = true) : Nat.ble (mEnt as).length (mXt 119).2.2.1 = true := h
theorem nof_120 : mNof mXt 120 = (2, some 7) := rfl
theorem mq_120 : (mXt 120).2.2.2.2.2.2.2 = mc_120 := rfl
theorem ml_120 {as : List mV} (h : Nat.ble (mEnt as).length 4 = true) : Nat.ble (mEnt as).length (mXt 120).2.2.1 = true := h
theorem nof_121 : mNof mXt 121 = (4, some 7) := rfl
theorem mq_121 : (mXt 121).2.2.2.2.2.2.2 = mc_121 := rfl
theorem ml_121 {as : List mV} (h : Nat.ble (mEnt as).length 9 = true) : Nat.ble (mEnt as).length (mXt 121).2.2.1 = true := h
theorem nof_122 : mNof mXt 122 = (2, some 7) := rfl
theorem mq_122 : (mXt 122).2.2.2.2.2.2.2 = mc_122 := rfl
theorem ml_122 {as : List mV} (h : Nat.ble (mEnt as).length 2 = true) : Nat.ble (mEnt as).length (mXt 122).2.2.1 = true := h
theorem nof_123 : mNof mXt 123 = (2, some 7) := rfl
theorem mq_123 : (mXt 123).2.2.2.2.2.2.2 = mc_123 := rfl
theorem ml_123 {as : List mV} (h : Nat.ble (mEnt as).length 2 = true) : Nat.ble (mEnt as).length (mXt 123).2.2.1 = true := h
theorem nof_124 : mNof mXt 124 = (3, some 2) := rfl
theorem mq_124 : (mXt 124).2.2.2.2.2.2.2 = mc_124 := rfl
theorem ml_124 {as : List mV} (h : Nat.ble (mEnt as).length 4 = true) : Nat.ble (mEnt as).length (mXt 124).2.2.1 = true := h
theorem nof_125 : mNof mXt 125 = (1, some 2) := rfl
theorem mq_125 : (mXt 125).2.2.2.2.2.2.2 = mc_125 := rfl
theorem ml_125 {as : List mV} (h : Nat.ble (mEnt as).length 1 = true) : Nat.ble (mEnt as).length (mXt 125).2.2.1 = true := h
theorem nof_126 : mNof mXt 126 = (1, some 1) := rfl
theorem mq_126 : (mXt 126).2.2.2.2.2.2.2 = mc_126 := rfl
theorem ml_126 {as : List mV} (h : Nat.ble (mEnt as).length 3 = true) : Nat.ble (mEnt as).length (mXt 126).2.2.1 = true := h
theorem nof_127 : mNof mXt 127 = (3, some 1) := rfl
theorem mq_127 : (mXt 127).2.2.2.2.2.2.2 = mc_127 := rfl
theorem ml_127 {as : List mV} (h : Nat.ble (mEnt as).length 9 = true) : Nat.ble (mEnt as).length (mXt 127).2.2.1 = true := h
theorem nof_128 : mNof mXt 128 = (2, some 1) := rfl
theorem mq_128 : (mXt 128).2.2.2.2.2.2.2 = mc_128 := rfl
theorem ml_128 {as : List mV} (h : Nat.ble (mEnt as).length 2 = true) : Nat.ble (mEnt as).length (mXt 128).2.2.1 = true := h
theorem nof_129 : mNof mXt 129 = (3, some 5) := rfl
theorem mq_129 : (mXt 129).2.2.2.2.2.2.2 = mc_129 := rfl
theorem ml_129 {as : List mV} (h : Nat.ble (mEnt as).length 4 = true) : Nat.ble (mEnt as).length (mXt 129).2.2.1 = true := h
theorem nof_130 : mNof mXt 130 = (4, some 5) := rfl
theorem mq_130 : (mXt 130).2.2.2.2.2.2.2 = mc_130 := rfl
theorem ml_130 {as : List mV} (h : Nat.ble (mEnt as).length 5 = true) : Nat.ble (mEnt as).length (mXt 130).2.2.1 = true := h
theorem nof_131 : mNof mXt 131 = (3, some 2) := rfl
theorem mq_131 : (mXt 131).2.2.2.2.2.2.2 = mc_131 := rfl
theorem ml_131 {as : List mV} (h : Nat.ble (mEnt as).length 4 = true) : Nat.ble (mEnt as).length (mXt 131).2.2.1 = true := h
theorem nof_132 : mNof mXt 132 = (1, some 8) := rfl
theorem mq_132 : (mXt 132).2.2.2.2.2.2.2 = mc_132 := rfl
theorem ml_132 {as : List mV} (h : Nat.ble (mEnt as).length 3 = true) : Nat.ble (mEnt as).length (mXt 132).2.2.1 = true := h
theorem nof_133 : mNof mXt 133 = (1, some 7) := rfl
theorem mq_133 : (mXt 133).2.2.2.2.2.2.2 = mc_133 := rfl
theorem ml_133 {as : List mV} (h : Nat.ble (mEnt as).length 3 = true) : Nat.ble (mEnt as).length (mXt 133).2.2.1 = true := h
theorem nof_134 : mNof mXt 134 = (2, some 7) := rfl
theorem mq_134 : (mXt 134).2.2.2.2.2.2.2 = mc_134 := rfl
theorem ml_134 {as : List mV} (h : Nat.ble (mEnt as).length 4 = true) : Nat.ble (mEnt as).length (mXt 134).2.2.1 = true := h
theorem nof_135 : mNof mXt 135 = (1, some 0) := rfl
theorem mq_135 : (mXt 135).2.2.2.2.2.2.2 = mc_135 := rfl
theorem ml_135 {as : List mV} (h : Nat.ble (mEnt as).length 1 = true) : Nat.ble (mEnt as).length (mXt 135).2.2.1 = true := h
theorem nof_136 : mNof mXt 136 = (1, some 7) := rfl
theorem mq_136 : (mXt 136).2.2.2.2.2.2.2 = mc_136 := rfl
theorem ml_136 {as : List mV} (h : Nat.ble (mEnt as).length 3 = true) : Nat.ble (mEnt as).length (mXt 136).2.2.1 = true := h
theorem nof_137 : mNof mXt 137 = (1, some 7) := rfl
theorem mq_137 : (mXt 137).2.2.2.2.2.2.2 = mc_137 := rfl
theorem ml_137 {as : List mV} (h : Nat.ble (mEnt as).length 3 = true) : Nat.ble (mEnt as).length (mXt 137).2.2.1 = true := h
theorem nof_138 : mNof mXt 138 = (1, some 7) := rfl
theorem mq_138 : (mXt 138).2.2.2.2.2.2.2 = mc_138 := rfl
theorem ml_138 {as : List mV} (h : Nat.ble (mEnt as).length 3 = true) : Nat.ble (mEnt as).length (mXt 138).2.2.1 = true := h
theorem nof_139 : mNof mXt 139 = (1, some 7) := rfl
theorem mq_139 : (mXt 139).2.2.2.2.2.2.2 = mc_139 := rfl
theorem ml_139 {as : List mV} (h : Nat.ble (mEnt as).length 1 = true) : Nat.ble (mEnt as).length (mXt 139).2.2.1 = true := h
theorem nof_140 : mNof mXt 140 = (1, some 7) := rfl
theorem mq_140 : (mXt 140).2.2.2.2.2.2.2 = mc_140 := rfl
theorem ml_140 {as : List mV} (h : Nat.ble (mEnt as).length 3 = true) : Nat.ble (mEnt as).length (mXt 140).2.2.1 = true := h
theorem nof_141 : mNof mXt 141 = (2, some 2) := rfl
theorem mq_141 : (mXt 141).2.2.2.2.2.2.2 = mc_141 := rfl
theorem ml_141 {as : List mV} (h : Nat.ble (mEnt as).length 2 = true) : Nat.ble (mEnt as).length (mXt 141).2.2.1 = true := h
theorem nof_142 : mNof mXt 142 = (1, some 1) := rfl
theorem mq_142 : (mXt 142).2.2.2.2.2.2.2 = mc_142 := rfl
theorem ml_142 {as : List mV} (h : Nat.ble (mEnt as).length 3 = true) : Nat.ble (mEnt as).length (mXt 142).2.2.1 = true := h
theorem nof_143 : mNof mXt 143 = (1, some 1) := rfl
theorem mq_143 : (mXt 143).2.2.2.2.2.2.2 = mc_143 := rfl
theorem ml_143 {as : List mV} (h : Nat.ble (mEnt as).length 3 = true) : Nat.ble (mEnt as).length (mXt 143).2.2.1 = true := h
theorem nof_144 : mNof mXt 144 = (2, some 7) := rfl
theorem mq_144 : (mXt 144).2.2.2.2.2.2.2 = mc_144 := rfl
theorem ml_144 {as : List mV} (h : Nat.ble (mEnt as).length 3 = true) : Nat.ble (mEnt as).length (mXt 144).2.2.1 = true := h
theorem nof_145 : mNof mXt 145 = (3, some 7) := rfl
theorem mq_145 : (mXt 145).2.2.2.2.2.2.2 = mc_145 := rfl
theorem ml_145 {as : List mV} (h : Nat.ble (mEnt as).length 4 = true) : Nat.ble (mEnt as).length (mXt 145).2.2.1 = true := h
theorem nof_146 : mNof mXt 146 = (2, some 0) := rfl
theorem mq_146 : (mXt 146).2.2.2.2.2.2.2 = mc_146 := rfl
theorem ml_146 {as : List mV} (h : Nat.ble (mEnt as).length 2 = true) : Nat.ble (mEnt as).length (mXt 146).2.2.1 = true := h
theorem nof_147 : mNof mXt 147 = (4, some 7) := rfl
theorem mq_147 : (mXt 147).2.2.2.2.2.2.2 = mc_147 := rfl
theorem ml_147 {as : List mV} (h : Nat.ble (mEnt as).length 6 = true) : Nat.ble (mEnt as).length (mXt 147).2.2.1 = true := h
theorem nof_148 : mNof mXt 148 = (1, some 10) := rfl
theorem mq_148 : (mXt 148).2.2.2.2.2.2.2 = mc_148 := rfl
theorem ml_148 {as : List mV} (h : Nat.ble (mEnt as).length 2 = true) : Nat.ble (mEnt as).length (mXt 148).2.2.1 = true := h
theorem nof_149 : mNof mXt 149 = (2, some 10) := rfl
theorem mq_149 : (mXt 149).2.2.2.2.2.2.2 = mc_149 := rfl
theorem ml_149 {as : List mV} (h : Nat.ble (mEnt as).length 2 = true) : Nat.ble (mEnt as).length (mXt 149).2.2.1 = true := h
theorem nof_150 : mNof mXt 150 = (3, none) := rfl
theorem mq_150 : (mXt 150).2.2.2.2.2.2.2 = mc_150 := rfl
theorem ml_150 {as : List mV} (h : Nat.ble (mEnt as).length 6 = true) : Nat.ble (mEnt as).length (mXt 150).2.2.1 = true := h
theorem nof_151 : mNof mXt 151 = (1, some 10) := rfl
theorem mq_151 : (mXt 151).2.2.2.2.2.2.2 = mc_151 := rfl
theorem ml_151 {as : List mV} (h : Nat.ble (mEnt as).length 2 = true) : Nat.ble (mEnt as).length (mXt 151).2.2.1 = true := h
theorem nof_152 : mNof mXt 152 = (1, some 10) := rfl
theorem mq_152 : (mXt 152).2.2.2.2.2.2.2 = mc_152 := rfl
theorem ml_152 {as : List mV} (h : Nat.ble (mEnt as).length 1 = true) : Nat.ble (mEnt as).length (mXt 152).2.2.1 = true := h
theorem nof_153 : mNof mXt 153 = (2, some 10) := rfl
theorem mq_153 : (mXt 153).2.2.2.2.2.2.2 = mc_153 := rfl
theorem ml_153 {as : List mV} (h : Nat.ble (mEnt as).length 3 = true) : Nat.ble (mEnt as).length (mXt 153).2.2.1 = true := h
theorem nof_154 : mNof mXt 154 = (1, some 10) := rfl
theorem mq_154 : (mXt 154).2.2.2.2.2.2.2 = mc_154 := rfl
theorem ml_154 {as : List mV} (h : Nat.ble (mEnt as).length 1 = true) : Nat.ble (mEnt as).length (mXt 154).2.2.1 = true := h
theorem nof_155 : mNof mXt 155 = (1, none) := rfl
theorem mq_155 : (mXt 155).2.2.2.2.2.2.2 = mc_155 := rfl
theorem ml_155 {as : List mV} (h : Nat.ble (mEnt as).length 1 = true) : Nat.ble (mEnt as).length (mXt 155).2.2.1 = true := h
theorem nof_156 : mNof mXt 156 = (1, some 10) := rfl
theorem mq_156 : (mXt 156).2.2.2.2.2.2.2 = mc_156 := rfl
theorem ml_156 {as : List mV} (h : Nat.ble (mEnt as).length 2 = true) : Nat.ble (mEnt as).length (mXt 156).2.2.1 = true := h
theorem nof_157 : mNof mXt 157 = (2, some 10) := rfl
theorem mq_157 : (mXt 157).2.2.2.2.2.2.2 = mc_157 := rfl
theorem ml_157 {as : List mV} (h : Nat.ble (mEnt as).length 2 = true) : Nat.ble (mEnt as).length (mXt 157).2.2.1 = true := h
theorem nof_158 : mNof mXt 158 = (1, some 10) := rfl
theorem mq_158 : (mXt 158).2.2.2.2.2.2.2 = mc_158 := rfl
theorem ml_158 {as : List mV} (h : Nat.ble (mEnt as).length 3 = true) : Nat.ble (mEnt as).length (mXt 158).2.2.1 = true := h
theorem nof_159 : mNof mXt 159 = (1, some 10) := rfl
theorem mq_159 : (mXt 159).2.2.2.2.2.2.2 = mc_159 := rfl
theorem ml_159 {as : List mV} (h : Nat.ble (mEnt as).length 2 = true) : Nat.ble (mEnt as).length (mXt 159).2.2.1 = true := h
theorem nof_160 : mNof mXt 160 = (1, some 10) := rfl
theorem mq_160 : (mXt 160).2.2.2.2.2.2.2 = mc_160 := rfl
theorem ml_160 {as : List mV} (h : Nat.ble (mEnt as).length 3 = true) : Nat.ble (mEnt as).length (mXt 160).2.2.1 = true := h
theorem nof_161 : mNof mXt 161 = (2, some 10) := rfl
theorem mq_161 : (mXt 161).2.2.2.2.2.2.2 = mc_161 := rfl
theorem ml_161 {as : List mV} (h : Nat.ble (mEnt as).length 4 = true) : Nat.ble (mEnt as).length (mXt 161).2.2.1 = true := h
theorem nof_162 : mNof mXt 162 = (1, some 10) := rfl
theorem mq_162 : (mXt 162).2.2.2.2.2.2.2 = mc_162 := rfl
theorem ml_162 {as : List mV} (h : Nat.ble (mEnt as).length 1 = true) : Nat.ble (mEnt as).length (mXt 162).2.2.1 = true := h
theorem nof_163 : mNof mXt 163 = (1, some 10) := rfl
theorem mq_163 : (mXt 163).2.2.2.2.2.2.2 = mc_163 := rfl
theorem ml_163 {as : List mV} (h : Nat.ble (mEnt as).length 1 = true) : Nat.ble (mEnt as).length (mXt 163).2.2.1 = true := h
theorem nof_164 : mNof mXt 164 = (4, some 10) := rfl
theorem mq_164 : (mXt 164).2.2.2.2.2.2.2 = mc_164 := rfl
theorem ml_164 {as : List mV} (h : Nat.ble (mEnt as).length 4 = true) : Nat.ble (mEnt as).length (mXt 164).2.2.1 = true := h
theorem nof_165 : mNof mXt 165 = (1, none) := rfl
theorem mq_165 : (mXt 165).2.2.2.2.2.2.2 = mc_165 := rfl
theorem ml_165 {as : List mV} (h : Nat.ble (mEnt as).length 1 = true) : Nat.ble (mEnt as).length (mXt 165).2.2.1 = true := h
theorem nof_166 : mNof mXt 166 = (2, none) := rfl
theorem mq_166 : (mXt 166).2.2.2.2.2.2.2 = mc_166 := rfl
theorem ml_166 {as : List mV} (h : Nat.ble (mEnt as).length 2 = true) : Nat.ble (mEnt as).length (mXt 166).2.2.1 = true := h
theorem nof_167 : mNof mXt 167 = (3, some 10) := rfl
theorem mq_167 : (mXt 167).2.2.2.2.2.2.2 = mc_167 := rfl
theorem ml_167 {as : List mV} (h : Nat.ble (mEnt as).length 3 = true) : Nat.ble (mEnt as).length (mXt 167).2.2.1 = true := h
theorem nof_168 : mNof mXt 168 = (6, some 10) := rfl
theorem mq_168 : (mXt 168).2.2.2.2.2.2.2 = mc_168 := rfl
theorem ml_168 {as : List mV} (h : Nat.ble (mEnt as).length 6 = true) : Nat.ble (mEnt as).length (mXt 168).2.2.1 = true := h
theorem nof_169 : mNof mXt 169 = (2, some 10) := rfl
theorem mq_169 : (mXt 169).2.2.2.2.2.2.2 = mc_169 := rfl
theorem ml_169 {as : List mV} (h : Nat.ble (mEnt as).length 4 = true) : Nat.ble (mEnt as).length (mXt 169).2.2.1 = true := h
theorem nof_170 : mNof mXt 170 = (5, some 10) := rfl
theorem mq_170 : (mXt 170).2.2.2.2.2.2.2 = mc_170 := rfl
theorem ml_170 {as : List mV} (h : Nat.ble (mEnt as).length 14 = true) : Nat.ble (mEnt as).length (mXt 170).2.2.1 = true := h
theorem nof_171 : mNof mXt 171 = (6, some 10) := rfl
theorem mq_171 : (mXt 171).2.2.2.2.2.2.2 = mc_171 := rfl
theorem ml_171 {as : List mV} (h : Nat.ble (mEnt as).length 9 = true) : Nat.ble (mEnt as).length (mXt 171).2.2.1 = true := h
theorem nof_172 : mNof mXt 172 = (5, some 10) := rfl
theorem mq_172 : (mXt 172).2.2.2.2.2.2.2 = mc_172 := rfl
theorem ml_172 {as : List mV} (h : Nat.ble (mEnt as).length 12 = true) : Nat.ble (mEnt as).length (mXt 172).2.2.1 = true := h
theorem nof_173 : mNof mXt 173 = (5, some 10) := rfl
theorem mq_173 : (mXt 173).2.2.2.2.2.2.2 = mc_173 := rfl
theorem ml_173 {as : List mV} (h : Nat.ble (mEnt as).length 5 = true) : Nat.ble (mEnt as).length (mXt 173).2.2.1 = true := h
theorem nof_174 : mNof mXt 174 = (1, none) := rfl
theorem mq_174 : (mXt 174).2.2.2.2.2.2.2 = mc_174 := rfl
theorem ml_174 {as : List mV} (h : Nat.ble (mEnt as).length 1 = true) : Nat.ble (mEnt as).length (mXt 174).2.2.1 = true := h
theorem nof_175 : mNof mXt 175 = (1, some 10) := rfl
theorem mq_175 : (mXt 175).2.2.2.2.2.2.2 = mc_175 := rfl
theorem ml_175 {as : List mV} (h : Nat.ble (mEnt as).length 2 = true) : Nat.ble (mEnt as).length (mXt 175).2.2.1 = true := h
theorem nof_176 : mNof mXt 176 = (3, some 10) := rfl
theorem mq_176 : (mXt 176).2.2.2.2.2.2.2 = mc_176 := rfl
theorem ml_176 {as : List mV} (h : Nat.ble (mEnt as).length 4 = true) : Nat.ble (mEnt as).length (mXt 176).2.2.1 = true := h
theorem nof_177 : mNof mXt 177 = (4, some 10) := rfl
theorem mq_177 : (mXt 177).2.2.2.2.2.2.2 = mc_177 := rfl
theorem ml_177 {as : List mV} (h : Nat.ble (mEnt as).length 4 = true) : Nat.ble (mEnt as).length (mXt 177).2.2.1 = true := h
theorem nof_178 : mNof mXt 178 = (4, some 10) := rfl
theorem mq_178 : (mXt 178).2.2.2.2.2.2.2 = mc_178 := rfl
theorem ml_178 {as : List mV} (h : Nat.ble (mEnt as).length 7 = true) : Nat.ble (mEnt as).length (mXt 178).2.2.1 = true := h
theorem nof_179 : mNof mXt 179 = (2, some 10) := rfl
theorem mq_179 : (mXt 179).2.2.2.2.2.2.2 = mc_179 := rfl
theorem ml_179 {as : List mV} (h : Nat.ble (mEnt as).length 4 = true) : Nat.ble (mEnt as).length (mXt 179).2.2.1 = true := h
theorem nof_180 : mNof mXt 180 = (2, some 10) := rfl
theorem mq_180 : (mXt 180).2.2.2.2.2.2.2 = mc_180 := rfl
theorem ml_180 {as : List mV} (h : Nat.ble (mEnt as).length 3 = true) : Nat.ble (mEnt as).length (mXt 180).2.2.1 = true := h
theorem nof_181 : mNof mXt 181 = (2, some 10) := rfl
theorem mq_181 : (mXt 181).2.2.2.2.2.2.2 = mc_181 := rfl
theorem ml_181 {as : List mV} (h : Nat.ble (mEnt as).length 3 = true) : Nat.ble (mEnt as).length (mXt 181).2.2.1 = true := h
theorem nof_182 : mNof mXt 182 = (2, some 10) := rfl
theorem mq_182 : (mXt 182).2.2.2.2.2.2.2 = mc_182 := rfl
theorem ml_182 {as : List mV} (h : Nat.ble (mEnt as).length 6 = true) : Nat.ble (mEnt as).length (mXt 182).2.2.1 = true := h
theorem nof_183 : mNof mXt 183 = (1, some 10) := rfl
theorem mq_183 : (mXt 183).2.2.2.2.2.2.2 = mc_183 := rfl
theorem ml_183 {as : List mV} (h : Nat.ble (mEnt as).length 1 = true) : Nat.ble (mEnt as).length (mXt 183).2.2.1 = true := h
theorem nof_184 : mNof mXt 184 = (2, some 10) := rfl
theorem mq_184 : (mXt 184).2.2.2.2.2.2.2 = mc_184 := rfl
theorem ml_184 {as : List mV} (h : Nat.ble (mEnt as).length 2 = true) : Nat.ble (mEnt as).length (mXt 184).2.2.1 = true := h
theorem nof_185 : mNof mXt 185 = (2, some 10) := rfl
theorem mq_185 : (mXt 185).2.2.2.2.2.2.2 = mc_185 := rfl
theorem ml_185 {as : List mV} (h : Nat.ble (mEnt as).length 2 = true) : Nat.ble (mEnt as).length (mXt 185).2.2.1 = true := h
theorem nof_186 : mNof mXt 186 = (4, some 10) := rfl
theorem mq_186 : (mXt 186).2.2.2.2.2.2.2 = mc_186 := rfl
theorem ml_186 {as : List mV} (h : Nat.ble (mEnt as).length 5 = true) : Nat.ble (mEnt as).length (mXt 186).2.2.1 = true := h
theorem nof_187 : mNof mXt 187 = (1, some 10) := rfl
theorem mq_187 : (mXt 187).2.2.2.2.2.2.2 = mc_187 := rfl
theorem ml_187 {as : List mV} (h : Nat.ble (mEnt as).length 2 = true) : Nat.ble (mEnt as).length (mXt 187).2.2.1 = true := h
theorem nof_188 : mNof mXt 188 = (2, some 10) := rfl
theorem mq_188 : (mXt 188).2.2.2.2.2.2.2 = mc_188 := rfl
theorem ml_188 {as : List mV} (h : Nat.ble (mEnt as).length 5 = true) : Nat.ble (mEnt as).length (mXt 188).2.2.1 = true := h
theorem nof_189 : mNof mXt 189 = (5, some 10) := rfl
theorem mq_189 : (mXt 189).2.2.2.2.2.2.2 = mc_189 := rfl
theorem ml_189 {as : List mV} (h : Nat.ble (mEnt as).length 21 = true) : Nat.ble (mEnt as).length (mXt 189).2.2.1 = true := h
theorem nof_190 : mNof mXt 190 = (4, none) := rfl
theorem mq_190 : (mXt 190).2.2.2.2.2.2.2 = mc_190 := rfl
theorem ml_190 {as : List mV} (h : Nat.ble (mEnt as).length 4 = true) : Nat.ble (mEnt as).length (mXt 190).2.2.1 = true := h
theorem nof_191 : mNof mXt 191 = (5, some 10) := rfl
theorem mq_191 : (mXt 191).2.2.2.2.2.2.2 = mc_191 := rfl
theorem ml_191 {as : List mV} (h : Nat.ble (mEnt as).length 10 = true) : Nat.ble (mEnt as).length (mXt 191).2.2.1 = true := h
theorem nof_192 : mNof mXt 192 = (4, none) := rfl
theorem mq_192 : (mXt 192).2.2.2.2.2.2.2 = mc_192 := rfl
theorem ml_192 {as : List mV} (h : Nat.ble (mEnt as).length 8 = true) : Nat.ble (mEnt as).length (mXt 192).2.2.1 = true := h
theorem nof_193 : mNof mXt 193 = (2, some 10) := rfl
theorem mq_193 : (mXt 193).2.2.2.2.2.2.2 = mc_193 := rfl
theorem ml_193 {as : List mV} (h : Nat.ble (mEnt as).length 3 = true) : Nat.ble (mEnt as).length (mXt 193).2.2.1 = true := h
theorem nof_194 : mNof mXt 194 = (2, some 10) := rfl
theorem mq_194 : (mXt 194).2.2.2.2.2.2.2 = mc_194 := rfl
theorem ml_194 {as : List mV} (h : Nat.ble (mEnt as).length 9 = true) : Nat.ble (mEnt as).length (mXt 194).2.2.1 = true := h
theorem nof_195 : mNof mXt 195 = (2, none) := rfl
theorem mq_195 : (mXt 195).2.2.2.2.2.2.2 = mc_195 := rfl
theorem ml_195 {as : List mV} (h : Nat.ble (mEnt as).length 5 = true) : Nat.ble (mEnt as).length (mXt 195).2.2.1 = true := h
theorem nof_196 : mNof mXt 196 = (6, some 10) := rfl
theorem mq_196 : (mXt 196).2.2.2.2.2.2.2 = mc_196 := rfl
theorem ml_196 {as : List mV} (h : Nat.ble (mEnt as).length 11 = true) : Nat.ble (mEnt as).length (mXt 196).2.2.1 = true := h
theorem nof_197 : mNof mXt 197 = (4, some 10) := rfl
theorem mq_197 : (mXt 197).2.2.2.2.2.2.2 = mc_197 := rfl
theorem ml_197 {as : List mV} (h : Nat.ble (mEnt as).length 7 = true) : Nat.ble (mEnt as).length (mXt 197).2.2.1 = true := h
theorem nof_198 : mNof mXt 198 = (2, some 10) := rfl
theorem mq_198 : (mXt 198).2.2.2.2.2.2.2 = mc_198 := rfl
theorem ml_198 {as : List mV} (h : Nat.ble (mEnt as).length 3 = true) : Nat.ble (mEnt as).length (mXt 198).2.2.1 = true := h
theorem nof_199 : mNof mXt 199 = (3, some 10) := rfl
theorem mq_199 : (mXt 199).2.2.2.2.2.2.2 = mc_199 := rfl
theorem ml_199 {as : List mV} (h : Nat.ble (mEnt as).length 9 = true) : Nat.ble (mEnt as).length (mXt 199).2.2.1 = true := h
theorem nof_200 : mNof mXt 200 = (3, some 10) := rfl
theorem mq_200 : (mXt 200).2.2.2.2.2.2.2 = mc_200 := rfl
theorem ml_200 {as : List mV} (h : Nat.ble (mEnt as).length 6 = true) : Nat.ble (mEnt as).length (mXt 200).2.2.1 = true := h
theorem nof_201 : mNof mXt 201 = (4, some 10) := rfl
theorem mq_201 : (mXt 201).2.2.2.2.2.2.2 = mc_201 := rfl
theorem ml_201 {as : List mV} (h : Nat.ble (mEnt as).length 4 = true) : Nat.ble (mEnt as).length (mXt 201).2.2.1 = true := h
theorem nof_202 : mNof mXt 202 = (4, some 10) := rfl
theorem mq_202 : (mXt 202).2.2.2.2.2.2.2 = mc_202 := rfl
theorem ml_202 {as : List mV} (h : Nat.ble (mEnt as).length 4 = true) : Nat.ble (mEnt as).length (mXt 202).2.2.1 = true := h
theorem nof_203 : mNof mXt 203 = (1, some 10) := rfl
theorem mq_203 : (mXt 203).2.2.2.2.2.2.2 = mc_203 := rfl
theorem ml_203 {as : List mV} (h : Nat.ble (mEnt as).length 3 = true) : Nat.ble (mEnt as).length (mXt 203).2.2.1 = true := h
theorem nof_204 : mNof mXt 204 = (3, some 10) := rfl
theorem mq_204 : (mXt 204).2.2.2.2.2.2.2 = mc_204 := rfl
theorem ml_204 {as : List mV} (h : Nat.ble (mEnt as).length 10 = true) : Nat.ble (mEnt as).length (mXt 204).2.2.1 = true := h
theorem nof_205 : mNof mXt 205 = (3, some 10) := rfl
theorem mq_205 : (mXt 205).2.2.2.2.2.2.2 = mc_205 := rfl
theorem ml_205 {as : List mV} (h : Nat.ble (mEnt as).length 5 = true) : Nat.ble (mEnt as).length (mXt 205).2.2.1 = true := h
theorem nof_206 : mNof mXt 206 = (1, some 10) := rfl
theorem mq_206 : (mXt 206).2.2.2.2.2.2.2 = mc_206 := rfl
theorem ml_206 {as : List mV} (h : Nat.ble (mEnt as).length 4 = true) : Nat.ble (mEnt as).length (mXt 206).2.2.1 = true := h
theorem nof_207 : mNof mXt 207 = (2, some 10) := rfl
theorem mq_207 : (mXt 207).2.2.2.2.2.2.2 = mc_207 := rfl
theorem ml_207 {as : List mV} (h : Nat.ble (mEnt as).length 2 = true) : Nat.ble (mEnt as).length (mXt 207).2.2.1 = true := h
theorem nof_208 : mNof mXt 208 = (3, some 10) := rfl
theorem mq_208 : (mXt 208).2.2.2.2.2.2.2 = mc_208 := rfl
theorem ml_208 {as : List mV} (h : Nat.ble (mEnt as).length 14 = true) : Nat.ble (mEnt as).length (mXt 208).2.2.1 = true := h
theorem nof_209 : mNof mXt 209 = (1, none) := rfl
theorem mq_209 : (mXt 209).2.2.2.2.2.2.2 = mc_209 := rfl
theorem ml_209 {as : List mV} (h : Nat.ble (mEnt as).length 2 = true) : Nat.ble (mEnt as).length (mXt 209).2.2.1 = true := h
theorem nof_210 : mNof mXt 210 = (1, none) := rfl
theorem mq_210 : (mXt 210).2.2.2.2.2.2.2 = mc_210 := rfl
theorem ml_210 {as : List mV} (h : Nat.ble (mEnt as).length 8 = true) : Nat.ble (mEnt as).length (mXt 210).2.2.1 = true := h
theorem nof_211 : mNof mXt 211 = (1, none) := rfl
theorem mq_211 : (mXt 211).2.2.2.2.2.2.2 = mc_211 := rfl
theorem ml_211 {as : List mV} (h : Nat.ble (mEnt as).length 2 = true) : Nat.ble (mEnt as).length (mXt 211).2.2.1 = true := h
theorem nof_212 : mNof mXt 212 = (3, some 10) := rfl
theorem mq_212 : (mXt 212).2.2.2.2.2.2.2 = mc_212 := rfl
theorem ml_212 {as : List mV} (h : Nat.ble (mEnt as).length 5 = true) : Nat.ble (mEnt as).length (mXt 212).2.2.1 = true := h
theorem nof_213 : mNof mXt 213 = (4, some 10) := rfl
theorem mq_213 : (mXt 213).2.2.2.2.2.2.2 = mc_213 := rfl
theorem ml_213 {as : List mV} (h : Nat.ble (mEnt as).length 5 = true) : Nat.ble (mEnt as).length (mXt 213).2.2.1 = true := h
theorem nof_214 : mNof mXt 214 = (2, some 10) := rfl
theorem mq_214 : (mXt 214).2.2.2.2.2.2.2 = mc_214 := rfl
theorem ml_214 {as : List mV} (h : Nat.ble (mEnt as).length 2 = true) : Nat.ble (mEnt as).length (mXt 214).2.2.1 = true := h
theorem nof_215 : mNof mXt 215 = (2, some 10) := rfl
theorem mq_215 : (mXt 215).2.2.2.2.2.2.2 = mc_215 := rfl
theorem ml_215 {as : List mV} (h : Nat.ble (mEnt as).length 2 = true) : Nat.ble (mEnt as).length (mXt 215).2.2.1 = true := h
theorem nof_216 : mNof mXt 216 = (3, some 10) := rfl
theorem mq_216 : (mXt 216).2.2.2.2.2.2.2 = mc_216 := rfl
theorem ml_216 {as : List mV} (h : Nat.ble (mEnt as).length 5 = true) : Nat.ble (mEnt as).length (mXt 216).2.2.1 = true := h
theorem nof_217 : mNof mXt 217 = (3, some 10) := rfl
theorem mq_217 : (mXt 217).2.2.2.2.2.2.2 = mc_217 := rfl
theorem ml_217 {as : List mV} (h : Nat.ble (mEnt as).length 6 = true) : Nat.ble (mEnt as).length (mXt 217).2.2.1 = true := h
theorem nof_218 : mNof mXt 218 = (5, some 10) := rfl
theorem mq_218 : (mXt 218).2.2.2.2.2.2.2 = mc_218 := rfl
theorem ml_218 {as : List mV} (h : Nat.ble (mEnt as).length 7 = true) : Nat.ble (mEnt as).length (mXt 218).2.2.1 = true := h
theorem nof_219 : mNof mXt 219 = (3, some 10) := rfl
theorem mq_219 : (mXt 219).2.2.2.2.2.2.2 = mc_219 := rfl
theorem ml_219 {as : List mV} (h : Nat.ble (mEnt as).length 5 = true) : Nat.ble (mEnt as).length (mXt 219).2.2.1 = true := h
theorem nof_220 : mNof mXt 220 = (3, some 10) := rfl
theorem mq_220 : (mXt 220).2.2.2.2.2.2.2 = mc_220 := rfl
theorem ml_220 {as : List mV} (h : Nat.ble (mEnt as).length 5 = true) : Nat.ble (mEnt as).length (mXt 220).2.2.1 = true := h
theorem nof_221 : mNof mXt 221 = (3, some 10) := rfl
theorem mq_221 : (mXt 221).2.2.2.2.2.2.2 = mc_221 := rfl
theorem ml_221 {as : List mV} (h : Nat.ble (mEnt as).length 3 = true) : Nat.ble (mEnt as).length (mXt 221).2.2.1 = true := h
theorem nof_222 : mNof mXt 222 = (3, some 10) := rfl
theorem mq_222 : (mXt 222).2.2.2.2.2.2.2 = mc_222 := rfl
theorem ml_222 {as : List mV} (h : Nat.ble (mEnt as).length 3 = true) : Nat.ble (mEnt as).length (mXt 222).2.2.1 = true := h
theorem nof_223 : mNof mXt 223 = (3, some 10) := rfl
theorem mq_223 : (mXt 223).2.2.2.2.2.2.2 = mc_223 := rfl
theorem ml_223 {as : List mV} (h : Nat.ble (mEnt as).length 6 = true) : Nat.ble (mEnt as).length (mXt 223).2.2.1 = true := h
theorem nof_224 : mNof mXt 224 = (4, some 10) := rfl
theorem mq_224 : (mXt 224).2.2.2.2.2.2.2 = mc_224 := rfl
theorem ml_224 {as : List mV} (h : Nat.ble (mEnt as).length 7 = true) : Nat.ble (mEnt as).length (mXt 224).2.2.1 = true := h
theorem nof_225 : mNof mXt 225 = (5, some 10) := rfl
theorem mq_225 : (mXt 225).2.2.2.2.2.2.2 = mc_225 := rfl
theorem ml_225 {as : List mV} (h : Nat.ble (mEnt as).length 19 = true) : Nat.ble (mEnt as).length (mXt 225).2.2.1 = true := h
theorem nof_226 : mNof mXt 226 = (2, some 10) := rfl
theorem mq_226 : (mXt 226).2.2.2.2.2.2.2 = mc_226 := rfl
theorem ml_226 {as : List mV} (h : Nat.ble (mEnt as).length 3 = true) : Nat.ble (mEnt as).length (mXt 226).2.2.1 = true := h
theorem nof_227 : mNof mXt 227 = (5, some 10) := rfl
theorem mq_227 : (mXt 227).2.2.2.2.2.2.2 = mc_227 := rfl
theorem ml_227 {as : List mV} (h : Nat.ble (mEnt as).length 5 = true) : Nat.ble (mEnt as).length (mXt 227).2.2.1 = true := h
theorem nof_228 : mNof mXt 228 = (3, some 10) := rfl
theorem mq_228 : (mXt 228).2.2.2.2.2.2.2 = mc_228 := rfl
theorem ml_228 {as : List mV} (h : Nat.ble (mEnt as).length 5 = true) : Nat.ble (mEnt as).length (mXt 228).2.2.1 = true := h
theorem nof_229 : mNof mXt 229 = (4, some 10) := rfl
theorem mq_229 : (mXt 229).2.2.2.2.2.2.2 = mc_229 := rfl
theorem ml_229 {as : List mV} (h : Nat.ble (mEnt as).length 7 = true) : Nat.ble (mEnt as).length (mXt 229).2.2.1 = true := h
theorem nof_230 : mNof mXt 230 = (3, some 10) := rfl
theorem mq_230 : (mXt 230).2.2.2.2.2.2.2 = mc_230 := rfl
theorem ml_230 {as : List mV} (h : Nat.ble (mEnt as).length 3 = true) : Nat.ble (mEnt as).length (mXt 230).2.2.1 = true := h
theorem nof_231 : mNof mXt 231 = (2, some 10) := rfl
theorem mq_231 : (mXt 231).2.2.2.2.2.2.2 = mc_231 := rfl
theorem ml_231 {as : List mV} (h : Nat.ble (mEnt as).length 2 = true) : Nat.ble (mEnt as).length (mXt 231).2.2.1 = true := h
theorem nof_232 : mNof mXt 232 = (2, some 10) := rfl
theorem mq_232 : (mXt 232).2.2.2.2.2.2.2 = mc_232 := rfl
theorem ml_232 {as : List mV} (h : Nat.ble (mEnt as).length 2 = true) : Nat.ble (mEnt as).length (mXt 232).2.2.1 = true := h
theorem nof_233 : mNof mXt 233 = (3, some 10) := rfl
theorem mq_233 : (mXt 233).2.2.2.2.2.2.2 = mc_233 := rfl
theorem ml_233 {as : List mV} (h : Nat.ble (mEnt as).length 3 = true) : Nat.ble (mEnt as).length (mXt 233).2.2.1 = true := h
theorem nof_234 : mNof mXt 234 = (2, some 10) := rfl
theorem mq_234 : (mXt 234).2.2.2.2.2.2.2 = mc_234 := rfl
theorem ml_234 {as : List mV} (h : Nat.ble (mEnt as).length 4 = true) : Nat.ble (mEnt as).length (mXt 234).2.2.1 = true := h
theorem nof_235 : mNof mXt 235 = (3, some 10) := rfl
theorem mq_235 : (mXt 235).2.2.2.2.2.2.2 = mc_235 := rfl
theorem ml_235 {as : List mV} (h : Nat.ble (mEnt as).length 6 = true) : Nat.ble (mEnt as).length (mXt 235).2.2.1 = true := h
theorem nof_236 : mNof mXt 236 = (2, some 10) := rfl
theorem mq_236 : (mXt 236).2.2.2.2.2.2.2 = mc_236 := rfl
theorem ml_236 {as : List mV} (h : Nat.ble (mEnt as).length 4 = true) : Nat.ble (mEnt as).length (mXt 236).2.2.1 = true := h
theorem nof_237 : mNof mXt 237 = (2, some 10) := rfl
theorem mq_237 : (mXt 237).2.2.2.2.2.2.2 = mc_237 := rfl
theorem ml_237 {as : List mV} (h : Nat.ble (mEnt as).length 4 = true) : Nat.ble (mEnt as).length (mXt 237).2.2.1 = true := h
theorem nof_238 : mNof mXt 238 = (2, some 10) := rfl
theorem mq_238 : (mXt 238).2.2.2.2.2.2.2 = mc_238 := rfl
theorem ml_238 {as : List mV} (h : Nat.ble (mEnt as).length 4 = true) : Nat.ble (mEnt as).length (mXt 238).2.2.1 = true := h
theorem nof_239 : mNof mXt 239 = (2, some 10) := rfl
theorem mq_239 : (mXt 239).2.2.2.2.2.2.2 = mc_239 := rfl
theorem ml_239 {as : List mV} (h : Nat.ble (mEnt as).length 4 = true) : Nat.ble (mEnt as).length (mXt 239).2.2.1 = true := h
theorem nof_240 : mNof mXt 240 = (2, some 10) := rfl
theorem mq_240 : (mXt 240).2.2.2.2.2.2.2 = mc_240 := rfl
theorem ml_240 {as : List mV} (h : Nat.ble (mEnt as).length 4 = true) : Nat.ble (mEnt as).length (mXt 240).2.2.1 = true := h
theorem nof_241 : mNof mXt 241 = (2, some 10) := rfl
theorem mq_241 : (mXt 241).2.2.2.2.2.2.2 = mc_241 := rfl
theorem ml_241 {as : List mV} (h : Nat.ble (mEnt as).length 2 = true) : Nat.ble (mEnt as).length (mXt 241).2.2.1 = true := h
theorem nof_242 : mNof mXt 242 = (1, some 10) := rfl
theorem mq_242 : (mXt 242).2.2.2.2.2.2.2 = mc_242 := rfl
theorem ml_242 {as : List mV} (h : Nat.ble (mEnt as).length 3 = true) : Nat.ble (mEnt as).length (mXt 242).2.2.1 = true := h
theorem nof_243 : mNof mXt 243 = (2, some 10) := rfl
theorem mq_243 : (mXt 243).2.2.2.2.2.2.2 = mc_243 := rfl
theorem ml_243 {as : List mV} (h : Nat.ble (mEnt as).length 4 = true) : Nat.ble (mEnt as).length (mXt 243).2.2.1 = true := h
theorem nof_244 : mNof mXt 244 = (1, some 10) := rfl
theorem mq_244 : (mXt 244).2.2.2.2.2.2.2 = mc_244 := rfl
theorem ml_244 {as : List mV} (h : Nat.ble (mEnt as).length 3 = true) : Nat.ble (mEnt as).length (mXt 244).2.2.1 = true := h
theorem nof_245 : mNof mXt 245 = (1, some 10) := rfl
theorem mq_245 : (mXt 245).2.2.2.2.2.2.2 = mc_245 := rfl
theorem ml_245 {as : List mV} (h : Nat.ble (mEnt as).length 5 = true) : Nat.ble (mEnt as).length (mXt 245).2.2.1 = true := h
theorem nof_246 : mNof mXt 246 = (3, some 10) := rfl
theorem mq_246 : (mXt 246).2.2.2.2.2.2.2 = mc_246 := rfl
theorem ml_246 {as : List mV} (h : Nat.ble (mEnt as).length 5 = true) : Nat.ble (mEnt as).length (mXt 246).2.2.1 = true := h
