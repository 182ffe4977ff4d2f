/-! Fields: their types; those that may be written anew. -/
theorem qy0_0 : qty 0 0 = .object "SaggingNet$State" := by decide +kernel
theorem qy0_1 : qty 0 1 = .object "SaggingNet$Standing" := by decide +kernel
theorem qy1_0 : qty 1 0 = .array .boolean := by decide +kernel
theorem qy1_1 : qty 1 1 = .array .int := by decide +kernel
theorem qy1_2 : qty 1 2 = .array .int := by decide +kernel
theorem qy1_3 : qty 1 3 = .array .int := by decide +kernel
theorem qy1_4 : qty 1 4 = .array .int := by decide +kernel
theorem qy1_5 : qty 1 5 = .array .int := by decide +kernel
theorem qy2_0 : qty 2 0 = .int := by decide +kernel
theorem qz2_0 : qfin 2 0 = false := by decide +kernel
theorem qy2_1 : qty 2 1 = .int := by decide +kernel
theorem qz2_1 : qfin 2 1 = false := by decide +kernel
theorem qy2_2 : qty 2 2 = .array .int := by decide +kernel
theorem qy2_3 : qty 2 3 = .array .int := by decide +kernel
theorem qy2_4 : qty 2 4 = .array .int := by decide +kernel
theorem qy2_5 : qty 2 5 = .array .int := by decide +kernel
theorem qy2_6 : qty 2 6 = .array .int := by decide +kernel
theorem qy2_7 : qty 2 7 = .array .int := by decide +kernel
theorem qy2_8 : qty 2 8 = .array (.array .int) := by decide +kernel
theorem qy3_0 : qty 3 0 = .int := by decide +kernel
theorem qz3_0 : qfin 3 0 = false := by decide +kernel
theorem qy3_1 : qty 3 1 = .array .int := by decide +kernel
theorem qy3_2 : qty 3 2 = .array .int := by decide +kernel
theorem qy3_3 : qty 3 3 = .array .int := by decide +kernel
theorem qy4_0 : qty 4 0 = .int := by decide +kernel
theorem qz4_0 : qfin 4 0 = false := by decide +kernel
theorem qy4_1 : qty 4 1 = .int := by decide +kernel
theorem qz4_1 : qfin 4 1 = false := by decide +kernel
theorem qy4_2 : qty 4 2 = .int := by decide +kernel
theorem qz4_2 : qfin 4 2 = false := by decide +kernel
theorem qy4_3 : qty 4 3 = .int := by decide +kernel
theorem qz4_3 : qfin 4 3 = false := by decide +kernel
theorem qy4_4 : qty 4 4 = .object "SaggingNet$Text" := by decide +kernel
theorem qz4_4 : qfin 4 4 = false := by decide +kernel
theorem qy4_5 : qty 4 5 = .array .int := by decide +kernel
theorem qy4_6 : qty 4 6 = .array .int := by decide +kernel
theorem qy4_7 : qty 4 7 = .array .int := by decide +kernel
theorem qy4_8 : qty 4 8 = .array .int := by decide +kernel
theorem qy4_9 : qty 4 9 = .array .int := by decide +kernel
theorem qy4_10 : qty 4 10 = .array .int := by decide +kernel
theorem qy4_11 : qty 4 11 = .array .int := by decide +kernel
theorem qy4_12 : qty 4 12 = .array .int := by decide +kernel
theorem qy4_13 : qty 4 13 = .array .int := by decide +kernel
theorem qy4_14 : qty 4 14 = .array .int := by decide +kernel
theorem qy4_15 : qty 4 15 = .array .int := by decide +kernel
theorem qy4_16 : qty 4 16 = .array .int := by decide +kernel
theorem qy4_17 : qty 4 17 = .array .int := by decide +kernel
theorem qy5_0 : qty 5 0 = .object "SaggingNet$State" := by decide +kernel
theorem qy5_1 : qty 5 1 = .object "SaggingNet$Standing" := by decide +kernel
theorem qy5_2 : qty 5 2 = .int := by decide +kernel
theorem qz5_2 : qfin 5 2 = false := by decide +kernel
theorem qy5_3 : qty 5 3 = .int := by decide +kernel
theorem qz5_3 : qfin 5 3 = false := by decide +kernel
theorem qy5_4 : qty 5 4 = .int := by decide +kernel
theorem qz5_4 : qfin 5 4 = false := by decide +kernel
theorem qy5_5 : qty 5 5 = .int := by decide +kernel
theorem qz5_5 : qfin 5 5 = false := by decide +kernel
theorem qy5_6 : qty 5 6 = .boolean := by decide +kernel
theorem qz5_6 : qfin 5 6 = false := by decide +kernel
theorem qy5_7 : qty 5 7 = .array .long := by decide +kernel
theorem qy6_0 : qty 6 0 = .array .boolean := by decide +kernel
theorem qy6_1 : qty 6 1 = .array .int := by decide +kernel
theorem qy6_2 : qty 6 2 = .array .int := by decide +kernel
theorem qy6_3 : qty 6 3 = .array .int := by decide +kernel
theorem qy6_4 : qty 6 4 = .array (.array .long) := by decide +kernel
theorem qy7_0 : qty 7 0 = .int := by decide +kernel
theorem qz7_0 : qfin 7 0 = false := by decide +kernel
theorem qy7_1 : qty 7 1 = .int := by decide +kernel
theorem qz7_1 : qfin 7 1 = false := by decide +kernel
theorem qy7_2 : qty 7 2 = .boolean := by decide +kernel
theorem qz7_2 : qfin 7 2 = false := by decide +kernel
theorem qy7_3 : qty 7 3 = .array .int := by decide +kernel
theorem qy7_4 : qty 7 4 = .array .int := by decide +kernel
theorem qy7_5 : qty 7 5 = .array .int := by decide +kernel
theorem qy7_6 : qty 7 6 = .array .int := by decide +kernel
theorem qy7_7 : qty 7 7 = .array .long := by decide +kernel
theorem qy7_8 : qty 7 8 = .array .int := by decide +kernel
theorem qy7_9 : qty 7 9 = .array .int := by decide +kernel
theorem qy7_10 : qty 7 10 = .array .long := by decide +kernel
theorem qy7_11 : qty 7 11 = .array (.array .long) := by decide +kernel
theorem qy8_0 : qty 8 0 = .int := by decide +kernel
theorem qz8_0 : qfin 8 0 = false := by decide +kernel
theorem qy8_1 : qty 8 1 = .int := by decide +kernel
theorem qz8_1 : qfin 8 1 = false := by decide +kernel
theorem qy8_2 : qty 8 2 = .int := by decide +kernel
theorem qz8_2 : qfin 8 2 = false := by decide +kernel
theorem qy8_3 : qty 8 3 = .int := by decide +kernel
theorem qz8_3 : qfin 8 3 = false := by decide +kernel
theorem qy8_4 : qty 8 4 = .array .int := by decide +kernel
theorem qy8_5 : qty 8 5 = .array .int := by decide +kernel
theorem qy8_6 : qty 8 6 = .array .int := by decide +kernel
theorem qy8_7 : qty 8 7 = .array .int := by decide +kernel
theorem qy9_0 : qty 9 0 = .int := by decide +kernel
theorem qz9_0 : qfin 9 0 = false := by decide +kernel
theorem qy9_1 : qty 9 1 = .array .int := by decide +kernel
theorem qy10_0 : qty 10 0 = .int := by decide +kernel
theorem qz10_0 : qfin 10 0 = false := by decide +kernel
theorem qy10_1 : qty 10 1 = .int := by decide +kernel
theorem qz10_1 : qfin 10 1 = false := by decide +kernel
theorem qy10_2 : qty 10 2 = .int := by decide +kernel
theorem qz10_2 : qfin 10 2 = false := by decide +kernel
theorem qy10_3 : qty 10 3 = .int := by decide +kernel
theorem qz10_3 : qfin 10 3 = false := by decide +kernel
theorem qy10_4 : qty 10 4 = .int := by decide +kernel
theorem qz10_4 : qfin 10 4 = false := by decide +kernel
theorem qy10_5 : qty 10 5 = .boolean := by decide +kernel
theorem qz10_5 : qfin 10 5 = false := by decide +kernel
theorem qy10_6 : qty 10 6 = .array .int := by decide +kernel
theorem qy10_7 : qty 10 7 = .array .int := by decide +kernel
theorem qy10_8 : qty 10 8 = .array .int := by decide +kernel
theorem qy10_9 : qty 10 9 = .array .int := by decide +kernel
theorem qy10_10 : qty 10 10 = .array .boolean := by decide +kernel
theorem qy10_11 : qty 10 11 = .array .long := by decide +kernel
theorem qy11_0 : qty 11 0 = .object "SaggingNet$Net" := by decide +kernel
theorem qy11_1 : qty 11 1 = .object "SaggingNet$State" := by decide +kernel
theorem qy11_2 : qty 11 2 = .array (.object "SaggingNet$State") := by decide +kernel
theorem qy11_3 : qty 11 3 = .array .int := by decide +kernel
theorem qy11_4 : qty 11 4 = .object "SaggingNet$Standing" := by decide +kernel
theorem qy11_5 : qty 11 5 = .object "SaggingNet$Bearing" := by decide +kernel
theorem qy11_6 : qty 11 6 = .object "SaggingNet$Play" := by decide +kernel
theorem qy11_7 : qty 11 7 = .object "SaggingNet$Events" := by decide +kernel
theorem qy11_8 : qty 11 8 = .object "SaggingNet$Screens" := by decide +kernel
theorem qy11_9 : qty 11 9 = .object "SaggingNet$Clocks" := by decide +kernel
theorem qy11_10 : qty 11 10 = .object "SaggingNet$Beginning" := by decide +kernel
theorem qy11_11 : qty 11 11 = .object "SaggingNet$Tape" := by decide +kernel
theorem qy11_12 : qty 11 12 = .array .int := by decide +kernel
theorem qy11_13 : qty 11 13 = .object "SaggingNet$Text" := by decide +kernel
theorem qz11_13 : qfin 11 13 = false := by decide +kernel
theorem qy12_0 : qty 12 0 = .array .byte := by decide +kernel
theorem qy12_1 : qty 12 1 = .int := by decide +kernel
theorem qz12_1 : qfin 12 1 = false := by decide +kernel
theorem qy12_2 : qty 12 2 = .int := by decide +kernel
theorem qz12_2 : qfin 12 2 = false := by decide +kernel
theorem qy12_3 : qty 12 3 = .int := by decide +kernel
theorem qz12_3 : qfin 12 3 = false := by decide +kernel
theorem qy12_4 : qty 12 4 = .int := by decide +kernel
theorem qz12_4 : qfin 12 4 = false := by decide +kernel
theorem qy12_5 : qty 12 5 = .int := by decide +kernel
theorem qz12_5 : qfin 12 5 = false := by decide +kernel
theorem qy12_6 : qty 12 6 = .int := by decide +kernel
theorem qz12_6 : qfin 12 6 = false := by decide +kernel
theorem qy12_7 : qty 12 7 = .int := by decide +kernel
theorem qz12_7 : qfin 12 7 = false := by decide +kernel
theorem qy12_8 : qty 12 8 = .int := by decide +kernel
theorem qz12_8 : qfin 12 8 = false := by decide +kernel
theorem qy12_9 : qty 12 9 = .int := by decide +kernel
theorem qz12_9 : qfin 12 9 = false := by decide +kernel
theorem qy12_10 : qty 12 10 = .array .int := by decide +kernel
theorem qy12_11 : qty 12 11 = .array .int := by decide +kernel
theorem qy12_12 : qty 12 12 = .array .int := by decide +kernel
theorem qy12_13 : qty 12 13 = .array .int := by decide +kernel
theorem qy12_14 : qty 12 14 = .array .int := by decide +kernel
theorem qy12_15 : qty 12 15 = .array .int := by decide +kernel
theorem qy12_16 : qty 12 16 = .array .int := by decide +kernel
theorem qy12_17 : qty 12 17 = .array .int := by decide +kernel
theorem qy12_18 : qty 12 18 = .array .int := by decide +kernel
theorem qy12_19 : qty 12 19 = .array .int := by decide +kernel
theorem qy12_20 : qty 12 20 = .array .int := by decide +kernel
theorem qy12_21 : qty 12 21 = .array .int := by decide +kernel
theorem qy12_22 : qty 12 22 = .array .boolean := by decide +kernel
theorem qy12_23 : qty 12 23 = .array .int := by decide +kernel
theorem qy12_24 : qty 12 24 = .array .int := by decide +kernel
theorem qy12_25 : qty 12 25 = .array .int := by decide +kernel
theorem qy12_26 : qty 12 26 = .array .int := by decide +kernel
theorem qy12_27 : qty 12 27 = .array .long := by decide +kernel
theorem qy12_28 : qty 12 28 = .array .long := by decide +kernel
theorem qy12_29 : qty 12 29 = .int := by decide +kernel
theorem qz12_29 : qfin 12 29 = false := by decide +kernel
theorem qy12_30 : qty 12 30 = .array .int := by decide +kernel
theorem qy12_31 : qty 12 31 = .array .long := by decide +kernel
theorem qy12_32 : qty 12 32 = .array .int := by decide +kernel
theorem qy12_33 : qty 12 33 = .array .long := by decide +kernel
theorem qy12_34 : qty 12 34 = .array .int := by decide +kernel
theorem qy12_35 : qty 12 35 = .array .int := by decide +kernel
theorem qy12_36 : qty 12 36 = .array .int := by decide +kernel
theorem qy12_37 : qty 12 37 = .array .int := by decide +kernel
theorem qy12_38 : qty 12 38 = .array .int := by decide +kernel
theorem qy12_39 : qty 12 39 = .array .int := by decide +kernel
theorem qy12_40 : qty 12 40 = .array .int := by decide +kernel
theorem qy12_41 : qty 12 41 = .array .int := by decide +kernel
theorem qy12_42 : qty 12 42 = .array .int := by decide +kernel
theorem qy12_43 : qty 12 43 = .array .int := by decide +kernel
theorem qy12_44 : qty 12 44 = .int := by decide +kernel
theorem qz12_44 : qfin 12 44 = false := by decide +kernel
theorem qy12_45 : qty 12 45 = .int := by decide +kernel
theorem qz12_45 : qfin 12 45 = false := by decide +kernel
theorem qy12_46 : qty 12 46 = .int := by decide +kernel
theorem qz12_46 : qfin 12 46 = false := by decide +kernel
theorem qy12_47 : qty 12 47 = .int := by decide +kernel
theorem qz12_47 : qfin 12 47 = false := by decide +kernel
theorem qy12_48 : qty 12 48 = .int := by decide +kernel
theorem qz12_48 : qfin 12 48 = false := by decide +kernel
theorem qy12_49 : qty 12 49 = .int := by decide +kernel
theorem qz12_49 : qfin 12 49 = false := by decide +kernel
theorem qy12_50 : qty 12 50 = .int := by decide +kernel
theorem qz12_50 : qfin 12 50 = false := by decide +kernel
theorem qy12_51 : qty 12 51 = .boolean := by decide +kernel
theorem qz12_51 : qfin 12 51 = false := by decide +kernel
theorem qy12_52 : qty 12 52 = .boolean := by decide +kernel
theorem qz12_52 : qfin 12 52 = false := by decide +kernel
theorem qy12_53 : qty 12 53 = .array .int := by decide +kernel
theorem qy12_54 : qty 12 54 = .int := by decide +kernel
theorem qz12_54 : qfin 12 54 = false := by decide +kernel
theorem qy12_55 : qty 12 55 = .int := by decide +kernel
theorem qz12_55 : qfin 12 55 = false := by decide +kernel
theorem qy12_56 : qty 12 56 = .boolean := by decide +kernel
theorem qz12_56 : qfin 12 56 = false := by decide +kernel
theorem qy12_57 : qty 12 57 = .array .long := by decide +kernel
theorem qy12_58 : qty 12 58 = .array .boolean := by decide +kernel
theorem qy12_59 : qty 12 59 = .int := by decide +kernel
theorem qz12_59 : qfin 12 59 = false := by decide +kernel
theorem qy12_60 : qty 12 60 = .array .int := by decide +kernel
theorem qy12_61 : qty 12 61 = .array .int := by decide +kernel
theorem qy12_62 : qty 12 62 = .array .int := by decide +kernel
theorem qy12_63 : qty 12 63 = .array .int := by decide +kernel
theorem qy12_64 : qty 12 64 = .array .boolean := by decide +kernel
theorem qy12_65 : qty 12 65 = .array .int := by decide +kernel
theorem qy12_66 : qty 12 66 = .array .int := by decide +kernel
theorem qy12_67 : qty 12 67 = .array .int := by decide +kernel
theorem qy12_68 : qty 12 68 = .array .boolean := by decide +kernel
theorem qy12_69 : qty 12 69 = .array .int := by decide +kernel
theorem qy12_70 : qty 12 70 = .array .int := by decide +kernel
theorem qy12_71 : qty 12 71 = .array .int := by decide +kernel
theorem qy12_72 : qty 12 72 = .array .int := by decide +kernel
theorem qy12_73 : qty 12 73 = .array .int := by decide +kernel
theorem qy12_74 : qty 12 74 = .array .int := by decide +kernel
theorem qy12_75 : qty 12 75 = .array .int := by decide +kernel
theorem qy12_76 : qty 12 76 = .array .int := by decide +kernel
theorem qy12_77 : qty 12 77 = .array .int := by decide +kernel
theorem qy12_78 : qty 12 78 = .array .long := by decide +kernel
theorem qy12_79 : qty 12 79 = .array .int := by decide +kernel
