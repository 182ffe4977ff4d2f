/-! What stands where: methods, pools, instructions. -/
theorem qo0 : qown 0 = 13 := by decide +kernel
theorem qr0 : qrt 0 = (some .boolean) := by decide +kernel
theorem qx0 : qmx 0 = 4 := by decide +kernel
theorem qo1 : qown 1 = 14 := by decide +kernel
theorem qr1 : qrt 1 = (some .int) := by decide +kernel
theorem qx1 : qmx 1 = 1 := by decide +kernel
theorem qo2 : qown 2 = 16 := by decide +kernel
theorem qr2 : qrt 2 = none := by decide +kernel
theorem qx2 : qmx 2 = 4 := by decide +kernel
theorem qo3 : qown 3 = 16 := by decide +kernel
theorem qr3 : qrt 3 = none := by decide +kernel
theorem qx3 : qmx 3 = 5 := by decide +kernel
theorem qo4 : qown 4 = 15 := by decide +kernel
theorem qr4 : qrt 4 = (some .long) := by decide +kernel
theorem qx4 : qmx 4 = 2 := by decide +kernel
theorem qo5 : qown 5 = 15 := by decide +kernel
theorem qr5 : qrt 5 = (some .long) := by decide +kernel
theorem qx5 : qmx 5 = 4 := by decide +kernel
theorem qo6 : qown 6 = 15 := by decide +kernel
theorem qr6 : qrt 6 = (some .int) := by decide +kernel
theorem qx6 : qmx 6 = 2 := by decide +kernel
theorem qo7 : qown 7 = 15 := by decide +kernel
theorem qr7 : qrt 7 = (some .long) := by decide +kernel
theorem qx7 : qmx 7 = 4 := by decide +kernel
theorem qo8 : qown 8 = 0 := by decide +kernel
theorem qr8 : qrt 8 = (some .int) := by decide +kernel
theorem qx8 : qmx 8 = 6 := by decide +kernel
theorem qo9 : qown 9 = 0 := by decide +kernel
theorem qr9 : qrt 9 = (some .boolean) := by decide +kernel
theorem qx9 : qmx 9 = 4 := by decide +kernel
theorem qo10 : qown 10 = 0 := by decide +kernel
theorem qr10 : qrt 10 = none := by decide +kernel
theorem qx10 : qmx 10 = 1 := by decide +kernel
theorem qo11 : qown 11 = 0 := by decide +kernel
theorem qr11 : qrt 11 = (some .int) := by decide +kernel
theorem qx11 : qmx 11 = 4 := by decide +kernel
theorem qo12 : qown 12 = 10 := by decide +kernel
theorem qr12 : qrt 12 = (some .boolean) := by decide +kernel
theorem qx12 : qmx 12 = 2 := by decide +kernel
theorem qo13 : qown 13 = 10 := by decide +kernel
theorem qr13 : qrt 13 = (some .boolean) := by decide +kernel
theorem qx13 : qmx 13 = 6 := by decide +kernel
theorem qo14 : qown 14 = 10 := by decide +kernel
theorem qr14 : qrt 14 = none := by decide +kernel
theorem qx14 : qmx 14 = 3 := by decide +kernel
theorem qo15 : qown 15 = 10 := by decide +kernel
theorem qr15 : qrt 15 = (some .boolean) := by decide +kernel
theorem qx15 : qmx 15 = 4 := by decide +kernel
theorem qo16 : qown 16 = 10 := by decide +kernel
theorem qr16 : qrt 16 = (some .boolean) := by decide +kernel
theorem qx16 : qmx 16 = 5 := by decide +kernel
theorem qo17 : qown 17 = 10 := by decide +kernel
theorem qr17 : qrt 17 = (some .boolean) := by decide +kernel
theorem qx17 : qmx 17 = 13 := by decide +kernel
theorem qo18 : qown 18 = 10 := by decide +kernel
theorem qr18 : qrt 18 = none := by decide +kernel
theorem qx18 : qmx 18 = 1 := by decide +kernel
theorem qo19 : qown 19 = 10 := by decide +kernel
theorem qr19 : qrt 19 = (some .boolean) := by decide +kernel
theorem qx19 : qmx 19 = 2 := by decide +kernel
theorem qo20 : qown 20 = 10 := by decide +kernel
theorem qr20 : qrt 20 = (some .boolean) := by decide +kernel
theorem qx20 : qmx 20 = 1 := by decide +kernel
theorem qo21 : qown 21 = 10 := by decide +kernel
theorem qr21 : qrt 21 = none := by decide +kernel
theorem qx21 : qmx 21 = 4 := by decide +kernel
theorem qo22 : qown 22 = 10 := by decide +kernel
theorem qr22 : qrt 22 = (some .boolean) := by decide +kernel
theorem qx22 : qmx 22 = 3 := by decide +kernel
theorem qo23 : qown 23 = 10 := by decide +kernel
theorem qr23 : qrt 23 = (some .int) := by decide +kernel
theorem qx23 : qmx 23 = 1 := by decide +kernel
theorem qo24 : qown 24 = 10 := by decide +kernel
theorem qr24 : qrt 24 = (some .boolean) := by decide +kernel
theorem qx24 : qmx 24 = 4 := by decide +kernel
theorem qo25 : qown 25 = 10 := by decide +kernel
theorem qr25 : qrt 25 = (some .int) := by decide +kernel
theorem qx25 : qmx 25 = 4 := by decide +kernel
theorem qo26 : qown 26 = 10 := by decide +kernel
theorem qr26 : qrt 26 = (some .long) := by decide +kernel
theorem qx26 : qmx 26 = 5 := by decide +kernel
theorem qo27 : qown 27 = 10 := by decide +kernel
theorem qr27 : qrt 27 = (some .boolean) := by decide +kernel
theorem qx27 : qmx 27 = 2 := by decide +kernel
theorem qo28 : qown 28 = 10 := by decide +kernel
theorem qr28 : qrt 28 = (some .boolean) := by decide +kernel
theorem qx28 : qmx 28 = 6 := by decide +kernel
theorem qo29 : qown 29 = 10 := by decide +kernel
theorem qr29 : qrt 29 = (some .boolean) := by decide +kernel
theorem qx29 : qmx 29 = 2 := by decide +kernel
theorem qo30 : qown 30 = 11 := by decide +kernel
theorem qr30 : qrt 30 = (some .long) := by decide +kernel
theorem qx30 : qmx 30 = 2 := by decide +kernel
theorem qo31 : qown 31 = 11 := by decide +kernel
theorem qr31 : qrt 31 = (some .int) := by decide +kernel
theorem qx31 : qmx 31 = 2 := by decide +kernel
theorem qo32 : qown 32 = 11 := by decide +kernel
theorem qr32 : qrt 32 = (some .boolean) := by decide +kernel
theorem qx32 : qmx 32 = 3 := by decide +kernel
theorem qo33 : qown 33 = 11 := by decide +kernel
theorem qr33 : qrt 33 = (some .boolean) := by decide +kernel
theorem qx33 : qmx 33 = 4 := by decide +kernel
theorem qo34 : qown 34 = 11 := by decide +kernel
theorem qr34 : qrt 34 = (some .int) := by decide +kernel
theorem qx34 : qmx 34 = 13 := by decide +kernel
theorem qo35 : qown 35 = 11 := by decide +kernel
theorem qr35 : qrt 35 = (some .int) := by decide +kernel
theorem qx35 : qmx 35 = 3 := by decide +kernel
theorem qo36 : qown 36 = 11 := by decide +kernel
theorem qr36 : qrt 36 = (some .boolean) := by decide +kernel
theorem qx36 : qmx 36 = 4 := by decide +kernel
theorem qo37 : qown 37 = 11 := by decide +kernel
theorem qr37 : qrt 37 = (some .boolean) := by decide +kernel
theorem qx37 : qmx 37 = 4 := by decide +kernel
theorem qo38 : qown 38 = 11 := by decide +kernel
theorem qr38 : qrt 38 = (some .boolean) := by decide +kernel
theorem qx38 : qmx 38 = 2 := by decide +kernel
theorem qo39 : qown 39 = 11 := by decide +kernel
theorem qr39 : qrt 39 = (some .boolean) := by decide +kernel
theorem qx39 : qmx 39 = 3 := by decide +kernel
theorem qo40 : qown 40 = 11 := by decide +kernel
theorem qr40 : qrt 40 = (some .int) := by decide +kernel
theorem qx40 : qmx 40 = 2 := by decide +kernel
theorem qo41 : qown 41 = 11 := by decide +kernel
theorem qr41 : qrt 41 = (some .int) := by decide +kernel
theorem qx41 : qmx 41 = 5 := by decide +kernel
theorem qo42 : qown 42 = 11 := by decide +kernel
theorem qr42 : qrt 42 = (some .int) := by decide +kernel
theorem qx42 : qmx 42 = 2 := by decide +kernel
theorem qo43 : qown 43 = 11 := by decide +kernel
theorem qr43 : qrt 43 = (some .int) := by decide +kernel
theorem qx43 : qmx 43 = 4 := by decide +kernel
theorem qo44 : qown 44 = 11 := by decide +kernel
theorem qr44 : qrt 44 = (some .int) := by decide +kernel
theorem qx44 : qmx 44 = 5 := by decide +kernel
theorem qo45 : qown 45 = 11 := by decide +kernel
theorem qr45 : qrt 45 = (some .int) := by decide +kernel
theorem qx45 : qmx 45 = 3 := by decide +kernel
theorem qo46 : qown 46 = 11 := by decide +kernel
theorem qr46 : qrt 46 = (some .int) := by decide +kernel
theorem qx46 : qmx 46 = 6 := by decide +kernel
theorem qo47 : qown 47 = 11 := by decide +kernel
theorem qr47 : qrt 47 = (some .int) := by decide +kernel
theorem qx47 : qmx 47 = 3 := by decide +kernel
theorem qo48 : qown 48 = 11 := by decide +kernel
theorem qr48 : qrt 48 = (some .int) := by decide +kernel
theorem qx48 : qmx 48 = 2 := by decide +kernel
theorem qo49 : qown 49 = 11 := by decide +kernel
theorem qr49 : qrt 49 = (some .int) := by decide +kernel
theorem qx49 : qmx 49 = 5 := by decide +kernel
theorem qo50 : qown 50 = 11 := by decide +kernel
theorem qr50 : qrt 50 = (some .long) := by decide +kernel
theorem qx50 : qmx 50 = 2 := by decide +kernel
theorem qo51 : qown 51 = 11 := by decide +kernel
theorem qr51 : qrt 51 = (some .int) := by decide +kernel
theorem qx51 : qmx 51 = 3 := by decide +kernel
theorem qo52 : qown 52 = 11 := by decide +kernel
theorem qr52 : qrt 52 = (some .boolean) := by decide +kernel
theorem qx52 : qmx 52 = 2 := by decide +kernel
theorem qo53 : qown 53 = 11 := by decide +kernel
theorem qr53 : qrt 53 = (some .int) := by decide +kernel
theorem qx53 : qmx 53 = 5 := by decide +kernel
theorem qo54 : qown 54 = 11 := by decide +kernel
theorem qr54 : qrt 54 = (some .boolean) := by decide +kernel
theorem qx54 : qmx 54 = 5 := by decide +kernel
theorem qo55 : qown 55 = 11 := by decide +kernel
theorem qr55 : qrt 55 = none := by decide +kernel
theorem qx55 : qmx 55 = 1 := by decide +kernel
theorem qo56 : qown 56 = 11 := by decide +kernel
theorem qr56 : qrt 56 = (some .boolean) := by decide +kernel
theorem qx56 : qmx 56 = 1 := by decide +kernel
theorem qo57 : qown 57 = 11 := by decide +kernel
theorem qr57 : qrt 57 = (some .boolean) := by decide +kernel
theorem qx57 : qmx 57 = 2 := by decide +kernel
theorem qo58 : qown 58 = 11 := by decide +kernel
theorem qr58 : qrt 58 = (some .boolean) := by decide +kernel
theorem qx58 : qmx 58 = 4 := by decide +kernel
theorem qo59 : qown 59 = 11 := by decide +kernel
theorem qr59 : qrt 59 = (some .int) := by decide +kernel
theorem qx59 : qmx 59 = 5 := by decide +kernel
theorem qo60 : qown 60 = 11 := by decide +kernel
theorem qr60 : qrt 60 = (some .int) := by decide +kernel
theorem qx60 : qmx 60 = 4 := by decide +kernel
theorem qo61 : qown 61 = 11 := by decide +kernel
theorem qr61 : qrt 61 = (some .int) := by decide +kernel
theorem qx61 : qmx 61 = 10 := by decide +kernel
theorem qo62 : qown 62 = 11 := by decide +kernel
theorem qr62 : qrt 62 = (some .boolean) := by decide +kernel
theorem qx62 : qmx 62 = 3 := by decide +kernel
theorem qo63 : qown 63 = 11 := by decide +kernel
theorem qr63 : qrt 63 = (some .boolean) := by decide +kernel
theorem qx63 : qmx 63 = 2 := by decide +kernel
theorem qo64 : qown 64 = 11 := by decide +kernel
theorem qr64 : qrt 64 = (some .int) := by decide +kernel
theorem qx64 : qmx 64 = 3 := by decide +kernel
theorem qo65 : qown 65 = 11 := by decide +kernel
theorem qr65 : qrt 65 = (some .int) := by decide +kernel
theorem qx65 : qmx 65 = 3 := by decide +kernel
theorem qo66 : qown 66 = 11 := by decide +kernel
theorem qr66 : qrt 66 = (some .int) := by decide +kernel
theorem qx66 : qmx 66 = 4 := by decide +kernel
theorem qo67 : qown 67 = 11 := by decide +kernel
theorem qr67 : qrt 67 = (some .boolean) := by decide +kernel
theorem qx67 : qmx 67 = 3 := by decide +kernel
theorem qo68 : qown 68 = 11 := by decide +kernel
theorem qr68 : qrt 68 = (some .boolean) := by decide +kernel
theorem qx68 : qmx 68 = 3 := by decide +kernel
theorem qo69 : qown 69 = 11 := by decide +kernel
theorem qr69 : qrt 69 = (some .long) := by decide +kernel
theorem qx69 : qmx 69 = 4 := by decide +kernel
theorem qo70 : qown 70 = 11 := by decide +kernel
theorem qr70 : qrt 70 = (some .int) := by decide +kernel
theorem qx70 : qmx 70 = 2 := by decide +kernel
theorem qo71 : qown 71 = 11 := by decide +kernel
theorem qr71 : qrt 71 = (some .int) := by decide +kernel
theorem qx71 : qmx 71 = 5 := by decide +kernel
theorem qo72 : qown 72 = 11 := by decide +kernel
theorem qr72 : qrt 72 = (some .int) := by decide +kernel
theorem qx72 : qmx 72 = 3 := by decide +kernel
theorem qo73 : qown 73 = 11 := by decide +kernel
theorem qr73 : qrt 73 = (some (.object "SaggingNet$State")) := by decide +kernel
theorem qx73 : qmx 73 = 2 := by decide +kernel
theorem qo74 : qown 74 = 11 := by decide +kernel
theorem qr74 : qrt 74 = (some .boolean) := by decide +kernel
theorem qx74 : qmx 74 = 3 := by decide +kernel
theorem qo75 : qown 75 = 11 := by decide +kernel
theorem qr75 : qrt 75 = (some .boolean) := by decide +kernel
theorem qx75 : qmx 75 = 3 := by decide +kernel
theorem qo76 : qown 76 = 11 := by decide +kernel
theorem qr76 : qrt 76 = (some .boolean) := by decide +kernel
theorem qx76 : qmx 76 = 3 := by decide +kernel
theorem qo77 : qown 77 = 11 := by decide +kernel
theorem qr77 : qrt 77 = (some .int) := by decide +kernel
theorem qx77 : qmx 77 = 7 := by decide +kernel
theorem qo78 : qown 78 = 11 := by decide +kernel
theorem qr78 : qrt 78 = (some .int) := by decide +kernel
theorem qx78 : qmx 78 = 3 := by decide +kernel
theorem qo79 : qown 79 = 11 := by decide +kernel
theorem qr79 : qrt 79 = (some .int) := by decide +kernel
theorem qx79 : qmx 79 = 5 := by decide +kernel
theorem qo80 : qown 80 = 11 := by decide +kernel
theorem qr80 : qrt 80 = (some .boolean) := by decide +kernel
theorem qx80 : qmx 80 = 3 := by decide +kernel
theorem qo81 : qown 81 = 11 := by decide +kernel
theorem qr81 : qrt 81 = (some .int) := by decide +kernel
theorem qx81 : qmx 81 = 5 := by decide +kernel
theorem qo82 : qown 82 = 11 := by decide +kernel
theorem qr82 : qrt 82 = (some .int) := by decide +kernel
theorem qx82 : qmx 82 = 3 := by decide +kernel
theorem qo83 : qown 83 = 12 := by decide +kernel
theorem qr83 : qrt 83 = (some .long) := by decide +kernel
theorem qx83 : qmx 83 = 7 := by decide +kernel
theorem qo84 : qown 84 = 12 := by decide +kernel
theorem qr84 : qrt 84 = (some .int) := by decide +kernel
theorem qx84 : qmx 84 = 2 := by decide +kernel
theorem qo85 : qown 85 = 12 := by decide +kernel
theorem qr85 : qrt 85 = (some .boolean) := by decide +kernel
theorem qx85 : qmx 85 = 3 := by decide +kernel
theorem qo86 : qown 86 = 12 := by decide +kernel
theorem qr86 : qrt 86 = (some .boolean) := by decide +kernel
theorem qx86 : qmx 86 = 4 := by decide +kernel
theorem qo87 : qown 87 = 12 := by decide +kernel
theorem qr87 : qrt 87 = none := by decide +kernel
theorem qx87 : qmx 87 = 4 := by decide +kernel
theorem qo88 : qown 88 = 12 := by decide +kernel
theorem qr88 : qrt 88 = (some .boolean) := by decide +kernel
theorem qx88 : qmx 88 = 4 := by decide +kernel
theorem qo89 : qown 89 = 12 := by decide +kernel
theorem qr89 : qrt 89 = (some .int) := by decide +kernel
theorem qx89 : qmx 89 = 4 := by decide +kernel
theorem qo90 : qown 90 = 12 := by decide +kernel
theorem qr90 : qrt 90 = (some .int) := by decide +kernel
theorem qx90 : qmx 90 = 3 := by decide +kernel
theorem qo91 : qown 91 = 12 := by decide +kernel
theorem qr91 : qrt 91 = none := by decide +kernel
theorem qx91 : qmx 91 = 2 := by decide +kernel
theorem qo92 : qown 92 = 12 := by decide +kernel
theorem qr92 : qrt 92 = (some .boolean) := by decide +kernel
theorem qx92 : qmx 92 = 4 := by decide +kernel
theorem qo93 : qown 93 = 12 := by decide +kernel
theorem qr93 : qrt 93 = none := by decide +kernel
theorem qx93 : qmx 93 = 3 := by decide +kernel
theorem qo94 : qown 94 = 12 := by decide +kernel
theorem qr94 : qrt 94 = none := by decide +kernel
theorem qx94 : qmx 94 = 2 := by decide +kernel
theorem qo95 : qown 95 = 12 := by decide +kernel
theorem qr95 : qrt 95 = (some .boolean) := by decide +kernel
theorem qx95 : qmx 95 = 2 := by decide +kernel
theorem qo96 : qown 96 = 12 := by decide +kernel
theorem qr96 : qrt 96 = none := by decide +kernel
theorem qx96 : qmx 96 = 4 := by decide +kernel
theorem qo97 : qown 97 = 12 := by decide +kernel
theorem qr97 : qrt 97 = (some .boolean) := by decide +kernel
theorem qx97 : qmx 97 = 3 := by decide +kernel
theorem qo98 : qown 98 = 12 := by decide +kernel
theorem qr98 : qrt 98 = (some .int) := by decide +kernel
theorem qx98 : qmx 98 = 2 := by decide +kernel
theorem qo99 : qown 99 = 12 := by decide +kernel
theorem qr99 : qrt 99 = (some .int) := by decide +kernel
theorem qx99 : qmx 99 = 14 := by decide +kernel
theorem qo100 : qown 100 = 12 := by decide +kernel
theorem qr100 : qrt 100 = (some .int) := by decide +kernel
theorem qx100 : qmx 100 = 10 := by decide +kernel
theorem qo101 : qown 101 = 12 := by decide +kernel
theorem qr101 : qrt 101 = (some .long) := by decide +kernel
theorem qx101 : qmx 101 = 5 := by decide +kernel
theorem qo102 : qown 102 = 12 := by decide +kernel
theorem qr102 : qrt 102 = none := by decide +kernel
theorem qx102 : qmx 102 = 4 := by decide +kernel
theorem qo103 : qown 103 = 12 := by decide +kernel
theorem qr103 : qrt 103 = none := by decide +kernel
theorem qx103 : qmx 103 = 3 := by decide +kernel
theorem qo104 : qown 104 = 12 := by decide +kernel
theorem qr104 : qrt 104 = none := by decide +kernel
theorem qx104 : qmx 104 = 1 := by decide +kernel
theorem qo105 : qown 105 = 12 := by decide +kernel
theorem qr105 : qrt 105 = (some .int) := by decide +kernel
theorem qx105 : qmx 105 = 4 := by decide +kernel
theorem qo106 : qown 106 = 12 := by decide +kernel
theorem qr106 : qrt 106 = none := by decide +kernel
theorem qx106 : qmx 106 = 1 := by decide +kernel
theorem qo107 : qown 107 = 12 := by decide +kernel
theorem qr107 : qrt 107 = (some .int) := by decide +kernel
theorem qx107 : qmx 107 = 6 := by decide +kernel
theorem qo108 : qown 108 = 12 := by decide +kernel
theorem qr108 : qrt 108 = (some .int) := by decide +kernel
theorem qx108 : qmx 108 = 2 := by decide +kernel
theorem qo109 : qown 109 = 12 := by decide +kernel
theorem qr109 : qrt 109 = (some .boolean) := by decide +kernel
theorem qx109 : qmx 109 = 4 := by decide +kernel
theorem qo110 : qown 110 = 12 := by decide +kernel
theorem qr110 : qrt 110 = (some .long) := by decide +kernel
theorem qx110 : qmx 110 = 2 := by decide +kernel
theorem qo111 : qown 111 = 12 := by decide +kernel
theorem qr111 : qrt 111 = none := by decide +kernel
theorem qx111 : qmx 111 = 8 := by decide +kernel
theorem qo112 : qown 112 = 12 := by decide +kernel
theorem qr112 : qrt 112 = none := by decide +kernel
theorem qx112 : qmx 112 = 7 := by decide +kernel
theorem qo113 : qown 113 = 12 := by decide +kernel
theorem qr113 : qrt 113 = (some .int) := by decide +kernel
theorem qx113 : qmx 113 = 2 := by decide +kernel
theorem qo114 : qown 114 = 12 := by decide +kernel
theorem qr114 : qrt 114 = (some .boolean) := by decide +kernel
theorem qx114 : qmx 114 = 2 := by decide +kernel
theorem qo115 : qown 115 = 12 := by decide +kernel
theorem qr115 : qrt 115 = (some .long) := by decide +kernel
theorem qx115 : qmx 115 = 6 := by decide +kernel
theorem qo116 : qown 116 = 12 := by decide +kernel
theorem qr116 : qrt 116 = (some .boolean) := by decide +kernel
theorem qx116 : qmx 116 = 2 := by decide +kernel
theorem qo117 : qown 117 = 12 := by decide +kernel
theorem qr117 : qrt 117 = none := by decide +kernel
theorem qx117 : qmx 117 = 8 := by decide +kernel
theorem qo118 : qown 118 = 12 := by decide +kernel
theorem qr118 : qrt 118 = (some .boolean) := by decide +kernel
theorem qx118 : qmx 118 = 2 := by decide +kernel
theorem qo119 : qown 119 = 12 := by decide +kernel
theorem qr119 : qrt 119 = (some .int) := by decide +kernel
theorem qx119 : qmx 119 = 4 := by decide +kernel
theorem qo120 : qown 120 = 12 := by decide +kernel
theorem qr120 : qrt 120 = (some .int) := by decide +kernel
theorem qx120 : qmx 120 = 1 := by decide +kernel
theorem qo121 : qown 121 = 12 := by decide +kernel
theorem qr121 : qrt 121 = (some .boolean) := by decide +kernel
theorem qx121 : qmx 121 = 4 := by decide +kernel
theorem qo122 : qown 122 = 12 := by decide +kernel
theorem qr122 : qrt 122 = (some .boolean) := by decide +kernel
theorem qx122 : qmx 122 = 5 := by decide +kernel
theorem qo123 : qown 123 = 12 := by decide +kernel
theorem qr123 : qrt 123 = none := by decide +kernel
theorem qx123 : qmx 123 = 2 := by decide +kernel
theorem qo124 : qown 124 = 12 := by decide +kernel
theorem qr124 : qrt 124 = (some .boolean) := by decide +kernel
theorem qx124 : qmx 124 = 1 := by decide +kernel
theorem qo125 : qown 125 = 12 := by decide +kernel
theorem qr125 : qrt 125 = (some .boolean) := by decide +kernel
theorem qx125 : qmx 125 = 5 := by decide +kernel
theorem qo126 : qown 126 = 12 := by decide +kernel
theorem qr126 : qrt 126 = (some .boolean) := by decide +kernel
theorem qx126 : qmx 126 = 1 := by decide +kernel
theorem qo127 : qown 127 = 12 := by decide +kernel
theorem qr127 : qrt 127 = (some .boolean) := by decide +kernel
theorem qx127 : qmx 127 = 1 := by decide +kernel
theorem qo128 : qown 128 = 12 := by decide +kernel
theorem qr128 : qrt 128 = (some .boolean) := by decide +kernel
theorem qx128 : qmx 128 = 1 := by decide +kernel
theorem qo129 : qown 129 = 12 := by decide +kernel
theorem qr129 : qrt 129 = (some .boolean) := by decide +kernel
theorem qx129 : qmx 129 = 2 := by decide +kernel
theorem qo130 : qown 130 = 12 := by decide +kernel
theorem qr130 : qrt 130 = (some .boolean) := by decide +kernel
theorem qx130 : qmx 130 = 2 := by decide +kernel
theorem qo131 : qown 131 = 12 := by decide +kernel
theorem qr131 : qrt 131 = (some .boolean) := by decide +kernel
theorem qx131 : qmx 131 = 1 := by decide +kernel
theorem qo132 : qown 132 = 12 := by decide +kernel
theorem qr132 : qrt 132 = (some .boolean) := by decide +kernel
theorem qx132 : qmx 132 = 2 := by decide +kernel
theorem qo133 : qown 133 = 12 := by decide +kernel
theorem qr133 : qrt 133 = (some .boolean) := by decide +kernel
theorem qx133 : qmx 133 = 1 := by decide +kernel
theorem qo134 : qown 134 = 12 := by decide +kernel
theorem qr134 : qrt 134 = (some .boolean) := by decide +kernel
theorem qx134 : qmx 134 = 4 := by decide +kernel
theorem qo135 : qown 135 = 12 := by decide +kernel
theorem qr135 : qrt 135 = (some .boolean) := by decide +kernel
theorem qx135 : qmx 135 = 2 := by decide +kernel
theorem qo136 : qown 136 = 12 := by decide +kernel
theorem qr136 : qrt 136 = (some .boolean) := by decide +kernel
theorem qx136 : qmx 136 = 2 := by decide +kernel
theorem qo137 : qown 137 = 12 := by decide +kernel
theorem qr137 : qrt 137 = (some .boolean) := by decide +kernel
theorem qx137 : qmx 137 = 2 := by decide +kernel
theorem qo138 : qown 138 = 12 := by decide +kernel
theorem qr138 : qrt 138 = none := by decide +kernel
theorem qx138 : qmx 138 = 2 := by decide +kernel
theorem qo139 : qown 139 = 12 := by decide +kernel
theorem qr139 : qrt 139 = (some .int) := by decide +kernel
theorem qx139 : qmx 139 = 4 := by decide +kernel
theorem qo140 : qown 140 = 12 := by decide +kernel
theorem qr140 : qrt 140 = (some .int) := by decide +kernel
theorem qx140 : qmx 140 = 7 := by decide +kernel
theorem qo141 : qown 141 = 12 := by decide +kernel
theorem qr141 : qrt 141 = (some .int) := by decide +kernel
theorem qx141 : qmx 141 = 9 := by decide +kernel
theorem qo142 : qown 142 = 12 := by decide +kernel
theorem qr142 : qrt 142 = (some .boolean) := by decide +kernel
theorem qx142 : qmx 142 = 5 := by decide +kernel
theorem qo143 : qown 143 = 12 := by decide +kernel
theorem qr143 : qrt 143 = (some .boolean) := by decide +kernel
theorem qx143 : qmx 143 = 6 := by decide +kernel
theorem qo144 : qown 144 = 12 := by decide +kernel
theorem qr144 : qrt 144 = (some .boolean) := by decide +kernel
theorem qx144 : qmx 144 = 3 := by decide +kernel
theorem qo145 : qown 145 = 12 := by decide +kernel
theorem qr145 : qrt 145 = (some .int) := by decide +kernel
theorem qx145 : qmx 145 = 3 := by decide +kernel
theorem qo146 : qown 146 = 12 := by decide +kernel
theorem qr146 : qrt 146 = (some .int) := by decide +kernel
theorem qx146 : qmx 146 = 5 := by decide +kernel
theorem qo147 : qown 147 = 12 := by decide +kernel
theorem qr147 : qrt 147 = (some .boolean) := by decide +kernel
theorem qx147 : qmx 147 = 2 := by decide +kernel
theorem qo148 : qown 148 = 12 := by decide +kernel
theorem qr148 : qrt 148 = (some .int) := by decide +kernel
theorem qx148 : qmx 148 = 5 := by decide +kernel
theorem qo149 : qown 149 = 12 := by decide +kernel
theorem qr149 : qrt 149 = (some .int) := by decide +kernel
theorem qx149 : qmx 149 = 4 := by decide +kernel
theorem qo150 : qown 150 = 12 := by decide +kernel
theorem qr150 : qrt 150 = none := by decide +kernel
theorem qx150 : qmx 150 = 1 := by decide +kernel
theorem qo151 : qown 151 = 12 := by decide +kernel
theorem qr151 : qrt 151 = (some .int) := by decide +kernel
theorem qx151 : qmx 151 = 8 := by decide +kernel
theorem qo152 : qown 152 = 12 := by decide +kernel
theorem qr152 : qrt 152 = none := by decide +kernel
theorem qx152 : qmx 152 = 2 := by decide +kernel
theorem qo153 : qown 153 = 12 := by decide +kernel
theorem qr153 : qrt 153 = none := by decide +kernel
theorem qx153 : qmx 153 = 4 := by decide +kernel
theorem qo154 : qown 154 = 12 := by decide +kernel
theorem qr154 : qrt 154 = none := by decide +kernel
theorem qx154 : qmx 154 = 3 := by decide +kernel
theorem qo155 : qown 155 = 12 := by decide +kernel
theorem qr155 : qrt 155 = none := by decide +kernel
theorem qx155 : qmx 155 = 2 := by decide +kernel
theorem qo156 : qown 156 = 12 := by decide +kernel
theorem qr156 : qrt 156 = (some .int) := by decide +kernel
theorem qx156 : qmx 156 = 3 := by decide +kernel
theorem qo157 : qown 157 = 12 := by decide +kernel
theorem qr157 : qrt 157 = (some .int) := by decide +kernel
theorem qx157 : qmx 157 = 3 := by decide +kernel
theorem qo158 : qown 158 = 12 := by decide +kernel
theorem qr158 : qrt 158 = (some .int) := by decide +kernel
theorem qx158 : qmx 158 = 4 := by decide +kernel
theorem qo159 : qown 159 = 12 := by decide +kernel
theorem qr159 : qrt 159 = (some .boolean) := by decide +kernel
theorem qx159 : qmx 159 = 4 := by decide +kernel
theorem qo160 : qown 160 = 12 := by decide +kernel
theorem qr160 : qrt 160 = (some .boolean) := by decide +kernel
theorem qx160 : qmx 160 = 1 := by decide +kernel
theorem qo161 : qown 161 = 12 := by decide +kernel
theorem qr161 : qrt 161 = (some .boolean) := by decide +kernel
theorem qx161 : qmx 161 = 4 := by decide +kernel
theorem qo162 : qown 162 = 12 := by decide +kernel
theorem qr162 : qrt 162 = (some .long) := by decide +kernel
theorem qx162 : qmx 162 = 4 := by decide +kernel
theorem qo163 : qown 163 = 12 := by decide +kernel
theorem qr163 : qrt 163 = (some .long) := by decide +kernel
theorem qx163 : qmx 163 = 5 := by decide +kernel
theorem qo164 : qown 164 = 12 := by decide +kernel
theorem qr164 : qrt 164 = (some .int) := by decide +kernel
theorem qx164 : qmx 164 = 4 := by decide +kernel
theorem qo165 : qown 165 = 12 := by decide +kernel
theorem qr165 : qrt 165 = none := by decide +kernel
theorem qx165 : qmx 165 = 5 := by decide +kernel
theorem qo166 : qown 166 = 12 := by decide +kernel
theorem qr166 : qrt 166 = (some .long) := by decide +kernel
theorem qx166 : qmx 166 = 4 := by decide +kernel
theorem qo167 : qown 167 = 12 := by decide +kernel
theorem qr167 : qrt 167 = (some .boolean) := by decide +kernel
theorem qx167 : qmx 167 = 3 := by decide +kernel
theorem qo168 : qown 168 = 12 := by decide +kernel
theorem qr168 : qrt 168 = (some .int) := by decide +kernel
theorem qx168 : qmx 168 = 6 := by decide +kernel
theorem qo169 : qown 169 = 12 := by decide +kernel
theorem qr169 : qrt 169 = (some .int) := by decide +kernel
theorem qx169 : qmx 169 = 3 := by decide +kernel
theorem qo170 : qown 170 = 12 := by decide +kernel
theorem qr170 : qrt 170 = (some .long) := by decide +kernel
theorem qx170 : qmx 170 = 2 := by decide +kernel
theorem qo171 : qown 171 = 12 := by decide +kernel
theorem qr171 : qrt 171 = (some .int) := by decide +kernel
theorem qx171 : qmx 171 = 4 := by decide +kernel
theorem qo172 : qown 172 = 12 := by decide +kernel
theorem qr172 : qrt 172 = (some .int) := by decide +kernel
theorem qx172 : qmx 172 = 3 := by decide +kernel
theorem qo173 : qown 173 = 12 := by decide +kernel
theorem qr173 : qrt 173 = none := by decide +kernel
theorem qx173 : qmx 173 = 3 := by decide +kernel
theorem qo174 : qown 174 = 12 := by decide +kernel
theorem qr174 : qrt 174 = none := by decide +kernel
theorem qx174 : qmx 174 = 1 := by decide +kernel
theorem qo175 : qown 175 = 12 := by decide +kernel
theorem qr175 : qrt 175 = none := by decide +kernel
theorem qx175 : qmx 175 = 5 := by decide +kernel
theorem qo176 : qown 176 = 12 := by decide +kernel
theorem qr176 : qrt 176 = (some .boolean) := by decide +kernel
theorem qx176 : qmx 176 = 3 := by decide +kernel
theorem qo177 : qown 177 = 12 := by decide +kernel
theorem qr177 : qrt 177 = none := by decide +kernel
theorem qx177 : qmx 177 = 2 := by decide +kernel
theorem qo178 : qown 178 = 12 := by decide +kernel
theorem qr178 : qrt 178 = (some .long) := by decide +kernel
theorem qx178 : qmx 178 = 4 := by decide +kernel
theorem qo179 : qown 179 = 12 := by decide +kernel
theorem qr179 : qrt 179 = (some .int) := by decide +kernel
theorem qx179 : qmx 179 = 1 := by decide +kernel
theorem qo180 : qown 180 = 12 := by decide +kernel
theorem qr180 : qrt 180 = (some .boolean) := by decide +kernel
theorem qx180 : qmx 180 = 3 := by decide +kernel
theorem qo181 : qown 181 = 12 := by decide +kernel
theorem qr181 : qrt 181 = (some .boolean) := by decide +kernel
theorem qx181 : qmx 181 = 3 := by decide +kernel
theorem qo182 : qown 182 = 12 := by decide +kernel
theorem qr182 : qrt 182 = (some .long) := by decide +kernel
theorem qx182 : qmx 182 = 11 := by decide +kernel
theorem qo183 : qown 183 = 12 := by decide +kernel
theorem qr183 : qrt 183 = (some .long) := by decide +kernel
theorem qx183 : qmx 183 = 4 := by decide +kernel
theorem qo184 : qown 184 = 12 := by decide +kernel
theorem qr184 : qrt 184 = none := by decide +kernel
theorem qx184 : qmx 184 = 7 := by decide +kernel
theorem qo185 : qown 185 = 12 := by decide +kernel
theorem qr185 : qrt 185 = (some .int) := by decide +kernel
theorem qx185 : qmx 185 = 6 := by decide +kernel
theorem qo186 : qown 186 = 12 := by decide +kernel
theorem qr186 : qrt 186 = (some .int) := by decide +kernel
theorem qx186 : qmx 186 = 3 := by decide +kernel
theorem qo187 : qown 187 = 12 := by decide +kernel
theorem qr187 : qrt 187 = (some .long) := by decide +kernel
theorem qx187 : qmx 187 = 5 := by decide +kernel
theorem qo188 : qown 188 = 12 := by decide +kernel
theorem qr188 : qrt 188 = (some .int) := by decide +kernel
theorem qx188 : qmx 188 = 4 := by decide +kernel
theorem qo189 : qown 189 = 12 := by decide +kernel
theorem qr189 : qrt 189 = (some .int) := by decide +kernel
theorem qx189 : qmx 189 = 3 := by decide +kernel
theorem qo190 : qown 190 = 12 := by decide +kernel
theorem qr190 : qrt 190 = none := by decide +kernel
theorem qx190 : qmx 190 = 3 := by decide +kernel
theorem qo191 : qown 191 = 1 := by decide +kernel
theorem qr191 : qrt 191 = (some .int) := by decide +kernel
theorem qx191 : qmx 191 = 7 := by decide +kernel
theorem qo192 : qown 192 = 1 := by decide +kernel
theorem qr192 : qrt 192 = (some .boolean) := by decide +kernel
theorem qx192 : qmx 192 = 5 := by decide +kernel
theorem qo193 : qown 193 = 1 := by decide +kernel
theorem qr193 : qrt 193 = none := by decide +kernel
theorem qx193 : qmx 193 = 1 := by decide +kernel
theorem qo194 : qown 194 = 1 := by decide +kernel
theorem qr194 : qrt 194 = (some .int) := by decide +kernel
theorem qx194 : qmx 194 = 7 := by decide +kernel
theorem qo195 : qown 195 = 1 := by decide +kernel
theorem qr195 : qrt 195 = (some .int) := by decide +kernel
theorem qx195 : qmx 195 = 5 := by decide +kernel
theorem qo196 : qown 196 = 1 := by decide +kernel
theorem qr196 : qrt 196 = none := by decide +kernel
theorem qx196 : qmx 196 = 6 := by decide +kernel
theorem qo197 : qown 197 = 1 := by decide +kernel
theorem qr197 : qrt 197 = (some .int) := by decide +kernel
theorem qx197 : qmx 197 = 11 := by decide +kernel
theorem qo198 : qown 198 = 2 := by decide +kernel
theorem qr198 : qrt 198 = (some .int) := by decide +kernel
theorem qx198 : qmx 198 = 3 := by decide +kernel
theorem qo199 : qown 199 = 2 := by decide +kernel
theorem qr199 : qrt 199 = none := by decide +kernel
theorem qx199 : qmx 199 = 3 := by decide +kernel
theorem qo200 : qown 200 = 2 := by decide +kernel
theorem qr200 : qrt 200 = none := by decide +kernel
theorem qx200 : qmx 200 = 4 := by decide +kernel
theorem qo201 : qown 201 = 2 := by decide +kernel
theorem qr201 : qrt 201 = none := by decide +kernel
theorem qx201 : qmx 201 = 4 := by decide +kernel
theorem qo202 : qown 202 = 2 := by decide +kernel
theorem qr202 : qrt 202 = (some .int) := by decide +kernel
theorem qx202 : qmx 202 = 6 := by decide +kernel
theorem qo203 : qown 203 = 2 := by decide +kernel
theorem qr203 : qrt 203 = (some .boolean) := by decide +kernel
theorem qx203 : qmx 203 = 2 := by decide +kernel
theorem qo204 : qown 204 = 2 := by decide +kernel
theorem qr204 : qrt 204 = none := by decide +kernel
theorem qx204 : qmx 204 = 1 := by decide +kernel
theorem qo205 : qown 205 = 3 := by decide +kernel
theorem qr205 : qrt 205 = none := by decide +kernel
theorem qx205 : qmx 205 = 4 := by decide +kernel
theorem qo206 : qown 206 = 3 := by decide +kernel
theorem qr206 : qrt 206 = (some .boolean) := by decide +kernel
theorem qx206 : qmx 206 = 2 := by decide +kernel
theorem qo207 : qown 207 = 3 := by decide +kernel
theorem qr207 : qrt 207 = none := by decide +kernel
theorem qx207 : qmx 207 = 1 := by decide +kernel
theorem qo208 : qown 208 = 3 := by decide +kernel
theorem qr208 : qrt 208 = none := by decide +kernel
theorem qx208 : qmx 208 = 4 := by decide +kernel
theorem qo209 : qown 209 = 3 := by decide +kernel
theorem qr209 : qrt 209 = none := by decide +kernel
theorem qx209 : qmx 209 = 5 := by decide +kernel
theorem qo210 : qown 210 = 4 := by decide +kernel
theorem qr210 : qrt 210 = (some .int) := by decide +kernel
theorem qx210 : qmx 210 = 5 := by decide +kernel
theorem qo211 : qown 211 = 4 := by decide +kernel
theorem qr211 : qrt 211 = (some .int) := by decide +kernel
theorem qx211 : qmx 211 = 7 := by decide +kernel
theorem qo212 : qown 212 = 4 := by decide +kernel
theorem qr212 : qrt 212 = (some .int) := by decide +kernel
theorem qx212 : qmx 212 = 6 := by decide +kernel
theorem qo213 : qown 213 = 4 := by decide +kernel
theorem qr213 : qrt 213 = none := by decide +kernel
theorem qx213 : qmx 213 = 9 := by decide +kernel
theorem qo214 : qown 214 = 4 := by decide +kernel
theorem qr214 : qrt 214 = (some .boolean) := by decide +kernel
theorem qx214 : qmx 214 = 2 := by decide +kernel
theorem qo215 : qown 215 = 4 := by decide +kernel
theorem qr215 : qrt 215 = (some .boolean) := by decide +kernel
theorem qx215 : qmx 215 = 2 := by decide +kernel
theorem qo216 : qown 216 = 4 := by decide +kernel
theorem qr216 : qrt 216 = (some .boolean) := by decide +kernel
theorem qx216 : qmx 216 = 2 := by decide +kernel
theorem qo217 : qown 217 = 4 := by decide +kernel
theorem qr217 : qrt 217 = none := by decide +kernel
theorem qx217 : qmx 217 = 1 := by decide +kernel
theorem qo218 : qown 218 = 4 := by decide +kernel
theorem qr218 : qrt 218 = (some .boolean) := by decide +kernel
theorem qx218 : qmx 218 = 3 := by decide +kernel
theorem qo219 : qown 219 = 5 := by decide +kernel
theorem qr219 : qrt 219 = none := by decide +kernel
theorem qx219 : qmx 219 = 2 := by decide +kernel
theorem qo220 : qown 220 = 5 := by decide +kernel
theorem qr220 : qrt 220 = none := by decide +kernel
theorem qx220 : qmx 220 = 3 := by decide +kernel
theorem qo221 : qown 221 = 5 := by decide +kernel
theorem qr221 : qrt 221 = none := by decide +kernel
theorem qx221 : qmx 221 = 3 := by decide +kernel
theorem qo222 : qown 222 = 5 := by decide +kernel
theorem qr222 : qrt 222 = (some .boolean) := by decide +kernel
theorem qx222 : qmx 222 = 4 := by decide +kernel
theorem qo223 : qown 223 = 5 := by decide +kernel
theorem qr223 : qrt 223 = none := by decide +kernel
theorem qx223 : qmx 223 = 1 := by decide +kernel
theorem qo224 : qown 224 = 5 := by decide +kernel
theorem qr224 : qrt 224 = none := by decide +kernel
theorem qx224 : qmx 224 = 4 := by decide +kernel
theorem qo225 : qown 225 = 5 := by decide +kernel
theorem qr225 : qrt 225 = none := by decide +kernel
theorem qx225 : qmx 225 = 2 := by decide +kernel
theorem qo226 : qown 226 = 5 := by decide +kernel
theorem qr226 : qrt 226 = none := by decide +kernel
theorem qx226 : qmx 226 = 1 := by decide +kernel
theorem qo227 : qown 227 = 5 := by decide +kernel
theorem qr227 : qrt 227 = none := by decide +kernel
theorem qx227 : qmx 227 = 7 := by decide +kernel
theorem qo228 : qown 228 = 6 := by decide +kernel
theorem qr228 : qrt 228 = (some .boolean) := by decide +kernel
theorem qx228 : qmx 228 = 8 := by decide +kernel
theorem qo229 : qown 229 = 6 := by decide +kernel
theorem qr229 : qrt 229 = none := by decide +kernel
theorem qx229 : qmx 229 = 1 := by decide +kernel
theorem qo230 : qown 230 = 6 := by decide +kernel
theorem qr230 : qrt 230 = (some .boolean) := by decide +kernel
theorem qx230 : qmx 230 = 4 := by decide +kernel
theorem qo231 : qown 231 = 6 := by decide +kernel
theorem qr231 : qrt 231 = none := by decide +kernel
theorem qx231 : qmx 231 = 6 := by decide +kernel
theorem qo232 : qown 232 = 6 := by decide +kernel
theorem qr232 : qrt 232 = none := by decide +kernel
theorem qx232 : qmx 232 = 5 := by decide +kernel
theorem qo233 : qown 233 = 7 := by decide +kernel
theorem qr233 : qrt 233 = none := by decide +kernel
theorem qx233 : qmx 233 = 9 := by decide +kernel
theorem qo234 : qown 234 = 7 := by decide +kernel
theorem qr234 : qrt 234 = (some .long) := by decide +kernel
theorem qx234 : qmx 234 = 11 := by decide +kernel
theorem qo235 : qown 235 = 7 := by decide +kernel
theorem qr235 : qrt 235 = (some .int) := by decide +kernel
theorem qx235 : qmx 235 = 6 := by decide +kernel
theorem qo236 : qown 236 = 7 := by decide +kernel
theorem qr236 : qrt 236 = none := by decide +kernel
theorem qx236 : qmx 236 = 1 := by decide +kernel
theorem qo237 : qown 237 = 7 := by decide +kernel
theorem qr237 : qrt 237 = none := by decide +kernel
theorem qx237 : qmx 237 = 5 := by decide +kernel
theorem qo238 : qown 238 = 7 := by decide +kernel
theorem qr238 : qrt 238 = none := by decide +kernel
theorem qx238 : qmx 238 = 4 := by decide +kernel
theorem qo239 : qown 239 = 7 := by decide +kernel
theorem qr239 : qrt 239 = none := by decide +kernel
theorem qx239 : qmx 239 = 8 := by decide +kernel
theorem qo240 : qown 240 = 7 := by decide +kernel
theorem qr240 : qrt 240 = none := by decide +kernel
theorem qx240 : qmx 240 = 10 := by decide +kernel
theorem qo241 : qown 241 = 8 := by decide +kernel
theorem qr241 : qrt 241 = none := by decide +kernel
theorem qx241 : qmx 241 = 2 := by decide +kernel
theorem qo242 : qown 242 = 8 := by decide +kernel
theorem qr242 : qrt 242 = none := by decide +kernel
theorem qx242 : qmx 242 = 1 := by decide +kernel
theorem qo243 : qown 243 = 8 := by decide +kernel
theorem qr243 : qrt 243 = (some .boolean) := by decide +kernel
theorem qx243 : qmx 243 = 2 := by decide +kernel
theorem qo244 : qown 244 = 8 := by decide +kernel
theorem qr244 : qrt 244 = (some .int) := by decide +kernel
theorem qx244 : qmx 244 = 4 := by decide +kernel
theorem qo245 : qown 245 = 8 := by decide +kernel
theorem qr245 : qrt 245 = (some .boolean) := by decide +kernel
theorem qx245 : qmx 245 = 2 := by decide +kernel
theorem qo246 : qown 246 = 9 := by decide +kernel
theorem qr246 : qrt 246 = none := by decide +kernel
theorem qx246 : qmx 246 = 3 := by decide +kernel
theorem qo247 : qown 247 = 9 := by decide +kernel
theorem qr247 : qrt 247 = (some .boolean) := by decide +kernel
theorem qx247 : qmx 247 = 1 := by decide +kernel
theorem qo248 : qown 248 = 9 := by decide +kernel
theorem qr248 : qrt 248 = none := by decide +kernel
theorem qx248 : qmx 248 = 1 := by decide +kernel
theorem qo249 : qown 249 = 9 := by decide +kernel
theorem qr249 : qrt 249 = (some .int) := by decide +kernel
theorem qx249 : qmx 249 = 4 := by decide +kernel
theorem qo250 : qown 250 = 10 := by decide +kernel
theorem qr250 : qrt 250 = none := by decide +kernel
theorem qx250 : qmx 250 = 1 := by decide +kernel
theorem qF0_37 : qF_ 0 37 = some (4, 1, 195, false) := by decide +kernel
theorem qF0_42 : qF_ 0 42 = some (8, 5, 304, false) := by decide +kernel
theorem qF0_29 : qF_ 0 29 = some (7, 0, 343, false) := by decide +kernel
theorem qF0_50 : qF_ 0 50 = some (7, 2, 350, false) := by decide +kernel
theorem qF0_12 : qF_ 0 12 = some (0, 0, 405, false) := by decide +kernel
theorem qF0_21 : qF_ 0 21 = some (0, 1, 406, false) := by decide +kernel
theorem qK0_11 : qK_ 0 11 = some (242, 0, 3, 402, 283, 0, 116) := rfl
theorem qK0_20 : qK_ 0 20 = some (236, 0, 3, 404, 337, 0, 117) := rfl
theorem qK0_25 : qK_ 0 25 = some (238, 2, 0, 809, 810, 811, 117) := rfl
theorem qK0_33 : qK_ 0 33 = some (241, 1, 0, 851, 801, 802, 116) := rfl
theorem qK0_46 : qK_ 0 46 = some (9, 3, 0, 852, 854, 19, 118) := rfl
theorem qN0_9 : qN_ 0 9 = some (8, 401, 281, 116) := by decide +kernel
theorem qN0_18 : qN_ 0 18 = some (7, 403, 335, 117) := by decide +kernel
theorem qF1_66 : qF_ 1 66 = some (4, 0, 194, false) := by decide +kernel
theorem qF1_37 : qF_ 1 37 = some (4, 2, 201, false) := by decide +kernel
theorem qF1_69 : qF_ 1 69 = some (4, 7, 217, false) := by decide +kernel
theorem qF1_60 : qF_ 1 60 = some (4, 14, 234, false) := by decide +kernel
theorem qF1_63 : qF_ 1 63 = some (4, 15, 238, false) := by decide +kernel
theorem qF1_72 : qF_ 1 72 = some (8, 4, 302, false) := by decide +kernel
theorem qF1_9 : qF_ 1 9 = some (1, 0, 551, false) := by decide +kernel
theorem qF1_15 : qF_ 1 15 = some (1, 1, 553, false) := by decide +kernel
theorem qF1_19 : qF_ 1 19 = some (1, 2, 555, false) := by decide +kernel
theorem qF1_22 : qF_ 1 22 = some (1, 3, 557, false) := by decide +kernel
theorem qF1_25 : qF_ 1 25 = some (1, 4, 559, false) := by decide +kernel
theorem qF1_28 : qF_ 1 28 = some (1, 5, 560, false) := by decide +kernel
theorem qK1_31 : qK_ 1 31 = some (213, 3, 0, 1104, 817, 818, 114) := rfl
theorem qK1_41 : qK_ 1 41 = some (197, 3, 0, 1105, 1107, 39, 123) := rfl
theorem qK1_53 : qK_ 1 53 = some (195, 2, 0, 1109, 1111, 40, 123) := rfl
theorem qK1_45 : qK_ 1 45 = some (194, 2, 0, 1113, 1115, 41, 123) := rfl
theorem qK1_56 : qK_ 1 56 = some (191, 4, 0, 1117, 1119, 42, 123) := rfl
theorem qK1_49 : qK_ 1 49 = some (196, 1, 0, 1121, 1123, 43, 123) := rfl
theorem qF2_35 : qF_ 2 35 = some (2, 0, 513, false) := by decide +kernel
theorem qF2_39 : qF_ 2 39 = some (2, 1, 515, false) := by decide +kernel
theorem qF2_9 : qF_ 2 9 = some (2, 2, 517, false) := by decide +kernel
theorem qF2_15 : qF_ 2 15 = some (2, 3, 519, false) := by decide +kernel
theorem qF2_18 : qF_ 2 18 = some (2, 4, 521, false) := by decide +kernel
theorem qF2_21 : qF_ 2 21 = some (2, 5, 522, false) := by decide +kernel
theorem qF2_24 : qF_ 2 24 = some (2, 6, 523, false) := by decide +kernel
theorem qF2_27 : qF_ 2 27 = some (2, 7, 524, false) := by decide +kernel
theorem qF2_32 : qF_ 2 32 = some (2, 8, 525, false) := by decide +kernel
theorem qK2_42 : qK_ 2 42 = some (200, 0, 0, 1078, 1080, 37, 122) := rfl
theorem qK2_49 : qK_ 2 49 = some (2, 2, 1, 1083, 1084, 0, 128) := rfl
theorem qK2_55 : qK_ 2 55 = some (6, 2, 1, 1086, 734, 0, 126) := rfl
theorem qK2_45 : qK_ 2 45 = some (201, 0, 0, 1087, 1089, 38, 122) := rfl
theorem qI2_48 : qI_ 2 48 = some (1000000, 1082) := by decide +kernel
theorem qF3_31 : qF_ 3 31 = some (7, 1, 347, false) := by decide +kernel
theorem qF3_36 : qF_ 3 36 = some (7, 3, 352, false) := by decide +kernel
theorem qF3_25 : qF_ 3 25 = some (5, 1, 425, false) := by decide +kernel
theorem qF3_43 : qF_ 3 43 = some (5, 3, 430, true) := by decide +kernel
theorem qF3_49 : qF_ 3 49 = some (5, 4, 432, true) := by decide +kernel
theorem qF3_52 : qF_ 3 52 = some (5, 5, 434, true) := by decide +kernel
theorem qF3_21 : qF_ 3 21 = some (3, 0, 460, false) := by decide +kernel
theorem qF3_11 : qF_ 3 11 = some (3, 1, 462, false) := by decide +kernel
theorem qF3_15 : qF_ 3 15 = some (3, 2, 464, false) := by decide +kernel
theorem qF3_18 : qF_ 3 18 = some (3, 3, 466, false) := by decide +kernel
theorem qK3_39 : qK_ 3 39 = some (205, 3, 0, 940, 942, 28, 120) := rfl
theorem qK3_46 : qK_ 3 46 = some (209, 3, 0, 944, 946, 29, 120) := rfl
theorem qF4_62 : qF_ 4 62 = some (4, 0, 191, false) := by decide +kernel
theorem qF4_65 : qF_ 4 65 = some (4, 1, 196, false) := by decide +kernel
theorem qF4_68 : qF_ 4 68 = some (4, 2, 203, false) := by decide +kernel
theorem qF4_9 : qF_ 4 9 = some (4, 3, 206, false) := by decide +kernel
theorem qF4_18 : qF_ 4 18 = some (4, 4, 209, false) := by decide +kernel
theorem qF4_22 : qF_ 4 22 = some (4, 5, 212, false) := by decide +kernel
theorem qF4_26 : qF_ 4 26 = some (4, 6, 214, false) := by decide +kernel
theorem qF4_29 : qF_ 4 29 = some (4, 7, 215, false) := by decide +kernel
theorem qF4_32 : qF_ 4 32 = some (4, 8, 218, false) := by decide +kernel
theorem qF4_35 : qF_ 4 35 = some (4, 9, 221, false) := by decide +kernel
theorem qF4_38 : qF_ 4 38 = some (4, 10, 223, false) := by decide +kernel
theorem qF4_41 : qF_ 4 41 = some (4, 11, 225, false) := by decide +kernel
theorem qF4_44 : qF_ 4 44 = some (4, 12, 228, false) := by decide +kernel
theorem qF4_47 : qF_ 4 47 = some (4, 13, 230, false) := by decide +kernel
theorem qF4_50 : qF_ 4 50 = some (4, 14, 232, false) := by decide +kernel
theorem qF4_53 : qF_ 4 53 = some (4, 15, 236, false) := by decide +kernel
theorem qF4_56 : qF_ 4 56 = some (4, 16, 240, false) := by decide +kernel
theorem qF4_59 : qF_ 4 59 = some (4, 17, 241, false) := by decide +kernel
theorem qF4_71 : qF_ 4 71 = some (8, 5, 309, false) := by decide +kernel
theorem qK4_17 : qK_ 4 17 = some (18, 0, 3, 146, 147, 0, 115) := rfl
theorem qK4_76 : qK_ 4 76 = some (6, 2, 1, 820, 734, 0, 126) := rfl
theorem qN4_15 : qN_ 4 15 = some (10, 144, 145, 115) := by decide +kernel
theorem qF5_95 : qF_ 5 95 = some (4, 1, 199, false) := by decide +kernel
theorem qF5_156 : qF_ 5 156 = some (4, 2, 205, false) := by decide +kernel
theorem qF5_118 : qF_ 5 118 = some (4, 3, 207, false) := by decide +kernel
theorem qF5_148 : qF_ 5 148 = some (4, 4, 210, false) := by decide +kernel
theorem qF5_139 : qF_ 5 139 = some (4, 5, 213, false) := by decide +kernel
theorem qF5_142 : qF_ 5 142 = some (4, 8, 220, false) := by decide +kernel
theorem qF5_103 : qF_ 5 103 = some (4, 11, 226, false) := by decide +kernel
theorem qF5_133 : qF_ 5 133 = some (4, 12, 229, false) := by decide +kernel
theorem qF5_163 : qF_ 5 163 = some (4, 14, 235, false) := by decide +kernel
theorem qF5_169 : qF_ 5 169 = some (4, 15, 239, false) := by decide +kernel
theorem qF5_82 : qF_ 5 82 = some (8, 0, 289, false) := by decide +kernel
theorem qF5_47 : qF_ 5 47 = some (8, 1, 292, false) := by decide +kernel
theorem qF5_172 : qF_ 5 172 = some (8, 2, 296, false) := by decide +kernel
theorem qF5_79 : qF_ 5 79 = some (8, 3, 298, false) := by decide +kernel
theorem qF5_100 : qF_ 5 100 = some (8, 5, 306, false) := by decide +kernel
theorem qF5_115 : qF_ 5 115 = some (8, 6, 311, false) := by decide +kernel
theorem qF5_130 : qF_ 5 130 = some (8, 7, 315, false) := by decide +kernel
theorem qF5_43 : qF_ 5 43 = some (7, 0, 344, false) := by decide +kernel
theorem qF5_85 : qF_ 5 85 = some (7, 1, 348, false) := by decide +kernel
theorem qF5_91 : qF_ 5 91 = some (7, 3, 353, false) := by decide +kernel
theorem qF5_145 : qF_ 5 145 = some (7, 5, 357, false) := by decide +kernel
theorem qF5_166 : qF_ 5 166 = some (7, 6, 360, false) := by decide +kernel
theorem qF5_106 : qF_ 5 106 = some (7, 7, 364, false) := by decide +kernel
theorem qF5_12 : qF_ 5 12 = some (5, 0, 422, false) := by decide +kernel
theorem qF5_21 : qF_ 5 21 = some (5, 1, 424, false) := by decide +kernel
theorem qF5_88 : qF_ 5 88 = some (5, 2, 427, false) := by decide +kernel
theorem qF5_48 : qF_ 5 48 = some (5, 3, 429, false) := by decide +kernel
theorem qF5_51 : qF_ 5 51 = some (5, 4, 431, false) := by decide +kernel
theorem qF5_54 : qF_ 5 54 = some (5, 5, 433, false) := by decide +kernel
theorem qF5_35 : qF_ 5 35 = some (5, 6, 435, false) := by decide +kernel
theorem qF5_27 : qF_ 5 27 = some (5, 7, 436, false) := by decide +kernel
theorem qK5_11 : qK_ 5 11 = some (242, 0, 3, 419, 283, 0, 116) := rfl
theorem qK5_20 : qK_ 5 20 = some (236, 0, 3, 421, 337, 0, 117) := rfl
theorem qK5_31 : qK_ 5 31 = some (241, 1, 0, 860, 801, 802, 116) := rfl
theorem qK5_39 : qK_ 5 39 = some (238, 2, 0, 865, 810, 811, 117) := rfl
theorem qK5_57 : qK_ 5 57 = some (227, 1, 0, 866, 868, 20, 119) := rfl
theorem qK5_109 : qK_ 5 109 = some (4, 1, 1, 870, 849, 0, 126) := rfl
theorem qK5_123 : qK_ 5 123 = some (7, 2, 1, 872, 873, 0, 126) := rfl
theorem qK5_127 : qK_ 5 127 = some (5, 2, 1, 875, 876, 0, 126) := rfl
theorem qK5_61 : qK_ 5 61 = some (224, 1, 0, 878, 880, 21, 119) := rfl
theorem qK5_64 : qK_ 5 64 = some (226, 0, 0, 882, 884, 22, 119) := rfl
theorem qK5_136 : qK_ 5 136 = some (244, 1, 0, 886, 887, 888, 116) := rfl
theorem qK5_67 : qK_ 5 67 = some (220, 1, 0, 890, 892, 23, 119) := rfl
theorem qK5_152 : qK_ 5 152 = some (16, 2, 0, 894, 895, 896, 115) := rfl
theorem qK5_70 : qK_ 5 70 = some (221, 1, 0, 905, 907, 25, 119) := rfl
theorem qK5_159 : qK_ 5 159 = some (245, 1, 0, 909, 694, 695, 116) := rfl
theorem qK5_73 : qK_ 5 73 = some (1, 1, 1, 910, 911, 0, 129) := rfl
theorem qN5_9 : qN_ 5 9 = some (8, 418, 281, 116) := by decide +kernel
theorem qN5_18 : qN_ 5 18 = some (7, 420, 335, 117) := by decide +kernel
theorem qJ5_121 : qJ_ 5 121 = some (1000000, 871) := by decide +kernel
theorem qF6_50 : qF_ 6 50 = some (4, 1, 198, false) := by decide +kernel
theorem qF6_44 : qF_ 6 44 = some (8, 0, 288, false) := by decide +kernel
theorem qF6_53 : qF_ 6 53 = some (8, 5, 305, false) := by decide +kernel
theorem qF6_56 : qF_ 6 56 = some (7, 7, 363, false) := by decide +kernel
theorem qF6_9 : qF_ 6 9 = some (6, 0, 484, false) := by decide +kernel
theorem qF6_15 : qF_ 6 15 = some (6, 1, 486, false) := by decide +kernel
theorem qF6_19 : qF_ 6 19 = some (6, 2, 488, false) := by decide +kernel
theorem qF6_22 : qF_ 6 22 = some (6, 3, 490, false) := by decide +kernel
theorem qF6_27 : qF_ 6 27 = some (6, 4, 492, false) := by decide +kernel
theorem qK6_36 : qK_ 6 36 = some (231, 4, 0, 920, 922, 26, 121) := rfl
theorem qK6_40 : qK_ 6 40 = some (228, 4, 0, 924, 926, 27, 121) := rfl
theorem qK6_62 : qK_ 6 62 = some (230, 3, 0, 928, 929, 930, 121) := rfl
theorem qK6_30 : qK_ 6 30 = some (218, 2, 0, 932, 933, 934, 114) := rfl
theorem qF7_68 : qF_ 7 68 = some (4, 0, 193, false) := by decide +kernel
theorem qF7_118 : qF_ 7 118 = some (4, 1, 200, false) := by decide +kernel
theorem qF7_78 : qF_ 7 78 = some (4, 2, 202, false) := by decide +kernel
theorem qF7_94 : qF_ 7 94 = some (4, 7, 216, false) := by decide +kernel
theorem qF7_124 : qF_ 7 124 = some (4, 8, 219, false) := by decide +kernel
theorem qF7_130 : qF_ 7 130 = some (4, 9, 222, false) := by decide +kernel
theorem qF7_127 : qF_ 7 127 = some (4, 10, 224, false) := by decide +kernel
theorem qF7_139 : qF_ 7 139 = some (4, 11, 227, false) := by decide +kernel
theorem qF7_85 : qF_ 7 85 = some (4, 14, 233, false) := by decide +kernel
theorem qF7_88 : qF_ 7 88 = some (4, 15, 237, false) := by decide +kernel
theorem qF7_101 : qF_ 7 101 = some (4, 17, 242, false) := by decide +kernel
theorem qF7_42 : qF_ 7 42 = some (8, 1, 290, false) := by decide +kernel
theorem qF7_91 : qF_ 7 91 = some (8, 4, 301, false) := by decide +kernel
theorem qF7_121 : qF_ 7 121 = some (8, 5, 307, false) := by decide +kernel
theorem qF7_48 : qF_ 7 48 = some (7, 0, 342, false) := by decide +kernel
theorem qF7_49 : qF_ 7 49 = some (7, 1, 346, false) := by decide +kernel
theorem qF7_52 : qF_ 7 52 = some (7, 2, 349, false) := by decide +kernel
theorem qF7_9 : qF_ 7 9 = some (7, 3, 351, false) := by decide +kernel
theorem qF7_15 : qF_ 7 15 = some (7, 4, 354, false) := by decide +kernel
theorem qF7_18 : qF_ 7 18 = some (7, 5, 356, false) := by decide +kernel
theorem qF7_21 : qF_ 7 21 = some (7, 6, 359, false) := by decide +kernel
theorem qF7_24 : qF_ 7 24 = some (7, 7, 362, false) := by decide +kernel
theorem qF7_28 : qF_ 7 28 = some (7, 8, 366, false) := by decide +kernel
theorem qF7_31 : qF_ 7 31 = some (7, 9, 367, false) := by decide +kernel
theorem qF7_34 : qF_ 7 34 = some (7, 10, 368, false) := by decide +kernel
theorem qF7_39 : qF_ 7 39 = some (7, 11, 369, false) := by decide +kernel
theorem qK7_56 : qK_ 7 56 = some (3, 2, 1, 813, 814, 0, 128) := rfl
theorem qK7_62 : qK_ 7 62 = some (213, 3, 0, 816, 817, 818, 114) := rfl
theorem qK7_71 : qK_ 7 71 = some (239, 3, 0, 821, 823, 13, 117) := rfl
theorem qK7_81 : qK_ 7 81 = some (245, 1, 0, 825, 694, 695, 116) := rfl
theorem qK7_97 : qK_ 7 97 = some (233, 5, 0, 826, 828, 14, 117) := rfl
theorem qK7_104 : qK_ 7 104 = some (6, 2, 1, 830, 734, 0, 126) := rfl
theorem qK7_75 : qK_ 7 75 = some (240, 3, 0, 831, 833, 15, 117) := rfl
theorem qK7_110 : qK_ 7 110 = some (235, 3, 0, 835, 837, 16, 117) := rfl
theorem qK7_142 : qK_ 7 142 = some (237, 4, 0, 839, 841, 17, 117) := rfl
theorem qK7_114 : qK_ 7 114 = some (234, 1, 0, 843, 845, 18, 117) := rfl
theorem qK7_135 : qK_ 7 135 = some (4, 1, 1, 848, 849, 0, 126) := rfl
theorem qJ7_133 : qJ_ 7 133 = some (100, 847) := by decide +kernel
theorem qF8_24 : qF_ 8 24 = some (8, 0, 286, false) := by decide +kernel
theorem qF8_28 : qF_ 8 28 = some (8, 1, 291, false) := by decide +kernel
theorem qF8_31 : qF_ 8 31 = some (8, 2, 294, false) := by decide +kernel
theorem qF8_34 : qF_ 8 34 = some (8, 3, 297, false) := by decide +kernel
theorem qF8_9 : qF_ 8 9 = some (8, 4, 299, false) := by decide +kernel
theorem qF8_15 : qF_ 8 15 = some (8, 5, 303, false) := by decide +kernel
theorem qF8_18 : qF_ 8 18 = some (8, 6, 310, false) := by decide +kernel
theorem qF8_21 : qF_ 8 21 = some (8, 7, 313, false) := by decide +kernel
theorem qF9_13 : qF_ 9 13 = some (9, 0, 580, false) := by decide +kernel
theorem qF9_9 : qF_ 9 9 = some (9, 1, 582, false) := by decide +kernel
theorem qF10_48 : qF_ 10 48 = some (10, 0, 150, false) := by decide +kernel
theorem qF10_51 : qF_ 10 51 = some (10, 1, 152, false) := by decide +kernel
theorem qF10_54 : qF_ 10 54 = some (10, 2, 153, false) := by decide +kernel
theorem qF10_57 : qF_ 10 57 = some (10, 3, 154, false) := by decide +kernel
theorem qF10_38 : qF_ 10 38 = some (10, 4, 155, false) := by decide +kernel
theorem qF10_81 : qF_ 10 81 = some (10, 5, 156, false) := by decide +kernel
theorem qF10_11 : qF_ 10 11 = some (10, 6, 157, false) := by decide +kernel
theorem qF10_15 : qF_ 10 15 = some (10, 7, 158, false) := by decide +kernel
theorem qF10_18 : qF_ 10 18 = some (10, 8, 159, false) := by decide +kernel
theorem qF10_21 : qF_ 10 21 = some (10, 9, 160, false) := by decide +kernel
theorem qF10_24 : qF_ 10 24 = some (10, 10, 161, false) := by decide +kernel
theorem qF10_28 : qF_ 10 28 = some (10, 11, 162, false) := by decide +kernel
theorem qK10_32 : qK_ 10 32 = some (6, 2, 1, 733, 734, 0, 126) := rfl
theorem qK10_60 : qK_ 10 60 = some (12, 0, 0, 739, 741, 0, 115) := rfl
theorem qK10_74 : qK_ 10 74 = some (23, 0, 0, 743, 745, 1, 115) := rfl
theorem qK10_78 : qK_ 10 78 = some (27, 1, 0, 747, 749, 2, 115) := rfl
theorem qK10_64 : qK_ 10 64 = some (29, 1, 0, 751, 753, 3, 115) := rfl
theorem qK10_68 : qK_ 10 68 = some (13, 1, 0, 755, 757, 4, 115) := rfl
theorem qK10_85 : qK_ 10 85 = some (24, 1, 0, 759, 761, 5, 115) := rfl
theorem qK10_88 : qK_ 10 88 = some (14, 2, 0, 763, 765, 6, 115) := rfl
theorem qK10_95 : qK_ 10 95 = some (28, 1, 0, 767, 769, 7, 115) := rfl
theorem qK10_98 : qK_ 10 98 = some (15, 1, 0, 771, 773, 8, 115) := rfl
theorem qK10_101 : qK_ 10 101 = some (20, 1, 1, 775, 776, 0, 115) := rfl
theorem qK10_104 : qK_ 10 104 = some (22, 0, 0, 778, 780, 9, 115) := rfl
theorem qK10_111 : qK_ 10 111 = some (19, 1, 0, 784, 786, 10, 115) := rfl
theorem qK10_92 : qK_ 10 92 = some (21, 2, 0, 788, 790, 11, 115) := rfl
theorem qK10_71 : qK_ 10 71 = some (250, 0, 0, 792, 794, 12, 115) := rfl
theorem qK10_114 : qK_ 10 114 = some (17, 3, 0, 898, 900, 24, 115) := rfl
theorem qK10_118 : qK_ 10 118 = some (26, 3, 1, 902, 903, 0, 115) := rfl
theorem qF11_347 : qF_ 11 347 = some (10, 0, 151, false) := by decide +kernel
theorem qF11_101 : qF_ 11 101 = some (4, 0, 192, false) := by decide +kernel
theorem qF11_119 : qF_ 11 119 = some (4, 1, 197, false) := by decide +kernel
theorem qF11_130 : qF_ 11 130 = some (4, 2, 204, false) := by decide +kernel
theorem qF11_146 : qF_ 11 146 = some (4, 3, 208, false) := by decide +kernel
theorem qF11_182 : qF_ 11 182 = some (4, 4, 211, false) := by decide +kernel
theorem qF11_337 : qF_ 11 337 = some (4, 13, 231, false) := by decide +kernel
theorem qF11_97 : qF_ 11 97 = some (8, 0, 287, false) := by decide +kernel
theorem qF11_161 : qF_ 11 161 = some (8, 1, 293, false) := by decide +kernel
theorem qF11_133 : qF_ 11 133 = some (8, 2, 295, false) := by decide +kernel
theorem qF11_112 : qF_ 11 112 = some (8, 4, 300, false) := by decide +kernel
theorem qF11_149 : qF_ 11 149 = some (8, 5, 308, false) := by decide +kernel
theorem qF11_225 : qF_ 11 225 = some (8, 6, 312, false) := by decide +kernel
theorem qF11_143 : qF_ 11 143 = some (8, 7, 314, false) := by decide +kernel
theorem qF11_235 : qF_ 11 235 = some (7, 0, 345, false) := by decide +kernel
theorem qF11_236 : qF_ 11 236 = some (7, 4, 355, false) := by decide +kernel
theorem qF11_239 : qF_ 11 239 = some (7, 5, 358, false) := by decide +kernel
theorem qF11_232 : qF_ 11 232 = some (7, 6, 361, false) := by decide +kernel
theorem qF11_221 : qF_ 11 221 = some (7, 7, 365, false) := by decide +kernel
theorem qF11_205 : qF_ 11 205 = some (5, 0, 423, false) := by decide +kernel
theorem qF11_200 : qF_ 11 200 = some (5, 1, 426, false) := by decide +kernel
theorem qF11_212 : qF_ 11 212 = some (5, 2, 428, false) := by decide +kernel
theorem qF11_346 : qF_ 11 346 = some (3, 0, 461, false) := by decide +kernel
theorem qF11_245 : qF_ 11 245 = some (3, 1, 463, false) := by decide +kernel
theorem qF11_248 : qF_ 11 248 = some (3, 2, 465, false) := by decide +kernel
theorem qF11_251 : qF_ 11 251 = some (3, 3, 467, false) := by decide +kernel
theorem qF11_261 : qF_ 11 261 = some (6, 0, 485, false) := by decide +kernel
theorem qF11_281 : qF_ 11 281 = some (6, 1, 487, false) := by decide +kernel
theorem qF11_265 : qF_ 11 265 = some (6, 2, 489, false) := by decide +kernel
theorem qF11_274 : qF_ 11 274 = some (6, 3, 491, false) := by decide +kernel
theorem qF11_277 : qF_ 11 277 = some (6, 4, 493, false) := by decide +kernel
theorem qF11_303 : qF_ 11 303 = some (2, 0, 514, false) := by decide +kernel
theorem qF11_312 : qF_ 11 312 = some (2, 1, 516, false) := by decide +kernel
theorem qF11_297 : qF_ 11 297 = some (2, 2, 518, false) := by decide +kernel
theorem qF11_300 : qF_ 11 300 = some (2, 3, 520, false) := by decide +kernel
theorem qF11_321 : qF_ 11 321 = some (1, 0, 552, false) := by decide +kernel
theorem qF11_324 : qF_ 11 324 = some (1, 1, 554, false) := by decide +kernel
theorem qF11_334 : qF_ 11 334 = some (1, 2, 556, false) := by decide +kernel
theorem qF11_331 : qF_ 11 331 = some (1, 3, 558, false) := by decide +kernel
theorem qF11_172 : qF_ 11 172 = some (9, 0, 581, false) := by decide +kernel
theorem qF11_175 : qF_ 11 175 = some (9, 1, 583, false) := by decide +kernel
theorem qF11_10 : qF_ 11 10 = some (11, 0, 591, false) := by decide +kernel
theorem qF11_19 : qF_ 11 19 = some (11, 1, 592, false) := by decide +kernel
theorem qF11_23 : qF_ 11 23 = some (11, 2, 593, false) := by decide +kernel
theorem qF11_27 : qF_ 11 27 = some (11, 3, 594, false) := by decide +kernel
theorem qF11_34 : qF_ 11 34 = some (11, 4, 595, false) := by decide +kernel
theorem qF11_41 : qF_ 11 41 = some (11, 5, 596, false) := by decide +kernel
theorem qF11_48 : qF_ 11 48 = some (11, 6, 597, false) := by decide +kernel
theorem qF11_55 : qF_ 11 55 = some (11, 7, 598, false) := by decide +kernel
theorem qF11_62 : qF_ 11 62 = some (11, 8, 599, false) := by decide +kernel
theorem qF11_69 : qF_ 11 69 = some (11, 9, 600, false) := by decide +kernel
theorem qF11_76 : qF_ 11 76 = some (11, 10, 601, false) := by decide +kernel
theorem qF11_83 : qF_ 11 83 = some (11, 11, 602, false) := by decide +kernel
theorem qF11_87 : qF_ 11 87 = some (11, 12, 603, false) := by decide +kernel
theorem qF11_93 : qF_ 11 93 = some (11, 13, 604, false) := by decide +kernel
theorem qK11_9 : qK_ 11 9 = some (217, 0, 3, 140, 141, 0, 114) := rfl
theorem qK11_18 : qK_ 11 18 = some (242, 0, 3, 282, 283, 0, 116) := rfl
theorem qK11_33 : qK_ 11 33 = some (236, 0, 3, 336, 337, 0, 117) := rfl
theorem qK11_40 : qK_ 11 40 = some (10, 0, 3, 397, 398, 0, 118) := rfl
theorem qK11_47 : qK_ 11 47 = some (223, 0, 3, 414, 415, 0, 119) := rfl
theorem qK11_54 : qK_ 11 54 = some (207, 0, 3, 456, 457, 0, 120) := rfl
theorem qK11_61 : qK_ 11 61 = some (229, 0, 3, 479, 480, 0, 121) := rfl
theorem qK11_68 : qK_ 11 68 = some (204, 0, 3, 507, 508, 0, 122) := rfl
theorem qK11_75 : qK_ 11 75 = some (193, 0, 3, 547, 548, 0, 123) := rfl
theorem qK11_82 : qK_ 11 82 = some (248, 0, 3, 576, 577, 0, 124) := rfl
theorem qK11_92 : qK_ 11 92 = some (18, 0, 3, 590, 147, 0, 115) := rfl
theorem qK11_104 : qK_ 11 104 = some (56, 1, 1, 638, 639, 0, 113) := rfl
theorem qK11_108 : qK_ 11 108 = some (80, 3, 1, 641, 642, 0, 113) := rfl
theorem qK11_115 : qK_ 11 115 = some (210, 2, 0, 644, 645, 646, 114) := rfl
theorem qK11_122 : qK_ 11 122 = some (214, 1, 0, 652, 653, 654, 114) := rfl
theorem qK11_126 : qK_ 11 126 = some (211, 5, 0, 657, 658, 659, 114) := rfl
theorem qK11_136 : qK_ 11 136 = some (212, 3, 0, 665, 666, 667, 114) := rfl
theorem qK11_140 : qK_ 11 140 = some (215, 1, 0, 673, 674, 675, 114) := rfl
theorem qK11_152 : qK_ 11 152 = some (216, 1, 0, 689, 690, 691, 114) := rfl
theorem qK11_155 : qK_ 11 155 = some (245, 1, 0, 693, 694, 695, 116) := rfl
theorem qK11_158 : qK_ 11 158 = some (243, 1, 0, 701, 702, 703, 116) := rfl
theorem qK11_164 : qK_ 11 164 = some (247, 0, 0, 717, 718, 719, 124) := rfl
theorem qK11_168 : qK_ 11 168 = some (246, 1, 0, 721, 722, 723, 124) := rfl
theorem qK11_178 : qK_ 11 178 = some (25, 2, 0, 729, 730, 731, 115) := rfl
theorem qK11_185 : qK_ 11 185 = some (241, 1, 0, 800, 801, 802, 116) := rfl
theorem qK11_189 : qK_ 11 189 = some (8, 2, 0, 805, 806, 807, 118) := rfl
theorem qK11_193 : qK_ 11 193 = some (219, 1, 0, 856, 857, 858, 119) := rfl
theorem qK11_196 : qK_ 11 196 = some (225, 1, 0, 861, 862, 863, 119) := rfl
theorem qK11_201 : qK_ 11 201 = some (232, 3, 0, 916, 917, 918, 121) := rfl
theorem qK11_208 : qK_ 11 208 = some (208, 2, 0, 936, 937, 938, 120) := rfl
theorem qK11_217 : qK_ 11 217 = some (238, 2, 0, 953, 810, 811, 117) := rfl
theorem qK11_228 : qK_ 11 228 = some (11, 3, 0, 958, 959, 960, 118) := rfl
theorem qK11_242 : qK_ 11 242 = some (206, 1, 0, 974, 975, 976, 120) := rfl
theorem qK11_254 : qK_ 11 254 = some (49, 1, 0, 978, 980, 30, 113) := rfl
theorem qK11_285 : qK_ 11 285 = some (73, 1, 0, 982, 984, 31, 113) := rfl
theorem qK11_258 : qK_ 11 258 = some (52, 1, 0, 986, 988, 32, 113) := rfl
theorem qK11_359 : qK_ 11 359 = some (37, 3, 0, 990, 992, 33, 113) := rfl
theorem qK11_363 : qK_ 11 363 = some (222, 2, 0, 994, 995, 996, 119) := rfl
theorem qK11_268 : qK_ 11 268 = some (230, 3, 0, 1014, 929, 930, 121) := rfl
theorem qK11_282 : qK_ 11 282 = some (57, 1, 0, 1024, 1026, 34, 113) := rfl
theorem qK11_289 : qK_ 11 289 = some (54, 3, 0, 1028, 1030, 35, 113) := rfl
theorem qK11_293 : qK_ 11 293 = some (61, 2, 0, 1040, 1042, 36, 113) := rfl
theorem qK11_350 : qK_ 11 350 = some (244, 1, 0, 1044, 887, 888, 116) := rfl
theorem qK11_367 : qK_ 11 367 = some (1, 1, 1, 1045, 911, 0, 129) := rfl
theorem qK11_306 : qK_ 11 306 = some (198, 2, 0, 1054, 1055, 1056, 122) := rfl
theorem qK11_309 : qK_ 11 309 = some (203, 1, 0, 1062, 1063, 1064, 122) := rfl
theorem qK11_314 : qK_ 11 314 = some (199, 2, 0, 1066, 1067, 1068, 122) := rfl
theorem qK11_318 : qK_ 11 318 = some (202, 2, 0, 1074, 1075, 1076, 122) := rfl
theorem qK11_327 : qK_ 11 327 = some (192, 2, 0, 1100, 1101, 1102, 123) := rfl
theorem qK11_340 : qK_ 11 340 = some (34, 3, 0, 1133, 1135, 44, 113) := rfl
theorem qK11_372 : qK_ 11 372 = some (47, 0, 0, 1137, 1139, 45, 113) := rfl
theorem qK11_376 : qK_ 11 376 = some (41, 2, 0, 1141, 1143, 46, 113) := rfl
theorem qK11_379 : qK_ 11 379 = some (44, 3, 0, 1145, 1147, 47, 113) := rfl
theorem qK11_382 : qK_ 11 382 = some (79, 2, 0, 1149, 1151, 48, 113) := rfl
theorem qK11_343 : qK_ 11 343 = some (58, 1, 0, 1157, 1159, 49, 113) := rfl
theorem qK11_356 : qK_ 11 356 = some (249, 1, 0, 1161, 1162, 1163, 124) := rfl
theorem qK11_353 : qK_ 11 353 = some (40, 1, 0, 1169, 1171, 50, 113) := rfl
theorem qN11_7 : qN_ 11 7 = some (4, 138, 139, 114) := by decide +kernel
theorem qN11_16 : qN_ 11 16 = some (8, 280, 281, 116) := by decide +kernel
theorem qN11_31 : qN_ 11 31 = some (7, 334, 335, 117) := by decide +kernel
theorem qN11_38 : qN_ 11 38 = some (0, 395, 396, 118) := by decide +kernel
theorem qN11_45 : qN_ 11 45 = some (5, 412, 413, 119) := by decide +kernel
theorem qN11_52 : qN_ 11 52 = some (3, 454, 455, 120) := by decide +kernel
theorem qN11_59 : qN_ 11 59 = some (6, 477, 478, 121) := by decide +kernel
theorem qN11_66 : qN_ 11 66 = some (2, 505, 506, 122) := by decide +kernel
theorem qN11_73 : qN_ 11 73 = some (1, 545, 546, 123) := by decide +kernel
theorem qN11_80 : qN_ 11 80 = some (9, 574, 575, 124) := by decide +kernel
theorem qN11_90 : qN_ 11 90 = some (10, 589, 145, 115) := by decide +kernel
theorem qI11_125 : qI_ 11 125 = some (100000, 656) := by decide +kernel
theorem qJ11_215 : qJ_ 11 215 = some (-1000000000, 952) := by decide +kernel
theorem qJ11_272 : qJ_ 11 272 = some (-1, 1015) := by decide +kernel
theorem qJ11_325 : qJ_ 11 325 = some (-2, 1099) := by decide +kernel
theorem qF12_7 : qF_ 12 7 = some (12, 0, 1181, false) := by decide +kernel
theorem qF12_283 : qF_ 12 283 = some (12, 1, 1182, false) := by decide +kernel
theorem qF12_202 : qF_ 12 202 = some (12, 2, 1183, false) := by decide +kernel
theorem qF12_186 : qF_ 12 186 = some (12, 3, 1184, false) := by decide +kernel
theorem qF12_194 : qF_ 12 194 = some (12, 4, 1185, false) := by decide +kernel
theorem qF12_197 : qF_ 12 197 = some (12, 5, 1186, false) := by decide +kernel
theorem qF12_393 : qF_ 12 393 = some (12, 6, 1187, false) := by decide +kernel
theorem qF12_461 : qF_ 12 461 = some (12, 7, 1188, false) := by decide +kernel
theorem qF12_505 : qF_ 12 505 = some (12, 8, 1189, false) := by decide +kernel
theorem qF12_510 : qF_ 12 510 = some (12, 9, 1190, false) := by decide +kernel
theorem qF12_14 : qF_ 12 14 = some (12, 10, 1191, false) := by decide +kernel
theorem qF12_18 : qF_ 12 18 = some (12, 11, 1192, false) := by decide +kernel
theorem qF12_21 : qF_ 12 21 = some (12, 12, 1193, false) := by decide +kernel
theorem qF12_24 : qF_ 12 24 = some (12, 13, 1194, false) := by decide +kernel
theorem qF12_27 : qF_ 12 27 = some (12, 14, 1195, false) := by decide +kernel
theorem qF12_30 : qF_ 12 30 = some (12, 15, 1196, false) := by decide +kernel
theorem qF12_33 : qF_ 12 33 = some (12, 16, 1197, false) := by decide +kernel
theorem qF12_36 : qF_ 12 36 = some (12, 17, 1198, false) := by decide +kernel
theorem qF12_39 : qF_ 12 39 = some (12, 18, 1199, false) := by decide +kernel
theorem qF12_42 : qF_ 12 42 = some (12, 19, 1200, false) := by decide +kernel
theorem qF12_45 : qF_ 12 45 = some (12, 20, 1201, false) := by decide +kernel
theorem qF12_48 : qF_ 12 48 = some (12, 21, 1202, false) := by decide +kernel
theorem qF12_51 : qF_ 12 51 = some (12, 22, 1203, false) := by decide +kernel
theorem qF12_55 : qF_ 12 55 = some (12, 23, 1204, false) := by decide +kernel
theorem qF12_58 : qF_ 12 58 = some (12, 24, 1205, false) := by decide +kernel
theorem qF12_61 : qF_ 12 61 = some (12, 25, 1206, false) := by decide +kernel
theorem qF12_64 : qF_ 12 64 = some (12, 26, 1207, false) := by decide +kernel
theorem qF12_67 : qF_ 12 67 = some (12, 27, 1208, false) := by decide +kernel
theorem qF12_71 : qF_ 12 71 = some (12, 28, 1209, false) := by decide +kernel
theorem qF12_245 : qF_ 12 245 = some (12, 29, 1210, false) := by decide +kernel
theorem qF12_74 : qF_ 12 74 = some (12, 30, 1211, false) := by decide +kernel
theorem qF12_77 : qF_ 12 77 = some (12, 31, 1212, false) := by decide +kernel
theorem qF12_80 : qF_ 12 80 = some (12, 32, 1213, false) := by decide +kernel
theorem qF12_83 : qF_ 12 83 = some (12, 33, 1214, false) := by decide +kernel
theorem qF12_86 : qF_ 12 86 = some (12, 34, 1215, false) := by decide +kernel
theorem qF12_89 : qF_ 12 89 = some (12, 35, 1216, false) := by decide +kernel
theorem qF12_92 : qF_ 12 92 = some (12, 36, 1217, false) := by decide +kernel
theorem qF12_95 : qF_ 12 95 = some (12, 37, 1218, false) := by decide +kernel
theorem qF12_98 : qF_ 12 98 = some (12, 38, 1219, false) := by decide +kernel
theorem qF12_101 : qF_ 12 101 = some (12, 39, 1220, false) := by decide +kernel
theorem qF12_104 : qF_ 12 104 = some (12, 40, 1221, false) := by decide +kernel
theorem qF12_107 : qF_ 12 107 = some (12, 41, 1222, false) := by decide +kernel
theorem qF12_110 : qF_ 12 110 = some (12, 42, 1223, false) := by decide +kernel
theorem qF12_113 : qF_ 12 113 = some (12, 43, 1224, false) := by decide +kernel
theorem qF12_290 : qF_ 12 290 = some (12, 44, 1225, false) := by decide +kernel
theorem qF12_293 : qF_ 12 293 = some (12, 45, 1226, false) := by decide +kernel
theorem qF12_296 : qF_ 12 296 = some (12, 46, 1227, false) := by decide +kernel
theorem qF12_329 : qF_ 12 329 = some (12, 47, 1228, false) := by decide +kernel
theorem qF12_303 : qF_ 12 303 = some (12, 48, 1229, false) := by decide +kernel
theorem qF12_309 : qF_ 12 309 = some (12, 49, 1230, false) := by decide +kernel
theorem qF12_306 : qF_ 12 306 = some (12, 50, 1231, false) := by decide +kernel
theorem qF12_376 : qF_ 12 376 = some (12, 51, 1232, false) := by decide +kernel
theorem qF12_357 : qF_ 12 357 = some (12, 52, 1233, false) := by decide +kernel
theorem qF12_116 : qF_ 12 116 = some (12, 53, 1234, false) := by decide +kernel
theorem qF12_402 : qF_ 12 402 = some (12, 54, 1235, false) := by decide +kernel
theorem qF12_396 : qF_ 12 396 = some (12, 55, 1236, false) := by decide +kernel
theorem qF12_399 : qF_ 12 399 = some (12, 56, 1237, false) := by decide +kernel
theorem qF12_119 : qF_ 12 119 = some (12, 57, 1238, false) := by decide +kernel
theorem qF12_122 : qF_ 12 122 = some (12, 58, 1239, false) := by decide +kernel
theorem qF12_424 : qF_ 12 424 = some (12, 59, 1240, false) := by decide +kernel
theorem qF12_125 : qF_ 12 125 = some (12, 60, 1241, false) := by decide +kernel
theorem qF12_128 : qF_ 12 128 = some (12, 61, 1242, false) := by decide +kernel
theorem qF12_131 : qF_ 12 131 = some (12, 62, 1243, false) := by decide +kernel
theorem qF12_134 : qF_ 12 134 = some (12, 63, 1244, false) := by decide +kernel
theorem qF12_137 : qF_ 12 137 = some (12, 64, 1245, false) := by decide +kernel
theorem qF12_140 : qF_ 12 140 = some (12, 65, 1246, false) := by decide +kernel
theorem qF12_143 : qF_ 12 143 = some (12, 66, 1247, false) := by decide +kernel
theorem qF12_146 : qF_ 12 146 = some (12, 67, 1248, false) := by decide +kernel
theorem qF12_149 : qF_ 12 149 = some (12, 68, 1249, false) := by decide +kernel
theorem qF12_152 : qF_ 12 152 = some (12, 69, 1250, false) := by decide +kernel
theorem qF12_155 : qF_ 12 155 = some (12, 70, 1251, false) := by decide +kernel
theorem qF12_158 : qF_ 12 158 = some (12, 71, 1252, false) := by decide +kernel
theorem qF12_161 : qF_ 12 161 = some (12, 72, 1253, false) := by decide +kernel
theorem qF12_164 : qF_ 12 164 = some (12, 73, 1254, false) := by decide +kernel
theorem qF12_167 : qF_ 12 167 = some (12, 74, 1255, false) := by decide +kernel
theorem qF12_170 : qF_ 12 170 = some (12, 75, 1256, false) := by decide +kernel
theorem qF12_173 : qF_ 12 173 = some (12, 76, 1257, false) := by decide +kernel
theorem qF12_176 : qF_ 12 176 = some (12, 77, 1258, false) := by decide +kernel
theorem qF12_179 : qF_ 12 179 = some (12, 78, 1259, false) := by decide +kernel
theorem qF12_182 : qF_ 12 182 = some (12, 79, 1260, false) := by decide +kernel
theorem qK12_205 : qK_ 12 205 = some (126, 1, 1, 1427, 1428, 0, 125) := rfl
theorem qK12_190 : qK_ 12 190 = some (143, 3, 1, 1431, 1432, 0, 125) := rfl
theorem qK12_214 : qK_ 12 214 = some (132, 1, 0, 1441, 1443, 51, 125) := rfl
theorem qK12_224 : qK_ 12 224 = some (136, 1, 0, 1457, 1459, 52, 125) := rfl
theorem qK12_231 : qK_ 12 231 = some (137, 1, 0, 1476, 1478, 53, 125) := rfl
theorem qK12_286 : qK_ 12 286 = some (154, 1, 0, 1497, 1499, 54, 125) := rfl
theorem qK12_299 : qK_ 12 299 = some (124, 0, 0, 1506, 1508, 55, 125) := rfl
theorem qK12_390 : qK_ 12 390 = some (91, 0, 0, 1510, 1512, 56, 125) := rfl
theorem qK12_315 : qK_ 12 315 = some (120, 0, 0, 1514, 1516, 57, 125) := rfl
theorem qK12_312 : qK_ 12 312 = some (190, 2, 0, 1518, 1520, 58, 125) := rfl
theorem qK12_385 : qK_ 12 385 = some (94, 0, 0, 1522, 1524, 59, 125) := rfl
theorem qK12_344 : qK_ 12 344 = some (150, 0, 0, 1526, 1528, 60, 125) := rfl
theorem qK12_319 : qK_ 12 319 = some (155, 1, 0, 1530, 1532, 61, 125) := rfl
theorem qK12_379 : qK_ 12 379 = some (152, 0, 0, 1534, 1536, 62, 125) := rfl
theorem qK12_364 : qK_ 12 364 = some (106, 0, 0, 1538, 1540, 63, 125) := rfl
theorem qK12_326 : qK_ 12 326 = some (160, 0, 0, 1542, 1544, 64, 125) := rfl
theorem qK12_347 : qK_ 12 347 = some (156, 0, 0, 1548, 1550, 65, 125) := rfl
theorem qK12_341 : qK_ 12 341 = some (103, 2, 0, 1552, 1554, 66, 125) := rfl
theorem qK12_350 : qK_ 12 350 = some (135, 1, 0, 1556, 1558, 67, 125) := rfl
theorem qK12_367 : qK_ 12 367 = some (116, 0, 0, 1560, 1562, 68, 125) := rfl
theorem qK12_335 : qK_ 12 335 = some (133, 1, 1, 1564, 1565, 0, 125) := rfl
theorem qK12_338 : qK_ 12 338 = some (128, 1, 1, 1567, 1568, 0, 125) := rfl
theorem qK12_353 : qK_ 12 353 = some (177, 1, 0, 1570, 1572, 69, 125) := rfl
theorem qK12_332 : qK_ 12 332 = some (179, 0, 0, 1574, 1576, 70, 125) := rfl
theorem qK12_361 : qK_ 12 361 = some (131, 1, 1, 1578, 1579, 0, 125) := rfl
theorem qK12_370 : qK_ 12 370 = some (104, 0, 0, 1581, 1583, 71, 125) := rfl
theorem qK12_382 : qK_ 12 382 = some (114, 0, 0, 1585, 1587, 72, 125) := rfl
theorem qK12_373 : qK_ 12 373 = some (138, 1, 0, 1589, 1591, 73, 125) := rfl
theorem qK12_455 : qK_ 12 455 = some (89, 0, 0, 1597, 1599, 74, 125) := rfl
theorem qK12_444 : qK_ 12 444 = some (96, 2, 0, 1602, 1604, 75, 125) := rfl
theorem qK12_429 : qK_ 12 429 = some (173, 1, 0, 1607, 1609, 76, 125) := rfl
theorem qK12_263 : qK_ 12 263 = some (117, 2, 0, 1611, 1613, 77, 125) := rfl
theorem qK12_267 : qK_ 12 267 = some (165, 2, 0, 1615, 1617, 78, 125) := rfl
theorem qK12_239 : qK_ 12 239 = some (148, 2, 0, 1619, 1621, 79, 125) := rfl
theorem qK12_242 : qK_ 12 242 = some (146, 2, 0, 1623, 1625, 80, 125) := rfl
theorem qK12_235 : qK_ 12 235 = some (145, 2, 0, 1627, 1629, 81, 125) := rfl
theorem qK12_271 : qK_ 12 271 = some (112, 2, 0, 1631, 1633, 82, 125) := rfl
theorem qK12_248 : qK_ 12 248 = some (118, 2, 1, 1635, 1636, 0, 125) := rfl
theorem qK12_274 : qK_ 12 274 = some (111, 2, 0, 1638, 1640, 83, 125) := rfl
theorem qK12_252 : qK_ 12 252 = some (140, 2, 0, 1642, 1644, 84, 125) := rfl
theorem qK12_255 : qK_ 12 255 = some (182, 1, 0, 1646, 1648, 85, 125) := rfl
theorem qK12_259 : qK_ 12 259 = some (115, 2, 0, 1650, 1652, 86, 125) := rfl
theorem qK12_447 : qK_ 12 447 = some (164, 1, 0, 1654, 1656, 87, 125) := rfl
theorem qK12_452 : qK_ 12 452 = some (134, 2, 0, 1658, 1660, 88, 125) := rfl
theorem qK12_279 : qK_ 12 279 = some (170, 1, 1, 1663, 1664, 0, 125) := rfl
theorem qK12_458 : qK_ 12 458 = some (175, 1, 0, 1666, 1668, 89, 125) := rfl
theorem qK12_432 : qK_ 12 432 = some (93, 2, 0, 1670, 1672, 90, 125) := rfl
theorem qK12_435 : qK_ 12 435 = some (184, 1, 0, 1674, 1676, 91, 125) := rfl
theorem qK12_438 : qK_ 12 438 = some (122, 3, 0, 1680, 1682, 92, 125) := rfl
theorem qK12_421 : qK_ 12 421 = some (121, 1, 0, 1684, 1686, 93, 125) := rfl
theorem qK12_415 : qK_ 12 415 = some (102, 2, 0, 1688, 1690, 94, 125) := rfl
theorem qK12_411 : qK_ 12 411 = some (187, 3, 1, 1692, 1693, 0, 125) := rfl
theorem qK12_418 : qK_ 12 418 = some (183, 1, 0, 1695, 1697, 95, 125) := rfl
theorem qK12_405 : qK_ 12 405 = some (163, 1, 0, 1699, 1701, 96, 125) := rfl
theorem qK12_408 : qK_ 12 408 = some (178, 1, 0, 1703, 1705, 97, 125) := rfl
theorem qK12_466 : qK_ 12 466 = some (174, 0, 0, 1712, 1714, 98, 125) := rfl
theorem qK12_474 : qK_ 12 474 = some (142, 2, 0, 1734, 1736, 99, 125) := rfl
theorem qK12_479 : qK_ 12 479 = some (167, 2, 0, 1758, 1760, 100, 125) := rfl
theorem qK12_490 : qK_ 12 490 = some (130, 1, 0, 1771, 1773, 101, 125) := rfl
theorem qK12_493 : qK_ 12 493 = some (127, 1, 1, 1775, 1776, 0, 125) := rfl
theorem qK12_496 : qK_ 12 496 = some (125, 3, 0, 1779, 1781, 102, 125) := rfl
theorem qK12_485 : qK_ 12 485 = some (153, 2, 0, 1783, 1785, 103, 125) := rfl
theorem qK12_500 : qK_ 12 500 = some (169, 1, 1, 1796, 1797, 0, 125) := rfl
theorem qK12_513 : qK_ 12 513 = some (129, 1, 0, 1813, 1815, 104, 125) := rfl
theorem qK12_521 : qK_ 12 521 = some (109, 0, 0, 1821, 1823, 105, 125) := rfl
theorem qK12_517 : qK_ 12 517 = some (87, 3, 0, 1826, 1828, 106, 125) := rfl
theorem qK12_532 : qK_ 12 532 = some (101, 2, 0, 1839, 1841, 107, 125) := rfl
theorem qK12_524 : qK_ 12 524 = some (88, 2, 0, 1843, 1845, 108, 125) := rfl
theorem qK12_527 : qK_ 12 527 = some (100, 1, 0, 1847, 1849, 109, 125) := rfl
theorem qK12_538 : qK_ 12 538 = some (162, 2, 0, 1860, 1862, 110, 125) := rfl
theorem qK12_541 : qK_ 12 541 = some (149, 1, 0, 1869, 1871, 111, 125) := rfl
theorem qI12_13 : qI_ 12 13 = some (36400, 1179) := by decide +kernel
theorem qI12_185 : qI_ 12 185 = some (36069, 1180) := by decide +kernel
theorem qI12_213 : qI_ 12 213 = some (36059, 1436) := by decide +kernel
theorem qI12_223 : qI_ 12 223 = some (36042, 1452) := by decide +kernel
theorem qI12_227 : qI_ 12 227 = some (36028, 1461) := by decide +kernel
theorem qI12_230 : qI_ 12 230 = some (36000, 1471) := by decide +kernel
theorem qI12_234 : qI_ 12 234 = some (36051, 1484) := by decide +kernel
theorem qI12_442 : qI_ 12 442 = some (36072, 1601) := by decide +kernel
theorem qI12_451 : qI_ 12 451 = some (36144, 1606) := by decide +kernel
theorem qI12_443 : qI_ 12 443 = some (36216, 1662) := by decide +kernel
theorem qI12_469 : qI_ 12 469 = some (36014, 1720) := by decide +kernel
theorem qI12_470 : qI_ 12 470 = some (36195, 1729) := by decide +kernel
theorem qI12_471 : qI_ 12 471 = some (36288, 1738) := by decide +kernel
theorem qI12_472 : qI_ 12 472 = some (36357, 1739) := by decide +kernel
theorem qI12_473 : qI_ 12 473 = some (36330, 1740) := by decide +kernel
theorem qI12_484 : qI_ 12 484 = some (36339, 1787) := by decide +kernel
theorem qI12_516 : qI_ 12 516 = some (1000000, 1825) := by decide +kernel
theorem qI12_535 : qI_ 12 535 = some (36316, 1864) := by decide +kernel
theorem qJ12_200 : qJ_ 12 200 = some (3, 1430) := by decide +kernel
theorem qJ12_209 : qJ_ 12 209 = some (2000, 1434) := by decide +kernel
theorem qJ12_211 : qJ_ 12 211 = some (9, 1435) := by decide +kernel
theorem qJ12_217 : qJ_ 12 217 = some (5000, 1445) := by decide +kernel
theorem qJ12_219 : qJ_ 12 219 = some (100000, 1446) := by decide +kernel
theorem qJ12_221 : qJ_ 12 221 = some (99, 1451) := by decide +kernel
theorem qJ12_228 : qJ_ 12 228 = some (1000, 1466) := by decide +kernel
theorem qJ12_388 : qJ_ 12 388 = some (160, 1505) := by decide +kernel
theorem qJ12_322 : qJ_ 12 322 = some (48, 1546) := by decide +kernel
theorem qJ12_324 : qJ_ 12 324 = some (57, 1547) := by decide +kernel
theorem qJ12_277 : qJ_ 12 277 = some (100, 1678) := by decide +kernel
theorem qJ12_427 : qJ_ 12 427 = some (1000000, 1679) := by decide +kernel
theorem qJ12_464 : qJ_ 12 464 = some (-1000000000, 1711) := by decide +kernel
theorem qJ12_477 : qJ_ 12 477 = some (2, 1757) := by decide +kernel
theorem qJ12_482 : qJ_ 12 482 = some (-1, 1762) := by decide +kernel
theorem qJ12_488 : qJ_ 12 488 = some (30, 1778) := by decide +kernel
theorem qJ12_503 : qJ_ 12 503 = some (-100, 1803) := by decide +kernel
theorem qJ12_508 : qJ_ 12 508 = some (9999, 1808) := by decide +kernel
theorem qJ12_530 : qJ_ 12 530 = some (-2, 1838) := by decide +kernel
theorem qJ12_536 : qJ_ 12 536 = some (10000, 1859) := by decide +kernel
theorem qJ12_544 : qJ_ 12 544 = some (20, 1877) := by decide +kernel
theorem qK13_9 : qK_ 13 9 = some (55, 0, 2, 132, 133, 0, 113) := rfl
theorem qK13_13 : qK_ 13 13 = some (71, 3, 0, 634, 635, 636, 113) := rfl
theorem qK13_18 : qK_ 13 18 = some (77, 5, 0, 648, 649, 650, 113) := rfl
theorem qK13_23 : qK_ 13 23 = some (81, 3, 0, 661, 662, 663, 113) := rfl
theorem qK13_27 : qK_ 13 27 = some (75, 2, 0, 669, 670, 671, 113) := rfl
theorem qK13_32 : qK_ 13 32 = some (38, 1, 0, 677, 678, 679, 113) := rfl
theorem qK13_37 : qK_ 13 37 = some (76, 2, 0, 681, 682, 683, 113) := rfl
theorem qK13_42 : qK_ 13 42 = some (67, 2, 0, 685, 686, 687, 113) := rfl
theorem qK13_46 : qK_ 13 46 = some (68, 2, 0, 697, 698, 699, 113) := rfl
theorem qK13_50 : qK_ 13 50 = some (62, 2, 0, 705, 706, 707, 113) := rfl
theorem qK13_54 : qK_ 13 54 = some (63, 1, 0, 709, 710, 711, 113) := rfl
theorem qK13_58 : qK_ 13 58 = some (46, 5, 0, 713, 714, 715, 113) := rfl
theorem qK13_62 : qK_ 13 62 = some (66, 1, 0, 725, 726, 727, 113) := rfl
theorem qK13_67 : qK_ 13 67 = some (51, 0, 0, 796, 797, 798, 113) := rfl
theorem qK13_72 : qK_ 13 72 = some (50, 1, 0, 948, 949, 950, 113) := rfl
theorem qK13_77 : qK_ 13 77 = some (78, 2, 0, 954, 955, 956, 113) := rfl
theorem qK13_82 : qK_ 13 82 = some (82, 2, 0, 962, 963, 964, 113) := rfl
theorem qK13_86 : qK_ 13 86 = some (72, 2, 0, 966, 967, 968, 113) := rfl
theorem qK13_90 : qK_ 13 90 = some (45, 2, 0, 970, 971, 972, 113) := rfl
theorem qK13_94 : qK_ 13 94 = some (31, 1, 0, 998, 999, 1000, 113) := rfl
theorem qK13_98 : qK_ 13 98 = some (48, 0, 0, 1002, 1003, 1004, 113) := rfl
theorem qK13_102 : qK_ 13 102 = some (74, 2, 0, 1006, 1007, 1008, 113) := rfl
theorem qK13_106 : qK_ 13 106 = some (69, 3, 0, 1010, 1011, 1012, 113) := rfl
theorem qK13_111 : qK_ 13 111 = some (70, 1, 0, 1016, 1017, 1018, 113) := rfl
theorem qK13_115 : qK_ 13 115 = some (53, 3, 0, 1020, 1021, 1022, 113) := rfl
theorem qK13_119 : qK_ 13 119 = some (59, 2, 0, 1032, 1033, 1034, 113) := rfl
theorem qK13_123 : qK_ 13 123 = some (60, 2, 0, 1036, 1037, 1038, 113) := rfl
theorem qK13_127 : qK_ 13 127 = some (36, 3, 0, 1046, 1047, 1048, 113) := rfl
theorem qK13_132 : qK_ 13 132 = some (65, 2, 0, 1050, 1051, 1052, 113) := rfl
theorem qK13_136 : qK_ 13 136 = some (32, 2, 0, 1058, 1059, 1060, 113) := rfl
theorem qK13_140 : qK_ 13 140 = some (64, 2, 0, 1070, 1071, 1072, 113) := rfl
theorem qK13_144 : qK_ 13 144 = some (33, 3, 0, 1091, 1092, 1093, 113) := rfl
theorem qK13_149 : qK_ 13 149 = some (30, 1, 0, 1095, 1096, 1097, 113) := rfl
theorem qK13_153 : qK_ 13 153 = some (39, 2, 0, 1125, 1126, 1127, 113) := rfl
theorem qK13_157 : qK_ 13 157 = some (43, 3, 0, 1129, 1130, 1131, 113) := rfl
theorem qK13_161 : qK_ 13 161 = some (35, 1, 0, 1153, 1154, 1155, 113) := rfl
theorem qK13_165 : qK_ 13 165 = some (42, 1, 0, 1165, 1166, 1167, 113) := rfl
theorem qK13_12 : qK_ 13 12 = some (123, 0, 2, 1175, 1176, 0, 125) := rfl
theorem qK13_17 : qK_ 13 17 = some (171, 3, 0, 1423, 1424, 1425, 125) := rfl
theorem qK13_22 : qK_ 13 22 = some (185, 5, 0, 1437, 1438, 1439, 125) := rfl
theorem qK13_26 : qK_ 13 26 = some (188, 3, 0, 1447, 1448, 1449, 125) := rfl
theorem qK13_31 : qK_ 13 31 = some (180, 2, 0, 1453, 1454, 1455, 125) := rfl
theorem qK13_36 : qK_ 13 36 = some (95, 1, 0, 1462, 1463, 1464, 125) := rfl
theorem qK13_41 : qK_ 13 41 = some (181, 2, 0, 1467, 1468, 1469, 125) := rfl
theorem qK13_45 : qK_ 13 45 = some (159, 2, 0, 1472, 1473, 1474, 125) := rfl
theorem qK13_49 : qK_ 13 49 = some (161, 2, 0, 1480, 1481, 1482, 125) := rfl
theorem qK13_53 : qK_ 13 53 = some (144, 2, 0, 1485, 1486, 1487, 125) := rfl
theorem qK13_57 : qK_ 13 57 = some (147, 1, 0, 1489, 1490, 1491, 125) := rfl
theorem qK13_61 : qK_ 13 61 = some (107, 5, 0, 1493, 1494, 1495, 125) := rfl
theorem qK13_66 : qK_ 13 66 = some (158, 1, 0, 1501, 1502, 1503, 125) := rfl
theorem qK13_71 : qK_ 13 71 = some (113, 0, 0, 1593, 1594, 1595, 125) := rfl
theorem qK13_76 : qK_ 13 76 = some (110, 1, 0, 1707, 1708, 1709, 125) := rfl
theorem qK13_81 : qK_ 13 81 = some (186, 2, 0, 1716, 1717, 1718, 125) := rfl
theorem qK13_85 : qK_ 13 85 = some (189, 2, 0, 1721, 1722, 1723, 125) := rfl
theorem qK13_89 : qK_ 13 89 = some (172, 2, 0, 1725, 1726, 1727, 125) := rfl
theorem qK13_93 : qK_ 13 93 = some (105, 2, 0, 1730, 1731, 1732, 125) := rfl
theorem qK13_97 : qK_ 13 97 = some (84, 1, 0, 1741, 1742, 1743, 125) := rfl
theorem qK13_101 : qK_ 13 101 = some (108, 0, 0, 1745, 1746, 1747, 125) := rfl
theorem qK13_105 : qK_ 13 105 = some (176, 2, 0, 1749, 1750, 1751, 125) := rfl
theorem qK13_110 : qK_ 13 110 = some (166, 3, 0, 1753, 1754, 1755, 125) := rfl
theorem qK13_114 : qK_ 13 114 = some (168, 1, 0, 1763, 1764, 1765, 125) := rfl
theorem qK13_118 : qK_ 13 118 = some (119, 3, 0, 1767, 1768, 1769, 125) := rfl
theorem qK13_122 : qK_ 13 122 = some (139, 2, 0, 1788, 1789, 1790, 125) := rfl
theorem qK13_126 : qK_ 13 126 = some (141, 2, 0, 1792, 1793, 1794, 125) := rfl
theorem qK13_131 : qK_ 13 131 = some (92, 3, 0, 1799, 1800, 1801, 125) := rfl
theorem qK13_135 : qK_ 13 135 = some (157, 2, 0, 1804, 1805, 1806, 125) := rfl
theorem qK13_139 : qK_ 13 139 = some (85, 2, 0, 1809, 1810, 1811, 125) := rfl
theorem qK13_143 : qK_ 13 143 = some (151, 2, 0, 1817, 1818, 1819, 125) := rfl
theorem qK13_148 : qK_ 13 148 = some (86, 3, 0, 1830, 1831, 1832, 125) := rfl
theorem qK13_152 : qK_ 13 152 = some (83, 1, 0, 1834, 1835, 1836, 125) := rfl
theorem qK13_156 : qK_ 13 156 = some (97, 2, 0, 1851, 1852, 1853, 125) := rfl
theorem qK13_160 : qK_ 13 160 = some (99, 3, 0, 1855, 1856, 1857, 125) := rfl
theorem qK13_164 : qK_ 13 164 = some (90, 1, 0, 1865, 1866, 1867, 125) := rfl
theorem qK13_168 : qK_ 13 168 = some (98, 1, 0, 1873, 1874, 1875, 125) := rfl
theorem qN13_7 : qN_ 13 7 = some (11, 130, 131, 113) := by decide +kernel
theorem qN13_10 : qN_ 13 10 = some (12, 1173, 1174, 125) := by decide +kernel
theorem qI14_265 : qI_ 14 265 = some (1431655765, 913) := by decide +kernel
theorem qI14_266 : qI_ 14 266 = some (858993459, 914) := by decide +kernel
theorem qI14_267 : qI_ 14 267 = some (252645135, 915) := by decide +kernel
