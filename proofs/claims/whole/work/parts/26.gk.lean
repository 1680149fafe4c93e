/-! EVERY TABLE PASSES THE CHECK -/
set_option maxRecDepth 100000 in
set_option maxHeartbeats 4000000 in
theorem gk0 : ag_all 0 = true := by decide +kernel
set_option maxRecDepth 100000 in
set_option maxHeartbeats 4000000 in
theorem gk1 : ag_all 1 = true := by decide +kernel
set_option maxRecDepth 100000 in
set_option maxHeartbeats 4000000 in
theorem gk2 : ag_all 2 = true := by decide +kernel
set_option maxRecDepth 100000 in
set_option maxHeartbeats 4000000 in
theorem gk3 : ag_all 3 = true := by decide +kernel
set_option maxRecDepth 100000 in
set_option maxHeartbeats 4000000 in
theorem gk4 : ag_all 4 = true := by decide +kernel
set_option maxRecDepth 100000 in
set_option maxHeartbeats 4000000 in
theorem gk5 : ag_all 5 = true := by decide +kernel
set_option maxRecDepth 100000 in
set_option maxHeartbeats 4000000 in
theorem gk6 : ag_all 6 = true := by decide +kernel
set_option maxRecDepth 100000 in
set_option maxHeartbeats 4000000 in
theorem gk7 : ag_all 7 = true := by decide +kernel
set_option maxRecDepth 100000 in
set_option maxHeartbeats 4000000 in
theorem gk8 : ag_all 8 = true := by decide +kernel
set_option maxRecDepth 100000 in
set_option maxHeartbeats 4000000 in
theorem gk9 : ag_all 9 = true := by decide +kernel
set_option maxRecDepth 100000 in
set_option maxHeartbeats 4000000 in
theorem gk10 : ag_all 10 = true := by decide +kernel
set_option maxRecDepth 100000 in
set_option maxHeartbeats 4000000 in
theorem gk11 : ag_all 11 = true := by decide +kernel
set_option maxRecDepth 100000 in
set_option maxHeartbeats 4000000 in
theorem gk12 : ag_all 12 = true := by decide +kernel
set_option maxRecDepth 100000 in
set_option maxHeartbeats 4000000 in
theorem gk13 : ag_all 13 = true := by decide +kernel
set_option maxRecDepth 100000 in
set_option maxHeartbeats 4000000 in
theorem gk14 : ag_all 14 = true := by decide +kernel
set_option maxRecDepth 100000 in
set_option maxHeartbeats 4000000 in
theorem gk15 : ag_all 15 = true := by decide +kernel
set_option maxRecDepth 100000 in
set_option maxHeartbeats 4000000 in
theorem gk16 : ag_all 16 = true := by decide +kernel
set_option maxRecDepth 100000 in
set_option maxHeartbeats 4000000 in
theorem gk17 : ag_all 17 = true := by decide +kernel
set_option maxRecDepth 100000 in
set_option maxHeartbeats 4000000 in
theorem gk18 : ag_all 18 = true := by decide +kernel
set_option maxRecDepth 100000 in
set_option maxHeartbeats 4000000 in
theorem gk19 : ag_all 19 = true := by decide +kernel
set_option maxRecDepth 100000 in
set_option maxHeartbeats 4000000 in
theorem gk20 : ag_all 20 = true := by decide +kernel
set_option maxRecDepth 100000 in
set_option maxHeartbeats 4000000 in
theorem gk21 : ag_all 21 = true := by decide +kernel
set_option maxRecDepth 100000 in
set_option maxHeartbeats 4000000 in
theorem gk22 : ag_all 22 = true := by decide +kernel
set_option maxRecDepth 100000 in
set_option maxHeartbeats 4000000 in
theorem gk23 : ag_all 23 = true := by decide +kernel
set_option maxRecDepth 100000 in
set_option maxHeartbeats 4000000 in
theorem gk24 : ag_all 24 = true := by decide +kernel
set_option maxRecDepth 100000 in
set_option maxHeartbeats 4000000 in
theorem gk25 : ag_all 25 = true := by decide +kernel
set_option maxRecDepth 100000 in
set_option maxHeartbeats 4000000 in
theorem gk26 : ag_all 26 = true := by decide +kernel
set_option maxRecDepth 100000 in
set_option maxHeartbeats 4000000 in
theorem gk27 : ag_all 27 = true := by decide +kernel
set_option maxRecDepth 100000 in
set_option maxHeartbeats 4000000 in
theorem gk28 : ag_all 28 = true := by decide +kernel
set_option maxRecDepth 100000 in
set_option maxHeartbeats 4000000 in
theorem gk29 : ag_all 29 = true := by decide +kernel
set_option maxRecDepth 100000 in
set_option maxHeartbeats 4000000 in
theorem gk30 : ag_all 30 = true := by decide +kernel
set_option maxRecDepth 100000 in
set_option maxHeartbeats 4000000 in
theorem gk31 : ag_all 31 = true := by decide +kernel
set_option maxRecDepth 100000 in
set_option maxHeartbeats 4000000 in
theorem gk32 : ag_all 32 = true := by decide +kernel
set_option maxRecDepth 100000 in
set_option maxHeartbeats 4000000 in
theorem gk33 : ag_all 33 = true := by decide +kernel
set_option maxRecDepth 100000 in
set_option maxHeartbeats 4000000 in
theorem gk34 : ag_all 34 = true := by decide +kernel
set_option maxRecDepth 100000 in
set_option maxHeartbeats 4000000 in
theorem gk35 : ag_all 35 = true := by decide +kernel
set_option maxRecDepth 100000 in
set_option maxHeartbeats 4000000 in
theorem gk36 : ag_all 36 = true := by decide +kernel
set_option maxRecDepth 100000 in
set_option maxHeartbeats 4000000 in
theorem gk37 : ag_all 37 = true := by decide +kernel
set_option maxRecDepth 100000 in
set_option maxHeartbeats 4000000 in
theorem gk38 : ag_all 38 = true := by decide +kernel
set_option maxRecDepth 100000 in
set_option maxHeartbeats 4000000 in
theorem gk39 : ag_all 39 = true := by decide +kernel
set_option maxRecDepth 100000 in
set_option maxHeartbeats 4000000 in
theorem gk40 : ag_all 40 = true := by decide +kernel
set_option maxRecDepth 100000 in
set_option maxHeartbeats 4000000 in
theorem gk41 : ag_all 41 = true := by decide +kernel
set_option maxRecDepth 100000 in
set_option maxHeartbeats 4000000 in
theorem gk42 : ag_all 42 = true := by decide +kernel
set_option maxRecDepth 100000 in
set_option maxHeartbeats 4000000 in
theorem gk43 : ag_all 43 = true := by decide +kernel
set_option maxRecDepth 100000 in
set_option maxHeartbeats 4000000 in
theorem gk44 : ag_all 44 = true := by decide +kernel
set_option maxRecDepth 100000 in
set_option maxHeartbeats 4000000 in
theorem gk45 : ag_all 45 = true := by decide +kernel
set_option maxRecDepth 100000 in
set_option maxHeartbeats 4000000 in
theorem gk46 : ag_all 46 = true := by decide +kernel
set_option maxRecDepth 100000 in
set_option maxHeartbeats 4000000 in
theorem gk47 : ag_all 47 = true := by decide +kernel
set_option maxRecDepth 100000 in
set_option maxHeartbeats 4000000 in
theorem gk48 : ag_all 48 = true := by decide +kernel
set_option maxRecDepth 100000 in
set_option maxHeartbeats 4000000 in
theorem gk49 : ag_all 49 = true := by decide +kernel
set_option maxRecDepth 100000 in
set_option maxHeartbeats 4000000 in
theorem gk50 : ag_all 50 = true := by decide +kernel
set_option maxRecDepth 100000 in
set_option maxHeartbeats 4000000 in
theorem gk51 : ag_all 51 = true := by decide +kernel
set_option maxRecDepth 100000 in
set_option maxHeartbeats 4000000 in
theorem gk52 : ag_all 52 = true := by decide +kernel
set_option maxRecDepth 100000 in
set_option maxHeartbeats 4000000 in
theorem gk53 : ag_all 53 = true := by decide +kernel
set_option maxRecDepth 100000 in
set_option maxHeartbeats 4000000 in
theorem gk54 : ag_all 54 = true := by decide +kernel
set_option maxRecDepth 100000 in
set_option maxHeartbeats 4000000 in
theorem gk55 : ag_all 55 = true := by decide +kernel
set_option maxRecDepth 100000 in
set_option maxHeartbeats 4000000 in
theorem gk56 : ag_all 56 = true := by decide +kernel
set_option maxRecDepth 100000 in
set_option maxHeartbeats 4000000 in
theorem gk57 : ag_all 57 = true := by decide +kernel
set_option maxRecDepth 100000 in
set_option maxHeartbeats 4000000 in
theorem gk58 : ag_all 58 = true := by decide +kernel
set_option maxRecDepth 100000 in
set_option maxHeartbeats 4000000 in
theorem gk59 : ag_all 59 = true := by decide +kernel
set_option maxRecDepth 100000 in
set_option maxHeartbeats 4000000 in
theorem gk60 : ag_all 60 = true := by decide +kernel
set_option maxRecDepth 100000 in
set_option maxHeartbeats 4000000 in
theorem gk61 : ag_all 61 = true := by decide +kernel
set_option maxRecDepth 100000 in
set_option maxHeartbeats 4000000 in
theorem gk62 : ag_all 62 = true := by decide +kernel
set_option maxRecDepth 100000 in
set_option maxHeartbeats 4000000 in
theorem gk63 : ag_all 63 = true := by decide +kernel
set_option maxRecDepth 100000 in
set_option maxHeartbeats 4000000 in
theorem gk64 : ag_all 64 = true := by decide +kernel
set_option maxRecDepth 100000 in
set_option maxHeartbeats 4000000 in
theorem gk65 : ag_all 65 = true := by decide +kernel
set_option maxRecDepth 100000 in
set_option maxHeartbeats 4000000 in
theorem gk66 : ag_all 66 = true := by decide +kernel
set_option maxRecDepth 100000 in
set_option maxHeartbeats 4000000 in
theorem gk67 : ag_all 67 = true := by decide +kernel
set_option maxRecDepth 100000 in
set_option maxHeartbeats 4000000 in
theorem gk68 : ag_all 68 = true := by decide +kernel
set_option maxRecDepth 100000 in
set_option maxHeartbeats 4000000 in
theorem gk69 : ag_all 69 = true := by decide +kernel
set_option maxRecDepth 100000 in
set_option maxHeartbeats 4000000 in
theorem gk70 : ag_all 70 = true := by decide +kernel
set_option maxRecDepth 100000 in
set_option maxHeartbeats 4000000 in
theorem gk71 : ag_all 71 = true := by decide +kernel
set_option maxRecDepth 100000 in
set_option maxHeartbeats 4000000 in
theorem gk72 : ag_all 72 = true := by decide +kernel
set_option maxRecDepth 100000 in
set_option maxHeartbeats 4000000 in
theorem gk73 : ag_all 73 = true := by decide +kernel
set_option maxRecDepth 100000 in
set_option maxHeartbeats 4000000 in
theorem gk74 : ag_all 74 = true := by decide +kernel
set_option maxRecDepth 100000 in
set_option maxHeartbeats 4000000 in
theorem gk75 : ag_all 75 = true := by decide +kernel
set_option maxRecDepth 100000 in
set_option maxHeartbeats 4000000 in
theorem gk76 : ag_all 76 = true := by decide +kernel
set_option maxRecDepth 100000 in
set_option maxHeartbeats 4000000 in
theorem gk77 : ag_all 77 = true := by decide +kernel
set_option maxRecDepth 100000 in
set_option maxHeartbeats 4000000 in
theorem gk78 : ag_all 78 = true := by decide +kernel
set_option maxRecDepth 100000 in
set_option maxHeartbeats 4000000 in
theorem gk79 : ag_all 79 = true := by decide +kernel
set_option maxRecDepth 100000 in
set_option maxHeartbeats 4000000 in
theorem gk80 : ag_all 80 = true := by decide +kernel
set_option maxRecDepth 100000 in
set_option maxHeartbeats 4000000 in
theorem gk81 : ag_all 81 = true := by decide +kernel
set_option maxRecDepth 100000 in
set_option maxHeartbeats 4000000 in
theorem gk82 : ag_all 82 = true := by decide +kernel
set_option maxRecDepth 100000 in
set_option maxHeartbeats 4000000 in
theorem gk83 : ag_all 83 = true := by decide +kernel
set_option maxRecDepth 100000 in
set_option maxHeartbeats 4000000 in
theorem gk84 : ag_all 84 = true := by decide +kernel
set_option maxRecDepth 100000 in
set_option maxHeartbeats 4000000 in
theorem gk85 : ag_all 85 = true := by decide +kernel
set_option maxRecDepth 100000 in
set_option maxHeartbeats 4000000 in
theorem gk86 : ag_all 86 = true := by decide +kernel
set_option maxRecDepth 100000 in
set_option maxHeartbeats 4000000 in
theorem gk87 : ag_all 87 = true := by decide +kernel
set_option maxRecDepth 100000 in
set_option maxHeartbeats 4000000 in
theorem gk88 : ag_all 88 = true := by decide +kernel
set_option maxRecDepth 100000 in
set_option maxHeartbeats 4000000 in
theorem gk89 : ag_all 89 = true := by decide +kernel
set_option maxRecDepth 100000 in
set_option maxHeartbeats 4000000 in
theorem gk90 : ag_all 90 = true := by decide +kernel
set_option maxRecDepth 100000 in
set_option maxHeartbeats 4000000 in
theorem gk91 : ag_all 91 = true := by decide +kernel
set_option maxRecDepth 100000 in
set_option maxHeartbeats 4000000 in
theorem gk92 : ag_all 92 = true := by decide +kernel
set_option maxRecDepth 100000 in
set_option maxHeartbeats 4000000 in
theorem gk93 : ag_all 93 = true := by decide +kernel
set_option maxRecDepth 100000 in
set_option maxHeartbeats 4000000 in
theorem gk94 : ag_all 94 = true := by decide +kernel
set_option maxRecDepth 100000 in
set_option maxHeartbeats 4000000 in
theorem gk95 : ag_all 95 = true := by decide +kernel
set_option maxRecDepth 100000 in
set_option maxHeartbeats 4000000 in
theorem gk96 : ag_all 96 = true := by decide +kernel
set_option maxRecDepth 100000 in
set_option maxHeartbeats 4000000 in
theorem gk97 : ag_all 97 = true := by decide +kernel
set_option maxRecDepth 100000 in
set_option maxHeartbeats 4000000 in
theorem gk98 : ag_all 98 = true := by decide +kernel
set_option maxRecDepth 100000 in
set_option maxHeartbeats 4000000 in
theorem gk99 : ag_all 99 = true := by decide +kernel
set_option maxRecDepth 100000 in
set_option maxHeartbeats 4000000 in
theorem gk100 : ag_all 100 = true := by decide +kernel
set_option maxRecDepth 100000 in
set_option maxHeartbeats 4000000 in
theorem gk101 : ag_all 101 = true := by decide +kernel
set_option maxRecDepth 100000 in
set_option maxHeartbeats 4000000 in
theorem gk102 : ag_all 102 = true := by decide +kernel
set_option maxRecDepth 100000 in
set_option maxHeartbeats 4000000 in
theorem gk103 : ag_all 103 = true := by decide +kernel
set_option maxRecDepth 100000 in
set_option maxHeartbeats 4000000 in
theorem gk104 : ag_all 104 = true := by decide +kernel
set_option maxRecDepth 100000 in
set_option maxHeartbeats 4000000 in
theorem gk105 : ag_all 105 = true := by decide +kernel
set_option maxRecDepth 100000 in
set_option maxHeartbeats 4000000 in
theorem gk106 : ag_all 106 = true := by decide +kernel
set_option maxRecDepth 100000 in
set_option maxHeartbeats 4000000 in
theorem gk107 : ag_all 107 = true := by decide +kernel
set_option maxRecDepth 100000 in
set_option maxHeartbeats 4000000 in
theorem gk108 : ag_all 108 = true := by decide +kernel
set_option maxRecDepth 100000 in
set_option maxHeartbeats 4000000 in
theorem gk109 : ag_all 109 = true := by decide +kernel
set_option maxRecDepth 100000 in
set_option maxHeartbeats 4000000 in
theorem gk110 : ag_all 110 = true := by decide +kernel
set_option maxRecDepth 100000 in
set_option maxHeartbeats 4000000 in
theorem gk111 : ag_all 111 = true := by decide +kernel
set_option maxRecDepth 100000 in
set_option maxHeartbeats 4000000 in
theorem gk112 : ag_all 112 = true := by decide +kernel
set_option maxRecDepth 100000 in
set_option maxHeartbeats 4000000 in
theorem gk113 : ag_all 113 = true := by decide +kernel
set_option maxRecDepth 100000 in
set_option maxHeartbeats 4000000 in
theorem gk114 : ag_all 114 = true := by decide +kernel
set_option maxRecDepth 100000 in
set_option maxHeartbeats 4000000 in
theorem gk115 : ag_all 115 = true := by decide +kernel
set_option maxRecDepth 100000 in
set_option maxHeartbeats 4000000 in
theorem gk116 : ag_all 116 = true := by decide +kernel
set_option maxRecDepth 100000 in
set_option maxHeartbeats 4000000 in
theorem gk117 : ag_all 117 = true := by decide +kernel
set_option maxRecDepth 100000 in
set_option maxHeartbeats 4000000 in
theorem gk118 : ag_all 118 = true := by decide +kernel
set_option maxRecDepth 100000 in
set_option maxHeartbeats 4000000 in
theorem gk119 : ag_all 119 = true := by decide +kernel
set_option maxRecDepth 100000 in
set_option maxHeartbeats 4000000 in
theorem gk120 : ag_all 120 = true := by decide +kernel
set_option maxRecDepth 100000 in
set_option maxHeartbeats 4000000 in
theorem gk121 : ag_all 121 = true := by decide +kernel
set_option maxRecDepth 100000 in
set_option maxHeartbeats 4000000 in
theorem gk122 : ag_all 122 = true := by decide +kernel
set_option maxRecDepth 100000 in
set_option maxHeartbeats 4000000 in
theorem gk123 : ag_all 123 = true := by decide +kernel
set_option maxRecDepth 100000 in
set_option maxHeartbeats 4000000 in
theorem gk124 : ag_all 124 = true := by decide +kernel
set_option maxRecDepth 100000 in
set_option maxHeartbeats 4000000 in
theorem gk125 : ag_all 125 = true := by decide +kernel
set_option maxRecDepth 100000 in
set_option maxHeartbeats 4000000 in
theorem gk126 : ag_all 126 = true := by decide +kernel
set_option maxRecDepth 100000 in
set_option maxHeartbeats 4000000 in
theorem gk127 : ag_all 127 = true := by decide +kernel
set_option maxRecDepth 100000 in
set_option maxHeartbeats 4000000 in
theorem gk128 : ag_all 128 = true := by decide +kernel
set_option maxRecDepth 100000 in
set_option maxHeartbeats 4000000 in
theorem gk129 : ag_all 129 = true := by decide +kernel
set_option maxRecDepth 100000 in
set_option maxHeartbeats 4000000 in
theorem gk130 : ag_all 130 = true := by decide +kernel
set_option maxRecDepth 100000 in
set_option maxHeartbeats 4000000 in
theorem gk131 : ag_all 131 = true := by decide +kernel
set_option maxRecDepth 100000 in
set_option maxHeartbeats 4000000 in
theorem gk132 : ag_all 132 = true := by decide +kernel
set_option maxRecDepth 100000 in
set_option maxHeartbeats 4000000 in
theorem gk133 : ag_all 133 = true := by decide +kernel
set_option maxRecDepth 100000 in
set_option maxHeartbeats 4000000 in
theorem gk134 : ag_all 134 = true := by decide +kernel
set_option maxRecDepth 100000 in
set_option maxHeartbeats 4000000 in
theorem gk135 : ag_all 135 = true := by decide +kernel
set_option maxRecDepth 100000 in
set_option maxHeartbeats 4000000 in
theorem gk136 : ag_all 136 = true := by decide +kernel
set_option maxRecDepth 100000 in
set_option maxHeartbeats 4000000 in
theorem gk137 : ag_all 137 = true := by decide +kernel
set_option maxRecDepth 100000 in
set_option maxHeartbeats 4000000 in
theorem gk138 : ag_all 138 = true := by decide +kernel
set_option maxRecDepth 100000 in
set_option maxHeartbeats 4000000 in
theorem gk139 : ag_all 139 = true := by decide +kernel
set_option maxRecDepth 100000 in
set_option maxHeartbeats 4000000 in
theorem gk140 : ag_all 140 = true := by decide +kernel
set_option maxRecDepth 100000 in
set_option maxHeartbeats 4000000 in
theorem gk141 : ag_all 141 = true := by decide +kernel
set_option maxRecDepth 100000 in
set_option maxHeartbeats 4000000 in
theorem gk142 : ag_all 142 = true := by decide +kernel
set_option maxRecDepth 100000 in
set_option maxHeartbeats 4000000 in
theorem gk143 : ag_all 143 = true := by decide +kernel
set_option maxRecDepth 100000 in
set_option maxHeartbeats 4000000 in
theorem gk144 : ag_all 144 = true := by decide +kernel
set_option maxRecDepth 100000 in
set_option maxHeartbeats 4000000 in
theorem gk145 : ag_all 145 = true := by decide +kernel
set_option maxRecDepth 100000 in
set_option maxHeartbeats 4000000 in
theorem gk146 : ag_all 146 = true := by decide +kernel
set_option maxRecDepth 100000 in
set_option maxHeartbeats 4000000 in
theorem gk147 : ag_all 147 = true := by decide +kernel
set_option maxRecDepth 100000 in
set_option maxHeartbeats 4000000 in
theorem gk148 : ag_all 148 = true := by decide +kernel
set_option maxRecDepth 100000 in
set_option maxHeartbeats 4000000 in
theorem gk149 : ag_all 149 = true := by decide +kernel
set_option maxRecDepth 100000 in
set_option maxHeartbeats 4000000 in
theorem gk150 : ag_all 150 = true := by decide +kernel
set_option maxRecDepth 100000 in
set_option maxHeartbeats 4000000 in
theorem gk151 : ag_all 151 = true := by decide +kernel
set_option maxRecDepth 100000 in
set_option maxHeartbeats 4000000 in
theorem gk152 : ag_all 152 = true := by decide +kernel
set_option maxRecDepth 100000 in
set_option maxHeartbeats 4000000 in
theorem gk153 : ag_all 153 = true := by decide +kernel
set_option maxRecDepth 100000 in
set_option maxHeartbeats 4000000 in
theorem gk154 : ag_all 154 = true := by decide +kernel
set_option maxRecDepth 100000 in
set_option maxHeartbeats 4000000 in
theorem gk155 : ag_all 155 = true := by decide +kernel
set_option maxRecDepth 100000 in
set_option maxHeartbeats 4000000 in
theorem gk156 : ag_all 156 = true := by decide +kernel
set_option maxRecDepth 100000 in
set_option maxHeartbeats 4000000 in
theorem gk157 : ag_all 157 = true := by decide +kernel
set_option maxRecDepth 100000 in
set_option maxHeartbeats 4000000 in
theorem gk158 : ag_all 158 = true := by decide +kernel
set_option maxRecDepth 100000 in
set_option maxHeartbeats 4000000 in
theorem gk159 : ag_all 159 = true := by decide +kernel
set_option maxRecDepth 100000 in
set_option maxHeartbeats 4000000 in
theorem gk160 : ag_all 160 = true := by decide +kernel
set_option maxRecDepth 100000 in
set_option maxHeartbeats 4000000 in
theorem gk161 : ag_all 161 = true := by decide +kernel
set_option maxRecDepth 100000 in
set_option maxHeartbeats 4000000 in
theorem gk162 : ag_all 162 = true := by decide +kernel
set_option maxRecDepth 100000 in
set_option maxHeartbeats 4000000 in
theorem gk163 : ag_all 163 = true := by decide +kernel
set_option maxRecDepth 100000 in
set_option maxHeartbeats 4000000 in
theorem gk164 : ag_all 164 = true := by decide +kernel
set_option maxRecDepth 100000 in
set_option maxHeartbeats 4000000 in
theorem gk165 : ag_all 165 = true := by decide +kernel
set_option maxRecDepth 100000 in
set_option maxHeartbeats 4000000 in
theorem gk166 : ag_all 166 = true := by decide +kernel
set_option maxRecDepth 100000 in
set_option maxHeartbeats 4000000 in
theorem gk167 : ag_all 167 = true := by decide +kernel
set_option maxRecDepth 100000 in
set_option maxHeartbeats 4000000 in
theorem gk168 : ag_all 168 = true := by decide +kernel
set_option maxRecDepth 100000 in
set_option maxHeartbeats 4000000 in
theorem gk169 : ag_all 169 = true := by decide +kernel
set_option maxRecDepth 100000 in
set_option maxHeartbeats 4000000 in
theorem gk170 : ag_all 170 = true := by decide +kernel
set_option maxRecDepth 100000 in
set_option maxHeartbeats 4000000 in
theorem gk171 : ag_all 171 = true := by decide +kernel
set_option maxRecDepth 100000 in
set_option maxHeartbeats 4000000 in
theorem gk172 : ag_all 172 = true := by decide +kernel
set_option maxRecDepth 100000 in
set_option maxHeartbeats 4000000 in
theorem gk173 : ag_all 173 = true := by decide +kernel
set_option maxRecDepth 100000 in
set_option maxHeartbeats 4000000 in
theorem gk174 : ag_all 174 = true := by decide +kernel
theorem gkq0 : ∀ y ∈ ([0, 1, 2, 3, 4, 5, 6, 7, 8, 9, 10, 11, 12, 13, 14, 15, 16, 17, 18, 19, 20, 21, 22, 23, 24] : List Nat), ag_all y = true := List.forall_mem_cons.mpr ⟨gk0, List.forall_mem_cons.mpr ⟨gk1, List.forall_mem_cons.mpr ⟨gk2, List.forall_mem_cons.mpr ⟨gk3, List.forall_mem_cons.mpr ⟨gk4, List.forall_mem_cons.mpr ⟨gk5, List.forall_mem_cons.mpr ⟨gk6, List.forall_mem_cons.mpr ⟨gk7, List.forall_mem_cons.mpr ⟨gk8, List.forall_mem_cons.mpr ⟨gk9, List.forall_mem_cons.mpr ⟨gk10, List.forall_mem_cons.mpr ⟨gk11, List.forall_mem_cons.mpr ⟨gk12, List.forall_mem_cons.mpr ⟨gk13, List.forall_mem_cons.mpr ⟨gk14, List.forall_mem_cons.mpr ⟨gk15, List.forall_mem_cons.mpr ⟨gk16, List.forall_mem_cons.mpr ⟨gk17, List.forall_mem_cons.mpr ⟨gk18, List.forall_mem_cons.mpr ⟨gk19, List.forall_mem_cons.mpr ⟨gk20, List.forall_mem_cons.mpr ⟨gk21, List.forall_mem_cons.mpr ⟨gk22, List.forall_mem_cons.mpr ⟨gk23, List.forall_mem_cons.mpr ⟨gk24, fun _ h => nomatch h⟩⟩⟩⟩⟩⟩⟩⟩⟩⟩⟩⟩⟩⟩⟩⟩⟩⟩⟩⟩⟩⟩⟩⟩⟩
theorem gkq1 : ∀ y ∈ ([25, 26, 27, 28, 29, 30, 31, 32, 33, 34, 35, 36, 37, 38, 39, 40, 41, 42, 43, 44, 45, 46, 47, 48, 49] : List Nat), ag_all y = true := List.forall_mem_cons.mpr ⟨gk25, List.forall_mem_cons.mpr ⟨gk26, List.forall_mem_cons.mpr ⟨gk27, List.forall_mem_cons.mpr ⟨gk28, List.forall_mem_cons.mpr ⟨gk29, List.forall_mem_cons.mpr ⟨gk30, List.forall_mem_cons.mpr ⟨gk31, List.forall_mem_cons.mpr ⟨gk32, List.forall_mem_cons.mpr ⟨gk33, List.forall_mem_cons.mpr ⟨gk34, List.forall_mem_cons.mpr ⟨gk35, List.forall_mem_cons.mpr ⟨gk36, List.forall_mem_cons.mpr ⟨gk37, List.forall_mem_cons.mpr ⟨gk38, List.forall_mem_cons.mpr ⟨gk39, List.forall_mem_cons.mpr ⟨gk40, List.forall_mem_cons.mpr ⟨gk41, List.forall_mem_cons.mpr ⟨gk42, List.forall_mem_cons.mpr ⟨gk43, List.forall_mem_cons.mpr ⟨gk44, List.forall_mem_cons.mpr ⟨gk45, List.forall_mem_cons.mpr ⟨gk46, List.forall_mem_cons.mpr ⟨gk47, List.forall_mem_cons.mpr ⟨gk48, List.forall_mem_cons.mpr ⟨gk49, fun _ h => nomatch h⟩⟩⟩⟩⟩⟩⟩⟩⟩⟩⟩⟩⟩⟩⟩⟩⟩⟩⟩⟩⟩⟩⟩⟩⟩
theorem gkq2 : ∀ y ∈ ([50, 51, 52, 53, 54, 55, 56, 57, 58, 59, 60, 61, 62, 63, 64, 65, 66, 67, 68, 69, 70, 71, 72, 73, 74] : List Nat), ag_all y = true := List.forall_mem_cons.mpr ⟨gk50, List.forall_mem_cons.mpr ⟨gk51, List.forall_mem_cons.mpr ⟨gk52, List.forall_mem_cons.mpr ⟨gk53, List.forall_mem_cons.mpr ⟨gk54, List.forall_mem_cons.mpr ⟨gk55, List.forall_mem_cons.mpr ⟨gk56, List.forall_mem_cons.mpr ⟨gk57, List.forall_mem_cons.mpr ⟨gk58, List.forall_mem_cons.mpr ⟨gk59, List.forall_mem_cons.mpr ⟨gk60, List.forall_mem_cons.mpr ⟨gk61, List.forall_mem_cons.mpr ⟨gk62, List.forall_mem_cons.mpr ⟨gk63, List.forall_mem_cons.mpr ⟨gk64, List.forall_mem_cons.mpr ⟨gk65, List.forall_mem_cons.mpr ⟨gk66, List.forall_mem_cons.mpr ⟨gk67, List.forall_mem_cons.mpr ⟨gk68, List.forall_mem_cons.mpr ⟨gk69, List.forall_mem_cons.mpr ⟨gk70, List.forall_mem_cons.mpr ⟨gk71, List.forall_mem_cons.mpr ⟨gk72, List.forall_mem_cons.mpr ⟨gk73, List.forall_mem_cons.mpr ⟨gk74, fun _ h => nomatch h⟩⟩⟩⟩⟩⟩⟩⟩⟩⟩⟩⟩⟩⟩⟩⟩⟩⟩⟩⟩⟩⟩⟩⟩⟩
theorem gkq3 : ∀ y ∈ ([75, 76, 77, 78, 79, 80, 81, 82, 83, 84, 85, 86, 87, 88, 89, 90, 91, 92, 93, 94, 95, 96, 97, 98, 99] : List Nat), ag_all y = true := List.forall_mem_cons.mpr ⟨gk75, List.forall_mem_cons.mpr ⟨gk76, List.forall_mem_cons.mpr ⟨gk77, List.forall_mem_cons.mpr ⟨gk78, List.forall_mem_cons.mpr ⟨gk79, List.forall_mem_cons.mpr ⟨gk80, List.forall_mem_cons.mpr ⟨gk81, List.forall_mem_cons.mpr ⟨gk82, List.forall_mem_cons.mpr ⟨gk83, List.forall_mem_cons.mpr ⟨gk84, List.forall_mem_cons.mpr ⟨gk85, List.forall_mem_cons.mpr ⟨gk86, List.forall_mem_cons.mpr ⟨gk87, List.forall_mem_cons.mpr ⟨gk88, List.forall_mem_cons.mpr ⟨gk89, List.forall_mem_cons.mpr ⟨gk90, List.forall_mem_cons.mpr ⟨gk91, List.forall_mem_cons.mpr ⟨gk92, List.forall_mem_cons.mpr ⟨gk93, List.forall_mem_cons.mpr ⟨gk94, List.forall_mem_cons.mpr ⟨gk95, List.forall_mem_cons.mpr ⟨gk96, List.forall_mem_cons.mpr ⟨gk97, List.forall_mem_cons.mpr ⟨gk98, List.forall_mem_cons.mpr ⟨gk99, fun _ h => nomatch h⟩⟩⟩⟩⟩⟩⟩⟩⟩⟩⟩⟩⟩⟩⟩⟩⟩⟩⟩⟩⟩⟩⟩⟩⟩
theorem gkq4 : ∀ y ∈ ([100, 101, 102, 103, 104, 105, 106, 107, 108, 109, 110, 111, 112, 113, 114, 115, 116, 117, 118, 119, 120, 121, 122, 123, 124] : List Nat), ag_all y = true := List.forall_mem_cons.mpr ⟨gk100, List.forall_mem_cons.mpr ⟨gk101, List.forall_mem_cons.mpr ⟨gk102, List.forall_mem_cons.mpr ⟨gk103, List.forall_mem_cons.mpr ⟨gk104, List.forall_mem_cons.mpr ⟨gk105, List.forall_mem_cons.mpr ⟨gk106, List.forall_mem_cons.mpr ⟨gk107, List.forall_mem_cons.mpr ⟨gk108, List.forall_mem_cons.mpr ⟨gk109, List.forall_mem_cons.mpr ⟨gk110, List.forall_mem_cons.mpr ⟨gk111, List.forall_mem_cons.mpr ⟨gk112, List.forall_mem_cons.mpr ⟨gk113, List.forall_mem_cons.mpr ⟨gk114, List.forall_mem_cons.mpr ⟨gk115, List.forall_mem_cons.mpr ⟨gk116, List.forall_mem_cons.mpr ⟨gk117, List.forall_mem_cons.mpr ⟨gk118, List.forall_mem_cons.mpr ⟨gk119, List.forall_mem_cons.mpr ⟨gk120, List.forall_mem_cons.mpr ⟨gk121, List.forall_mem_cons.mpr ⟨gk122, List.forall_mem_cons.mpr ⟨gk123, List.forall_mem_cons.mpr ⟨gk124, fun _ h => nomatch h⟩⟩⟩⟩⟩⟩⟩⟩⟩⟩⟩⟩⟩⟩⟩⟩⟩⟩⟩⟩⟩⟩⟩⟩⟩
theorem gkq5 : ∀ y ∈ ([125, 126, 127, 128, 129, 130, 131, 132, 133, 134, 135, 136, 137, 138, 139, 140, 141, 142, 143, 144, 145, 146, 147, 148, 149] : List Nat), ag_all y = true := List.forall_mem_cons.mpr ⟨gk125, List.forall_mem_cons.mpr ⟨gk126, List.forall_mem_cons.mpr ⟨gk127, List.forall_mem_cons.mpr ⟨gk128, List.forall_mem_cons.mpr ⟨gk129, List.forall_mem_cons.mpr ⟨gk130, List.forall_mem_cons.mpr ⟨gk131, List.forall_mem_cons.mpr ⟨gk132, List.forall_mem_cons.mpr ⟨gk133, List.forall_mem_cons.mpr ⟨gk134, List.forall_mem_cons.mpr ⟨gk135, List.forall_mem_cons.mpr ⟨gk136, List.forall_mem_cons.mpr ⟨gk137, List.forall_mem_cons.mpr ⟨gk138, List.forall_mem_cons.mpr ⟨gk139, List.forall_mem_cons.mpr ⟨gk140, List.forall_mem_cons.mpr ⟨gk141, List.forall_mem_cons.mpr ⟨gk142, List.forall_mem_cons.mpr ⟨gk143, List.forall_mem_cons.mpr ⟨gk144, List.forall_mem_cons.mpr ⟨gk145, List.forall_mem_cons.mpr ⟨gk146, List.forall_mem_cons.mpr ⟨gk147, List.forall_mem_cons.mpr ⟨gk148, List.forall_mem_cons.mpr ⟨gk149, fun _ h => nomatch h⟩⟩⟩⟩⟩⟩⟩⟩⟩⟩⟩⟩⟩⟩⟩⟩⟩⟩⟩⟩⟩⟩⟩⟩⟩
theorem gkq6 : ∀ y ∈ ([150, 151, 152, 153, 154, 155, 156, 157, 158, 159, 160, 161, 162, 163, 164, 165, 166, 167, 168, 169, 170, 171, 172, 173, 174] : List Nat), ag_all y = true := List.forall_mem_cons.mpr ⟨gk150, List.forall_mem_cons.mpr ⟨gk151, List.forall_mem_cons.mpr ⟨gk152, List.forall_mem_cons.mpr ⟨gk153, List.forall_mem_cons.mpr ⟨gk154, List.forall_mem_cons.mpr ⟨gk155, List.forall_mem_cons.mpr ⟨gk156, List.forall_mem_cons.mpr ⟨gk157, List.forall_mem_cons.mpr ⟨gk158, List.forall_mem_cons.mpr ⟨gk159, List.forall_mem_cons.mpr ⟨gk160, List.forall_mem_cons.mpr ⟨gk161, List.forall_mem_cons.mpr ⟨gk162, List.forall_mem_cons.mpr ⟨gk163, List.forall_mem_cons.mpr ⟨gk164, List.forall_mem_cons.mpr ⟨gk165, List.forall_mem_cons.mpr ⟨gk166, List.forall_mem_cons.mpr ⟨gk167, List.forall_mem_cons.mpr ⟨gk168, List.forall_mem_cons.mpr ⟨gk169, List.forall_mem_cons.mpr ⟨gk170, List.forall_mem_cons.mpr ⟨gk171, List.forall_mem_cons.mpr ⟨gk172, List.forall_mem_cons.mpr ⟨gk173, List.forall_mem_cons.mpr ⟨gk174, fun _ h => nomatch h⟩⟩⟩⟩⟩⟩⟩⟩⟩⟩⟩⟩⟩⟩⟩⟩⟩⟩⟩⟩⟩⟩⟩⟩⟩
set_option maxRecDepth 100000 in
theorem gk_all (y : Nat) (h : y < 175) : ag_all y = true := by
  have h1 : y ∈ ([0, 1, 2, 3, 4, 5, 6, 7, 8, 9, 10, 11, 12, 13, 14, 15, 16, 17, 18, 19, 20, 21, 22, 23, 24] : List Nat) ++ (([25, 26, 27, 28, 29, 30, 31, 32, 33, 34, 35, 36, 37, 38, 39, 40, 41, 42, 43, 44, 45, 46, 47, 48, 49] : List Nat) ++ (([50, 51, 52, 53, 54, 55, 56, 57, 58, 59, 60, 61, 62, 63, 64, 65, 66, 67, 68, 69, 70, 71, 72, 73, 74] : List Nat) ++ (([75, 76, 77, 78, 79, 80, 81, 82, 83, 84, 85, 86, 87, 88, 89, 90, 91, 92, 93, 94, 95, 96, 97, 98, 99] : List Nat) ++ (([100, 101, 102, 103, 104, 105, 106, 107, 108, 109, 110, 111, 112, 113, 114, 115, 116, 117, 118, 119, 120, 121, 122, 123, 124] : List Nat) ++ (([125, 126, 127, 128, 129, 130, 131, 132, 133, 134, 135, 136, 137, 138, 139, 140, 141, 142, 143, 144, 145, 146, 147, 148, 149] : List Nat) ++ (([150, 151, 152, 153, 154, 155, 156, 157, 158, 159, 160, 161, 162, 163, 164, 165, 166, 167, 168, 169, 170, 171, 172, 173, 174] : List Nat))))))) := by
    have h2 : y ∈ List.range 175 := List.mem_range.mpr h
    exact h2
  rcases List.mem_append.mp h1 with h1 | h1
  · exact gkq0 y h1
  rcases List.mem_append.mp h1 with h1 | h1
  · exact gkq1 y h1
  rcases List.mem_append.mp h1 with h1 | h1
  · exact gkq2 y h1
  rcases List.mem_append.mp h1 with h1 | h1
  · exact gkq3 y h1
  rcases List.mem_append.mp h1 with h1 | h1
  · exact gkq4 y h1
  rcases List.mem_append.mp h1 with h1 | h1
  · exact gkq5 y h1
  exact gkq6 y h1
set_option maxRecDepth 100000 in
theorem gPn : ∀ y, y < 175 → plainName (gN y).cls = true := by decide +kernel
