theorem rk500 : fx_rk 500 = (62, 1) := rfl
theorem rk501 : fx_rk 501 = (62, 2) := rfl
theorem rk0 : fx_rk 0 = (0, 2) := rfl
theorem rk1 : fx_rk 1 = (0, 2) := rfl
theorem rk2 : fx_rk 2 = (0, 2) := rfl
theorem rk3 : fx_rk 3 = (22, 1) := rfl
theorem rk4 : fx_rk 4 = (22, 1) := rfl
theorem rk5 : fx_rk 5 = (22, 2) := rfl
theorem rk6 : fx_rk 6 = (22, 3) := rfl
theorem rk7 : fx_rk 7 = (22, 4) := rfl
theorem rk8 : fx_rk 8 = (0, 3) := rfl
theorem rk9 : fx_rk 9 = (28, 2) := rfl
theorem rk10 : fx_rk 10 = (28, 1) := rfl
theorem rk11 : fx_rk 11 = (28, 2) := rfl
theorem rk12 : fx_rk 12 = (28, 2) := rfl
theorem rk13 : fx_rk 13 = (28, 3) := rfl
theorem rk14 : fx_rk 14 = (28, 4) := rfl
theorem rk15 : fx_rk 15 = (0, 1) := rfl
theorem rk16 : fx_rk 16 = (28, 3) := rfl
theorem rk17 : fx_rk 17 = (28, 3) := rfl
theorem rk18 : fx_rk 18 = (28, 3) := rfl
theorem rk19 : fx_rk 19 = (28, 4) := rfl
theorem rk20 : fx_rk 20 = (26, 7) := rfl
theorem rk21 : fx_rk 21 = (26, 2) := rfl
theorem rk22 : fx_rk 22 = (26, 2) := rfl
theorem rk23 : fx_rk 23 = (11, 2) := rfl
theorem rk24 : fx_rk 24 = (11, 2) := rfl
theorem rk25 : fx_rk 25 = (11, 2) := rfl
theorem rk26 : fx_rk 26 = (11, 2) := rfl
theorem rk27 : fx_rk 27 = (11, 4) := rfl
theorem rk28 : fx_rk 28 = (11, 3) := rfl
theorem rk29 : fx_rk 29 = (11, 3) := rfl
theorem rk30 : fx_rk 30 = (11, 4) := rfl
theorem rk31 : fx_rk 31 = (11, 2) := rfl
theorem rk32 : fx_rk 32 = (11, 2) := rfl
theorem rk33 : fx_rk 33 = (11, 6) := rfl
theorem rk34 : fx_rk 34 = (11, 3) := rfl
theorem rk35 : fx_rk 35 = (11, 2) := rfl
theorem rk36 : fx_rk 36 = (11, 4) := rfl
theorem rk37 : fx_rk 37 = (11, 3) := rfl
theorem rk38 : fx_rk 38 = (11, 3) := rfl
theorem rk39 : fx_rk 39 = (11, 4) := rfl
theorem rk40 : fx_rk 40 = (11, 3) := rfl
theorem rk41 : fx_rk 41 = (11, 4) := rfl
theorem rk42 : fx_rk 42 = (11, 3) := rfl
theorem rk43 : fx_rk 43 = (11, 2) := rfl
theorem rk44 : fx_rk 44 = (11, 2) := rfl
theorem rk45 : fx_rk 45 = (11, 2) := rfl
theorem rk46 : fx_rk 46 = (11, 1) := rfl
theorem rk47 : fx_rk 47 = (11, 1) := rfl
theorem rk48 : fx_rk 48 = (11, 1) := rfl
theorem rk49 : fx_rk 49 = (33, 2) := rfl
theorem rk50 : fx_rk 50 = (33, 1) := rfl
theorem rk51 : fx_rk 51 = (33, 2) := rfl
theorem rk52 : fx_rk 52 = (33, 1) := rfl
theorem rk53 : fx_rk 53 = (33, 2) := rfl
theorem rk54 : fx_rk 54 = (33, 3) := rfl
theorem rk55 : fx_rk 55 = (33, 1) := rfl
theorem rk56 : fx_rk 56 = (33, 3) := rfl
theorem rk57 : fx_rk 57 = (33, 2) := rfl
theorem rk58 : fx_rk 58 = (0, 1) := rfl
theorem rk59 : fx_rk 59 = (0, 1) := rfl
theorem rk60 : fx_rk 60 = (33, 3) := rfl
theorem rk61 : fx_rk 61 = (33, 3) := rfl
theorem rk62 : fx_rk 62 = (36, 3) := rfl
theorem rk63 : fx_rk 63 = (36, 1) := rfl
theorem rk64 : fx_rk 64 = (36, 2) := rfl
theorem rk65 : fx_rk 65 = (36, 3) := rfl
theorem rk66 : fx_rk 66 = (36, 3) := rfl
theorem rk67 : fx_rk 67 = (36, 3) := rfl
theorem rk68 : fx_rk 68 = (36, 3) := rfl
theorem rk69 : fx_rk 69 = (36, 3) := rfl
theorem rk70 : fx_rk 70 = (36, 2) := rfl
theorem rk71 : fx_rk 71 = (36, 3) := rfl
theorem rk72 : fx_rk 72 = (36, 3) := rfl
theorem rk73 : fx_rk 73 = (36, 3) := rfl
theorem rk74 : fx_rk 74 = (36, 4) := rfl
theorem rk75 : fx_rk 75 = (36, 3) := rfl
theorem rk76 : fx_rk 76 = (36, 1) := rfl
theorem rk77 : fx_rk 77 = (36, 4) := rfl
theorem rk78 : fx_rk 78 = (36, 3) := rfl
theorem rk79 : fx_rk 79 = (36, 4) := rfl
theorem rk80 : fx_rk 80 = (36, 3) := rfl
theorem rk81 : fx_rk 81 = (36, 3) := rfl
theorem rk82 : fx_rk 82 = (36, 4) := rfl
theorem rk83 : fx_rk 83 = (36, 5) := rfl
theorem rk84 : fx_rk 84 = (36, 3) := rfl
theorem rk85 : fx_rk 85 = (36, 3) := rfl
theorem rk86 : fx_rk 86 = (36, 2) := rfl
theorem rk87 : fx_rk 87 = (36, 2) := rfl
theorem rk88 : fx_rk 88 = (36, 2) := rfl
theorem rk89 : fx_rk 89 = (36, 2) := rfl
theorem rk90 : fx_rk 90 = (36, 2) := rfl
theorem rk91 : fx_rk 91 = (36, 1) := rfl
theorem rk92 : fx_rk 92 = (36, 2) := rfl
theorem rk93 : fx_rk 93 = (36, 2) := rfl
theorem rk94 : fx_rk 94 = (36, 3) := rfl
theorem rk95 : fx_rk 95 = (36, 2) := rfl
theorem rk96 : fx_rk 96 = (10, 6) := rfl
theorem rk97 : fx_rk 97 = (10, 2) := rfl
theorem rk98 : fx_rk 98 = (10, 1) := rfl
theorem rk99 : fx_rk 99 = (10, 1) := rfl
theorem rk100 : fx_rk 100 = (10, 1) := rfl
theorem rk101 : fx_rk 101 = (10, 2) := rfl
theorem rk102 : fx_rk 102 = (10, 6) := rfl
theorem rk103 : fx_rk 103 = (10, 2) := rfl
theorem rk104 : fx_rk 104 = (10, 3) := rfl
theorem rk105 : fx_rk 105 = (10, 3) := rfl
theorem rk106 : fx_rk 106 = (10, 3) := rfl
theorem rk107 : fx_rk 107 = (10, 2) := rfl
theorem rk108 : fx_rk 108 = (10, 1) := rfl
theorem rk109 : fx_rk 109 = (10, 3) := rfl
theorem rk110 : fx_rk 110 = (10, 4) := rfl
theorem rk111 : fx_rk 111 = (10, 4) := rfl
theorem rk112 : fx_rk 112 = (10, 4) := rfl
theorem rk113 : fx_rk 113 = (10, 4) := rfl
theorem rk114 : fx_rk 114 = (10, 4) := rfl
theorem rk115 : fx_rk 115 = (10, 4) := rfl
theorem rk116 : fx_rk 116 = (10, 3) := rfl
theorem rk117 : fx_rk 117 = (10, 4) := rfl
theorem rk118 : fx_rk 118 = (10, 3) := rfl
theorem rk119 : fx_rk 119 = (10, 4) := rfl
theorem rk120 : fx_rk 120 = (10, 3) := rfl
theorem rk121 : fx_rk 121 = (10, 3) := rfl
theorem rk122 : fx_rk 122 = (10, 4) := rfl
theorem rk123 : fx_rk 123 = (10, 3) := rfl
theorem rk124 : fx_rk 124 = (10, 3) := rfl
theorem rk125 : fx_rk 125 = (10, 3) := rfl
theorem rk126 : fx_rk 126 = (10, 3) := rfl
theorem rk127 : fx_rk 127 = (10, 3) := rfl
theorem rk128 : fx_rk 128 = (10, 3) := rfl
theorem rk129 : fx_rk 129 = (10, 3) := rfl
theorem rk130 : fx_rk 130 = (10, 2) := rfl
theorem rk131 : fx_rk 131 = (10, 3) := rfl
theorem rk132 : fx_rk 132 = (10, 3) := rfl
theorem rk133 : fx_rk 133 = (10, 2) := rfl
theorem rk134 : fx_rk 134 = (10, 1) := rfl
theorem rk135 : fx_rk 135 = (10, 1) := rfl
theorem rk136 : fx_rk 136 = (10, 2) := rfl
theorem rk137 : fx_rk 137 = (0, 1) := rfl
theorem rk138 : fx_rk 138 = (0, 2) := rfl
theorem rk139 : fx_rk 139 = (10, 2) := rfl
theorem rk140 : fx_rk 140 = (10, 2) := rfl
theorem rk141 : fx_rk 141 = (0, 3) := rfl
theorem rk142 : fx_rk 142 = (0, 2) := rfl
theorem rk143 : fx_rk 143 = (10, 7) := rfl
theorem rk144 : fx_rk 144 = (10, 1) := rfl
theorem rk145 : fx_rk 145 = (10, 5) := rfl
theorem rk146 : fx_rk 146 = (10, 2) := rfl
theorem rk147 : fx_rk 147 = (0, 4) := rfl
theorem rk148 : fx_rk 148 = (46, 1) := rfl
theorem rk149 : fx_rk 149 = (0, 3) := rfl
theorem rk150 : fx_rk 150 = (46, 1) := rfl
theorem rk151 : fx_rk 151 = (46, 3) := rfl
theorem rk152 : fx_rk 152 = (46, 2) := rfl
theorem rk153 : fx_rk 153 = (46, 2) := rfl
theorem rk154 : fx_rk 154 = (0, 1) := rfl
theorem rk155 : fx_rk 155 = (0, 1) := rfl
theorem rk156 : fx_rk 156 = (46, 3) := rfl
theorem rk157 : fx_rk 157 = (46, 2) := rfl
theorem rk158 : fx_rk 158 = (46, 3) := rfl
theorem rk159 : fx_rk 159 = (46, 4) := rfl
theorem rk160 : fx_rk 160 = (46, 3) := rfl
theorem rk161 : fx_rk 161 = (46, 4) := rfl
theorem rk162 : fx_rk 162 = (46, 2) := rfl
theorem rk163 : fx_rk 163 = (0, 3) := rfl
theorem rk164 : fx_rk 164 = (46, 2) := rfl
theorem rk165 : fx_rk 165 = (46, 2) := rfl
theorem rk166 : fx_rk 166 = (46, 3) := rfl
theorem rk167 : fx_rk 167 = (46, 1) := rfl
theorem rk168 : fx_rk 168 = (46, 2) := rfl
theorem rk169 : fx_rk 169 = (46, 6) := rfl
theorem rk170 : fx_rk 170 = (46, 2) := rfl
theorem rk171 : fx_rk 171 = (46, 3) := rfl
theorem rk172 : fx_rk 172 = (46, 3) := rfl
theorem rk173 : fx_rk 173 = (46, 4) := rfl
theorem rk174 : fx_rk 174 = (46, 3) := rfl
theorem rk175 : fx_rk 175 = (46, 2) := rfl
theorem rk176 : fx_rk 176 = (46, 1) := rfl
theorem rk177 : fx_rk 177 = (46, 1) := rfl
theorem rk178 : fx_rk 178 = (46, 3) := rfl
theorem rk179 : fx_rk 179 = (46, 6) := rfl
theorem rk180 : fx_rk 180 = (46, 2) := rfl
theorem rk181 : fx_rk 181 = (46, 1) := rfl
theorem rk182 : fx_rk 182 = (46, 2) := rfl
theorem rk183 : fx_rk 183 = (46, 2) := rfl
theorem rk184 : fx_rk 184 = (46, 2) := rfl
theorem rk185 : fx_rk 185 = (46, 2) := rfl
theorem rk186 : fx_rk 186 = (46, 1) := rfl
theorem rk187 : fx_rk 187 = (46, 3) := rfl
theorem rk188 : fx_rk 188 = (46, 5) := rfl
theorem rk189 : fx_rk 189 = (46, 1) := rfl
theorem rk190 : fx_rk 190 = (0, 1) := rfl
theorem rk191 : fx_rk 191 = (46, 2) := rfl
theorem rk192 : fx_rk 192 = (46, 2) := rfl
theorem rk193 : fx_rk 193 = (46, 2) := rfl
theorem rk194 : fx_rk 194 = (46, 1) := rfl
theorem rk195 : fx_rk 195 = (46, 1) := rfl
theorem rk196 : fx_rk 196 = (46, 2) := rfl
theorem rk197 : fx_rk 197 = (46, 1) := rfl
theorem rk198 : fx_rk 198 = (46, 1) := rfl
theorem rk199 : fx_rk 199 = (46, 1) := rfl
theorem rk200 : fx_rk 200 = (46, 2) := rfl
theorem rk201 : fx_rk 201 = (46, 1) := rfl
theorem rk202 : fx_rk 202 = (46, 1) := rfl
theorem rk203 : fx_rk 203 = (46, 1) := rfl
theorem rk204 : fx_rk 204 = (46, 1) := rfl
theorem rk205 : fx_rk 205 = (46, 1) := rfl
theorem rk206 : fx_rk 206 = (46, 2) := rfl
theorem rk207 : fx_rk 207 = (46, 6) := rfl
theorem rk208 : fx_rk 208 = (46, 2) := rfl
theorem rk209 : fx_rk 209 = (46, 3) := rfl
theorem rk210 : fx_rk 210 = (46, 3) := rfl
theorem rk211 : fx_rk 211 = (46, 3) := rfl
theorem rk212 : fx_rk 212 = (46, 3) := rfl
theorem rk213 : fx_rk 213 = (46, 2) := rfl
theorem rk214 : fx_rk 214 = (46, 1) := rfl
theorem rk215 : fx_rk 215 = (46, 3) := rfl
theorem rk216 : fx_rk 216 = (46, 4) := rfl
theorem rk217 : fx_rk 217 = (46, 4) := rfl
theorem rk218 : fx_rk 218 = (46, 3) := rfl
theorem rk219 : fx_rk 219 = (46, 4) := rfl
theorem rk220 : fx_rk 220 = (46, 4) := rfl
theorem rk221 : fx_rk 221 = (46, 4) := rfl
theorem rk222 : fx_rk 222 = (46, 2) := rfl
theorem rk223 : fx_rk 223 = (46, 2) := rfl
theorem rk224 : fx_rk 224 = (46, 4) := rfl
theorem rk225 : fx_rk 225 = (46, 2) := rfl
theorem rk226 : fx_rk 226 = (46, 4) := rfl
theorem rk227 : fx_rk 227 = (46, 3) := rfl
theorem rk228 : fx_rk 228 = (46, 4) := rfl
theorem rk229 : fx_rk 229 = (46, 2) := rfl
theorem rk230 : fx_rk 230 = (46, 3) := rfl
theorem rk231 : fx_rk 231 = (0, 4) := rfl
theorem rk232 : fx_rk 232 = (46, 3) := rfl
theorem rk233 : fx_rk 233 = (46, 2) := rfl
theorem rk234 : fx_rk 234 = (46, 3) := rfl
theorem rk235 : fx_rk 235 = (46, 3) := rfl
theorem rk236 : fx_rk 236 = (46, 3) := rfl
theorem rk237 : fx_rk 237 = (46, 3) := rfl
theorem rk238 : fx_rk 238 = (46, 2) := rfl
theorem rk239 : fx_rk 239 = (46, 3) := rfl
theorem rk240 : fx_rk 240 = (46, 2) := rfl
theorem rk241 : fx_rk 241 = (46, 2) := rfl
theorem rk242 : fx_rk 242 = (46, 3) := rfl
theorem rk243 : fx_rk 243 = (46, 3) := rfl
theorem rk244 : fx_rk 244 = (46, 3) := rfl
theorem rk245 : fx_rk 245 = (46, 3) := rfl
theorem rk246 : fx_rk 246 = (46, 3) := rfl
theorem rk247 : fx_rk 247 = (46, 3) := rfl
theorem rk248 : fx_rk 248 = (46, 3) := rfl
theorem rk249 : fx_rk 249 = (46, 4) := rfl
theorem rk250 : fx_rk 250 = (46, 4) := rfl
theorem rk251 : fx_rk 251 = (46, 2) := rfl
theorem rk252 : fx_rk 252 = (46, 2) := rfl
theorem rk253 : fx_rk 253 = (46, 2) := rfl
theorem rk254 : fx_rk 254 = (46, 1) := rfl
theorem rk255 : fx_rk 255 = (46, 1) := rfl
theorem rk256 : fx_rk 256 = (46, 1) := rfl
theorem rk257 : fx_rk 257 = (46, 1) := rfl
theorem rk258 : fx_rk 258 = (46, 1) := rfl
theorem rk259 : fx_rk 259 = (46, 1) := rfl
theorem rk260 : fx_rk 260 = (46, 2) := rfl
theorem hm0 : fx_code 0 = fx_c0 := rfl
theorem t0_0 {x0 x1 : Int} {σ : fx_S} {Q : fx_V → fx_S → Prop} (h : ((x0 < x1 → Q (0, x1) σ) ∧ (x1 ≤ x0 → Q (0, x0) σ))) : fx_Ca 0 [(0, x0), (0, x1)] σ Q := by
  show fx_Wp 0 0 [(0, x0), (0, x1)] [] σ Q
  refine wi_iload_n (pc' := 1) hm0 rfl rfl rfl ?_
  refine wi_iload_n (pc' := 2) hm0 rfl rfl rfl ?_
  refine wi_ic_lt (pc' := 5) (t := 9) hm0 rfl rfl rfl (fun hc => ?_) (fun hc => ?_)
  · replace h := h.1 hc
    refine wi_iload_n (pc' := 10) hm0 rfl rfl rfl ?_
    exact wi_iret hm0 rfl h
  · replace h := h.2 hc
    refine wi_iload_n (pc' := 6) hm0 rfl rfl rfl ?_
    refine wi_goto (t := 10) hm0 rfl rfl ?_
    exact wi_iret hm0 rfl h
theorem hm1 : fx_code 1 = fx_c1 := rfl
theorem t1_0 {x0 x1 : Int} {σ : fx_S} {Q : fx_V → fx_S → Prop} (h : ((x1 < x0 → Q (0, x1) σ) ∧ (x0 ≤ x1 → Q (0, x0) σ))) : fx_Ca 1 [(0, x0), (0, x1)] σ Q := by
  show fx_Wp 1 0 [(0, x0), (0, x1)] [] σ Q
  refine wi_iload_n (pc' := 1) hm1 rfl rfl rfl ?_
  refine wi_iload_n (pc' := 2) hm1 rfl rfl rfl ?_
  refine wi_ic_gt (pc' := 5) (t := 9) hm1 rfl rfl rfl (fun hc => ?_) (fun hc => ?_)
  · replace h := h.1 hc
    refine wi_iload_n (pc' := 10) hm1 rfl rfl rfl ?_
    exact wi_iret hm1 rfl h
  · replace h := h.2 hc
    refine wi_iload_n (pc' := 6) hm1 rfl rfl rfl ?_
    refine wi_goto (t := 10) hm1 rfl rfl ?_
    exact wi_iret hm1 rfl h
theorem hm2 : fx_code 2 = fx_c2 := rfl
theorem t2_0 {x0 x1 : Int} {σ : fx_S} {Q : fx_V → fx_S → Prop} (h : ((x1 ≤ x0 → ((x0 ≠ x1 → Q (0, 1) σ) ∧ (x0 = x1 → Q (0, 0) σ))) ∧ (x0 < x1 → Q (0, (-1)) σ))) : fx_Ca 2 [(0, x0), (0, x1)] σ Q := by
  show fx_Wp 2 0 [(0, x0), (0, x1)] [] σ Q
  refine wi_iload_n (pc' := 1) hm2 rfl rfl rfl ?_
  refine wi_iload_n (pc' := 2) hm2 rfl rfl rfl ?_
  refine wi_ic_ge (pc' := 5) (t := 9) hm2 rfl rfl rfl (fun hc => ?_) (fun hc => ?_)
  · replace h := h.1 hc
    refine wi_iload_n (pc' := 10) hm2 rfl rfl rfl ?_
    refine wi_iload_n (pc' := 11) hm2 rfl rfl rfl ?_
    refine wi_ic_ne (pc' := 14) (t := 18) hm2 rfl rfl rfl (fun hc => ?_) (fun hc => ?_)
    · replace h := h.1 hc
      refine wi_iconst (pc' := 19) (v := 1) hm2 rfl rfl rfl ?_
      exact wi_iret hm2 rfl h
    · replace h := h.2 hc
      refine wi_iconst (pc' := 15) (v := 0) hm2 rfl rfl rfl ?_
      refine wi_goto (t := 19) hm2 rfl rfl ?_
      exact wi_iret hm2 rfl h
  · replace h := h.2 hc
    refine wi_iconst (pc' := 6) (v := (-1)) hm2 rfl rfl rfl ?_
    refine wi_goto (t := 19) hm2 rfl rfl ?_
    exact wi_iret hm2 rfl h
theorem hm3 : fx_code 3 = fx_c3 := rfl
theorem t3_0 {o0 : Int} {σ : fx_S} {Q : fx_V → fx_S → Prop} (h : (((σ 22 o0 3) ≤ 0 → Q (0, 0) σ) ∧ (0 < (σ 22 o0 3) → Q (0, 1) σ))) : fx_Ca 3 [(22, o0)] σ Q := by
  show fx_Wp 3 0 [(22, o0)] [] σ Q
  refine wi_aload_n (pc' := 1) hm3 rfl rfl rfl (by decide) ?_
  refine wi_getI (pc' := 4) hm3 rfl rfl (P := 3) rfl ?_
  refine wi_if_le (pc' := 7) (t := 11) hm3 rfl rfl rfl (fun hc => ?_) (fun hc => ?_)
  · replace h := h.1 hc
    refine wi_iconst (pc' := 12) (v := 0) hm3 rfl rfl rfl ?_
    exact wi_zret hm3 rfl (by decide) h
  · replace h := h.2 hc
    refine wi_iconst (pc' := 8) (v := 1) hm3 rfl rfl rfl ?_
    refine wi_goto (t := 12) hm3 rfl rfl ?_
    exact wi_zret hm3 rfl (by decide) h
theorem hm4 : fx_code 4 = fx_c4 := rfl
theorem t4_0 {o0 : Int} {σ : fx_S} {Q : fx_V → fx_S → Prop} (h : Q (4, 0) (fx_up (fx_up (fx_up σ 22 o0 3 0) 22 o0 4 0) 22 o0 5 0)) : fx_Ca 4 [(22, o0)] σ Q := by
  show fx_Wp 4 0 [(22, o0)] [] σ Q
  refine wi_aload_n (pc' := 1) hm4 rfl rfl rfl (by decide) ?_
  refine wi_iconst (pc' := 2) (v := 0) hm4 rfl rfl rfl ?_
  refine wi_putI (pc' := 5) hm4 rfl rfl (P := 3) rfl ?_
  refine wi_aload_n (pc' := 6) hm4 rfl rfl rfl (by decide) ?_
  refine wi_iconst (pc' := 7) (v := 0) hm4 rfl rfl rfl ?_
  refine wi_putI (pc' := 10) hm4 rfl rfl (P := 4) rfl ?_
  refine wi_aload_n (pc' := 11) hm4 rfl rfl rfl (by decide) ?_
  refine wi_iconst (pc' := 12) (v := 0) hm4 rfl rfl rfl ?_
  refine wi_putI (pc' := 15) hm4 rfl rfl (P := 5) rfl ?_
  exact wi_vret hm4 rfl h
theorem hm5 : fx_code 5 = fx_c5 := rfl
theorem t5_0 {o0 o1 : Int} {σ : fx_S} {Q : fx_V → fx_S → Prop} (h : fx_Wp 5 2 [(22, o0), (22, o1), (0, 0)] [] σ Q) : fx_Ca 5 [(22, o0), (22, o1)] σ Q := by
  show fx_Wp 5 0 [(22, o0), (22, o1), (3, 0)] [] σ Q
  refine wi_iconst (pc' := 1) (v := 0) hm5 rfl rfl rfl ?_
  refine wi_istore_n (pc' := 2) (L' := [(22, o0), (22, o1), (0, 0)]) hm5 rfl rfl rfl ?_
  exact h
theorem t5_2 {o0 o1 x2 : Int} {σ : fx_S} {Q : fx_V → fx_S → Prop} (h : (((σ 22 o1 3) ≤ x2 → Q (4, 0) (fx_up (fx_up (fx_up σ 22 o0 3 (σ 22 o1 3)) 22 o0 4 (σ 22 o1 4)) 22 o0 5 (σ 22 o1 5))) ∧ (x2 < (σ 22 o1 3) → (0 ≤ x2 ∧ x2 < 23) ∧ (fx_rg (x2 + 1)) ∧ fx_Wp 5 2 [(22, o0), (22, o1), (0, (x2 + 1))] [] (fx_up (fx_up (fx_up σ 23 o0 x2 (σ 23 o1 x2)) 24 o0 x2 (σ 24 o1 x2)) 25 o0 x2 (σ 25 o1 x2)) Q))) : fx_Wp 5 2 [(22, o0), (22, o1), (0, x2)] [] σ Q := by
  refine wi_iload_n (pc' := 3) hm5 rfl rfl rfl ?_
  refine wi_aload_n (pc' := 4) hm5 rfl rfl rfl (by decide) ?_
  refine wi_getI (pc' := 7) hm5 rfl rfl (P := 3) rfl ?_
  refine wi_ic_ge (pc' := 10) (t := 52) hm5 rfl rfl rfl (fun hc => ?_) (fun hc => ?_)
  · replace h := h.1 hc
    refine wi_aload_n (pc' := 53) hm5 rfl rfl rfl (by decide) ?_
    refine wi_aload_n (pc' := 54) hm5 rfl rfl rfl (by decide) ?_
    refine wi_getI (pc' := 57) hm5 rfl rfl (P := 3) rfl ?_
    refine wi_putI (pc' := 60) hm5 rfl rfl (P := 3) rfl ?_
    refine wi_aload_n (pc' := 61) hm5 rfl rfl rfl (by decide) ?_
    refine wi_aload_n (pc' := 62) hm5 rfl rfl rfl (by decide) ?_
    refine wi_getIe (pc' := 65) hm5 rfl rfl (P := 4) rfl (x := (σ 22 o1 4)) (Eq.trans (fx_upJ (by decide)) rfl) ?_
    refine wi_putI (pc' := 68) hm5 rfl rfl (P := 4) rfl ?_
    refine wi_aload_n (pc' := 69) hm5 rfl rfl rfl (by decide) ?_
    refine wi_aload_n (pc' := 70) hm5 rfl rfl rfl (by decide) ?_
    refine wi_getIe (pc' := 73) hm5 rfl rfl (P := 5) rfl (x := (σ 22 o1 5)) (Eq.trans (fx_upJ (by decide)) (Eq.trans (fx_upJ (by decide)) rfl)) ?_
    refine wi_putI (pc' := 76) hm5 rfl rfl (P := 5) rfl ?_
    exact wi_vret hm5 rfl h
  · replace h := h.2 hc
    refine wi_aload_n (pc' := 11) hm5 rfl rfl rfl (by decide) ?_
    refine wi_getR (pc' := 14) (x := o0) hm5 rfl rfl rfl (by omega) ?_
    refine wi_iload_n (pc' := 15) hm5 rfl rfl rfl ?_
    refine wi_aload_n (pc' := 16) hm5 rfl rfl rfl (by decide) ?_
    refine wi_getR (pc' := 19) (x := o1) hm5 rfl rfl rfl (by omega) ?_
    refine wi_iload_n (pc' := 20) hm5 rfl rfl rfl ?_
    obtain ⟨g1, h⟩ := h
    refine wi_iaload (pc' := 21) hm5 rfl rfl rfl rfl (N := 23) rfl g1 ?_
    refine wi_iastore (pc' := 22) hm5 rfl rfl rfl (N := 23) rfl g1 ?_
    refine wi_aload_n (pc' := 23) hm5 rfl rfl rfl (by decide) ?_
    refine wi_getR (pc' := 26) (x := o0) hm5 rfl rfl rfl (by omega) ?_
    refine wi_iload_n (pc' := 27) hm5 rfl rfl rfl ?_
    refine wi_aload_n (pc' := 28) hm5 rfl rfl rfl (by decide) ?_
    refine wi_getR (pc' := 31) (x := o1) hm5 rfl rfl rfl (by omega) ?_
    refine wi_iload_n (pc' := 32) hm5 rfl rfl rfl ?_
    refine wi_ialoade (pc' := 33) hm5 rfl rfl rfl rfl (N := 23) rfl g1 (x := (σ 24 o1 x2)) (Eq.trans (fx_upK rfl) rfl) ?_
    refine wi_iastore (pc' := 34) hm5 rfl rfl rfl (N := 23) rfl g1 ?_
    refine wi_aload_n (pc' := 35) hm5 rfl rfl rfl (by decide) ?_
    refine wi_getR (pc' := 38) (x := o0) hm5 rfl rfl rfl (by omega) ?_
    refine wi_iload_n (pc' := 39) hm5 rfl rfl rfl ?_
    refine wi_aload_n (pc' := 40) hm5 rfl rfl rfl (by decide) ?_
    refine wi_getR (pc' := 43) (x := o1) hm5 rfl rfl rfl (by omega) ?_
    refine wi_iload_n (pc' := 44) hm5 rfl rfl rfl ?_
    refine wi_ialoade (pc' := 45) hm5 rfl rfl rfl rfl (N := 23) rfl g1 (x := (σ 25 o1 x2)) (Eq.trans (fx_upK rfl) (Eq.trans (fx_upK rfl) rfl)) ?_
    refine wi_iastore (pc' := 46) hm5 rfl rfl rfl (N := 23) rfl g1 ?_
    obtain ⟨g2, h⟩ := h
    refine wi_iinc (pc' := 49) (L' := [(22, o0), (22, o1), (0, (x2 + 1))]) hm5 rfl rfl rfl g2 rfl ?_
    refine wi_goto (t := 2) hm5 rfl rfl ?_
    exact h
theorem hm6 : fx_code 6 = fx_c6 := rfl
theorem t6_0 {o0 x1 x2 : Int} {σ : fx_S} {Q : fx_V → fx_S → Prop} (h : (fx_rg ((σ 22 o0 4) + 1)) ∧ ((x1 ≠ 13 → fx_CI 7 [(22, o0), (0, x1), (0, x2), (0, 0)] (fx_up σ 22 o0 4 ((σ 22 o0 4) + 1)) Q (fun y1 σ1 => Q (0, y1) σ1)) ∧ (x1 = 13 → fx_CI 7 [(22, o0), (0, x1), (0, x2), (0, 0)] (fx_up (fx_up σ 22 o0 4 ((σ 22 o0 4) + 1)) 22 o0 5 (fx_or (σ 22 o0 5) (fx_shl 1 x2))) Q (fun y2 σ2 => Q (0, y2) σ2)))) : fx_Ca 6 [(22, o0), (0, x1), (0, x2)] σ Q := by
  show fx_Wp 6 0 [(22, o0), (0, x1), (0, x2)] [] σ Q
  refine wi_aload_n (pc' := 1) hm6 rfl rfl rfl (by decide) ?_
  refine wi_dup (pc' := 2) hm6 rfl rfl rfl ?_
  refine wi_getI (pc' := 5) hm6 rfl rfl (P := 4) rfl ?_
  refine wi_iconst (pc' := 6) (v := 1) hm6 rfl rfl rfl ?_
  obtain ⟨g1, h⟩ := h
  refine wi_iadd (pc' := 7) hm6 rfl rfl g1 ?_
  refine wi_putI (pc' := 10) hm6 rfl rfl (P := 4) rfl ?_
  refine wi_iload_n (pc' := 11) hm6 rfl rfl rfl ?_
  refine wi_bipush (pc' := 13) (v := 13) hm6 rfl rfl rfl ?_
  refine wi_ic_ne (pc' := 16) (t := 28) hm6 rfl rfl rfl (fun hc => ?_) (fun hc => ?_)
  · replace h := h.1 hc
    refine wi_aload_n (pc' := 29) hm6 rfl rfl rfl (by decide) ?_
    refine wi_iload_n (pc' := 30) hm6 rfl rfl rfl ?_
    refine wi_iload_n (pc' := 31) hm6 rfl rfl rfl ?_
    refine wi_iconst (pc' := 32) (v := 0) hm6 rfl rfl rfl ?_
    refine wc_I (pc' := 35) (by decide) rfl (by decide) ((fx_wE hm6 rfl).trans (fx_exV (mj := 7) (as := [(0, x1), (0, x2), (0, 0)]) (rest := []) rfl rk7 rfl rfl rfl rfl rfl)) h (fun y1 σ1 h => ?_)
    exact wi_iret hm6 rfl h
  · replace h := h.2 hc
    refine wi_aload_n (pc' := 17) hm6 rfl rfl rfl (by decide) ?_
    refine wi_dup (pc' := 18) hm6 rfl rfl rfl ?_
    refine wi_getIe (pc' := 21) hm6 rfl rfl (P := 5) rfl (x := (σ 22 o0 5)) (Eq.trans (fx_upJ (by decide)) rfl) ?_
    refine wi_iconst (pc' := 22) (v := 1) hm6 rfl rfl rfl ?_
    refine wi_iload_n (pc' := 23) hm6 rfl rfl rfl ?_
    refine wi_ishl (pc' := 24) hm6 rfl rfl ?_
    refine wi_ior (pc' := 25) hm6 rfl rfl ?_
    refine wi_putI (pc' := 28) hm6 rfl rfl (P := 5) rfl ?_
    refine wi_aload_n (pc' := 29) hm6 rfl rfl rfl (by decide) ?_
    refine wi_iload_n (pc' := 30) hm6 rfl rfl rfl ?_
    refine wi_iload_n (pc' := 31) hm6 rfl rfl rfl ?_
    refine wi_iconst (pc' := 32) (v := 0) hm6 rfl rfl rfl ?_
    refine wc_I (pc' := 35) (by decide) rfl (by decide) ((fx_wE hm6 rfl).trans (fx_exV (mj := 7) (as := [(0, x1), (0, x2), (0, 0)]) (rest := []) rfl rk7 rfl rfl rfl rfl rfl)) h (fun y2 σ2 h => ?_)
    exact wi_iret hm6 rfl h
theorem hm7 : fx_code 7 = fx_c7 := rfl
theorem t7_0 {o0 x1 x2 x3 : Int} {σ : fx_S} {Q : fx_V → fx_S → Prop} (h : ((23 ≤ (σ 22 o0 3) → Q (0, (σ 22 o0 3)) σ) ∧ ((σ 22 o0 3) < 23 → (0 ≤ (σ 22 o0 3) ∧ (σ 22 o0 3) < 23) ∧ (fx_rg ((σ 22 o0 3) + 1)) ∧ Q (0, (σ 22 o0 3)) (fx_up (fx_up (fx_up (fx_up σ 23 o0 (σ 22 o0 3) x1) 24 o0 (σ 22 o0 3) x2) 25 o0 (σ 22 o0 3) x3) 22 o0 3 ((σ 22 o0 3) + 1))))) : fx_Ca 7 [(22, o0), (0, x1), (0, x2), (0, x3)] σ Q := by
  show fx_Wp 7 0 [(22, o0), (0, x1), (0, x2), (0, x3), (3, 0)] [] σ Q
  refine wi_aload_n (pc' := 1) hm7 rfl rfl rfl (by decide) ?_
  refine wi_getI (pc' := 4) hm7 rfl rfl (P := 3) rfl ?_
  refine wi_istore (pc' := 6) (L' := [(22, o0), (0, x1), (0, x2), (0, x3), (0, (σ 22 o0 3))]) hm7 rfl rfl rfl ?_
  refine wi_iload (pc' := 8) hm7 rfl rfl rfl ?_
  refine wi_bipush (pc' := 10) (v := 23) hm7 rfl rfl rfl ?_
  refine wi_ic_ge (pc' := 13) (t := 47) hm7 rfl rfl rfl (fun hc => ?_) (fun hc => ?_)
  · replace h := h.1 hc
    refine wi_iload (pc' := 49) hm7 rfl rfl rfl ?_
    exact wi_iret hm7 rfl h
  · replace h := h.2 hc
    refine wi_aload_n (pc' := 14) hm7 rfl rfl rfl (by decide) ?_
    refine wi_getR (pc' := 17) (x := o0) hm7 rfl rfl rfl (by omega) ?_
    refine wi_iload (pc' := 19) hm7 rfl rfl rfl ?_
    refine wi_iload_n (pc' := 20) hm7 rfl rfl rfl ?_
    obtain ⟨g1, h⟩ := h
    refine wi_iastore (pc' := 21) hm7 rfl rfl rfl (N := 23) rfl g1 ?_
    refine wi_aload_n (pc' := 22) hm7 rfl rfl rfl (by decide) ?_
    refine wi_getR (pc' := 25) (x := o0) hm7 rfl rfl rfl (by omega) ?_
    refine wi_iload (pc' := 27) hm7 rfl rfl rfl ?_
    refine wi_iload_n (pc' := 28) hm7 rfl rfl rfl ?_
    refine wi_iastore (pc' := 29) hm7 rfl rfl rfl (N := 23) rfl g1 ?_
    refine wi_aload_n (pc' := 30) hm7 rfl rfl rfl (by decide) ?_
    refine wi_getR (pc' := 33) (x := o0) hm7 rfl rfl rfl (by omega) ?_
    refine wi_iload (pc' := 35) hm7 rfl rfl rfl ?_
    refine wi_iload_n (pc' := 36) hm7 rfl rfl rfl ?_
    refine wi_iastore (pc' := 37) hm7 rfl rfl rfl (N := 23) rfl g1 ?_
    refine wi_aload_n (pc' := 38) hm7 rfl rfl rfl (by decide) ?_
    refine wi_dup (pc' := 39) hm7 rfl rfl rfl ?_
    refine wi_getIe (pc' := 42) hm7 rfl rfl (P := 3) rfl (x := (σ 22 o0 3)) (Eq.trans (fx_upK rfl) (Eq.trans (fx_upK rfl) (Eq.trans (fx_upK rfl) rfl))) ?_
    refine wi_iconst (pc' := 43) (v := 1) hm7 rfl rfl rfl ?_
    obtain ⟨g2, h⟩ := h
    refine wi_iadd (pc' := 44) hm7 rfl rfl g2 ?_
    refine wi_putI (pc' := 47) hm7 rfl rfl (P := 3) rfl ?_
    refine wi_iload (pc' := 49) hm7 rfl rfl rfl ?_
    exact wi_iret hm7 rfl h
theorem hm8 : fx_code 8 = fx_c8 := rfl
theorem t8_0 {x0 x1 x2 : Int} {σ : fx_S} {Q : fx_V → fx_S → Prop} (h : ((x0 ≠ 10 → ((x0 ≠ 11 → ((x0 ≠ 12 → ((x1 = (-1) → Q (0, (-1)) σ) ∧ (x1 ≠ (-1) → ((x2 ≠ (-1) → ((x0 = 6 → (fx_rg (x1 + x2)) ∧ (((x1 + x2) < 0 → Q (0, (-1)) σ) ∧ (0 ≤ (x1 + x2) → ((100 ≤ (x1 + x2) → Q (0, (-1)) σ) ∧ ((x1 + x2) < 100 → Q (0, (x1 + x2)) σ))))) ∧ (x0 ≠ 6 → ((x0 = 7 → (fx_rg (x1 - x2)) ∧ (((x1 - x2) < 0 → Q (0, (-1)) σ) ∧ (0 ≤ (x1 - x2) → ((100 ≤ (x1 - x2) → Q (0, (-1)) σ) ∧ ((x1 - x2) < 100 → Q (0, (x1 - x2)) σ))))) ∧ (x0 ≠ 7 → ((x0 = 8 → fx_CI 1 [(0, x1), (0, x2)] σ Q (fun y1 σ1 => ((y1 < 0 → Q (0, (-1)) σ1) ∧ (0 ≤ y1 → ((100 ≤ y1 → Q (0, (-1)) σ1) ∧ (y1 < 100 → Q (0, y1) σ1)))))) ∧ (x0 ≠ 8 → fx_CI 0 [(0, x1), (0, x2)] σ Q (fun y2 σ2 => ((y2 < 0 → Q (0, (-1)) σ2) ∧ (0 ≤ y2 → ((100 ≤ y2 → Q (0, (-1)) σ2) ∧ (y2 < 100 → Q (0, y2) σ2)))))))))))) ∧ (x2 = (-1) → Q (0, (-1)) σ))))) ∧ (x0 = 12 → ((x2 ≠ (-1) → Q (0, (-1)) σ) ∧ (x2 = (-1) → Q (0, x1) σ))))) ∧ (x0 = 11 → ((x2 = (-1) → Q (0, (-1)) σ) ∧ (x2 ≠ (-1) → Q (0, x1) σ))))) ∧ (x0 = 10 → ((x1 = (-1) → Q (0, x2) σ) ∧ (x1 ≠ (-1) → Q (0, x1) σ))))) : fx_Ca 8 [(0, x0), (0, x1), (0, x2)] σ Q := by
  show fx_Wp 8 0 [(0, x0), (0, x1), (0, x2), (3, 0)] [] σ Q
  refine wi_iload_n (pc' := 1) hm8 rfl rfl rfl ?_
  refine wi_bipush (pc' := 3) (v := 10) hm8 rfl rfl rfl ?_
  refine wi_ic_ne (pc' := 6) (t := 17) hm8 rfl rfl rfl (fun hc => ?_) (fun hc => ?_)
  · replace h := h.1 hc
    refine wi_iload_n (pc' := 18) hm8 rfl rfl rfl ?_
    refine wi_bipush (pc' := 20) (v := 11) hm8 rfl rfl rfl ?_
    refine wi_ic_ne (pc' := 23) (t := 34) hm8 rfl rfl rfl (fun hc => ?_) (fun hc => ?_)
    · replace h := h.1 hc
      refine wi_iload_n (pc' := 35) hm8 rfl rfl rfl ?_
      refine wi_bipush (pc' := 37) (v := 12) hm8 rfl rfl rfl ?_
      refine wi_ic_ne (pc' := 40) (t := 51) hm8 rfl rfl rfl (fun hc => ?_) (fun hc => ?_)
      · replace h := h.1 hc
        refine wi_iload_n (pc' := 52) hm8 rfl rfl rfl ?_
        refine wi_iconst (pc' := 53) (v := (-1)) hm8 rfl rfl rfl ?_
        refine wi_ic_eq (pc' := 56) (t := 61) hm8 rfl rfl rfl (fun hc => ?_) (fun hc => ?_)
        · replace h := h.1 hc
          refine wi_iconst (pc' := 62) (v := (-1)) hm8 rfl rfl rfl ?_
          exact wi_iret hm8 rfl h
        · replace h := h.2 hc
          refine wi_iload_n (pc' := 57) hm8 rfl rfl rfl ?_
          refine wi_iconst (pc' := 58) (v := (-1)) hm8 rfl rfl rfl ?_
          refine wi_ic_ne (pc' := 61) (t := 63) hm8 rfl rfl rfl (fun hc => ?_) (fun hc => ?_)
          · replace h := h.1 hc
            refine wi_iload_n (pc' := 64) hm8 rfl rfl rfl ?_
            refine wi_tsw hm8 rfl ?_
            refine fx_swc (fun hc => ?_) (fun hc => ?_)
            · replace h := h.1 hc
              refine wi_iload_n (pc' := 93) hm8 rfl rfl rfl ?_
              refine wi_iload_n (pc' := 94) hm8 rfl rfl rfl ?_
              obtain ⟨g1, h⟩ := h
              refine wi_iadd (pc' := 95) hm8 rfl rfl g1 ?_
              refine wi_istore_n (pc' := 96) (L' := [(0, x0), (0, x1), (0, x2), (0, (x1 + x2))]) hm8 rfl rfl rfl ?_
              refine wi_goto (t := 121) hm8 rfl rfl ?_
              refine wi_iload_n (pc' := 122) hm8 rfl rfl rfl ?_
              refine wi_if_lt (pc' := 125) (t := 135) hm8 rfl rfl rfl (fun hc => ?_) (fun hc => ?_)
              · replace h := h.1 hc
                refine wi_iconst (pc' := 136) (v := (-1)) hm8 rfl rfl rfl ?_
                exact wi_iret hm8 rfl h
              · replace h := h.2 hc
                refine wi_iload_n (pc' := 126) hm8 rfl rfl rfl ?_
                refine wi_bipush (pc' := 128) (v := 100) hm8 rfl rfl rfl ?_
                refine wi_ic_ge (pc' := 131) (t := 135) hm8 rfl rfl rfl (fun hc => ?_) (fun hc => ?_)
                · replace h := h.1 hc
                  refine wi_iconst (pc' := 136) (v := (-1)) hm8 rfl rfl rfl ?_
                  exact wi_iret hm8 rfl h
                · replace h := h.2 hc
                  refine wi_iload_n (pc' := 132) hm8 rfl rfl rfl ?_
                  refine wi_goto (t := 136) hm8 rfl rfl ?_
                  exact wi_iret hm8 rfl h
            · replace h := h.2 hc
              refine fx_swc (fun hc => ?_) (fun hc => ?_)
              · replace h := h.1 hc
                refine wi_iload_n (pc' := 100) hm8 rfl rfl rfl ?_
                refine wi_iload_n (pc' := 101) hm8 rfl rfl rfl ?_
                obtain ⟨g1, h⟩ := h
                refine wi_isub (pc' := 102) hm8 rfl rfl g1 ?_
                refine wi_istore_n (pc' := 103) (L' := [(0, x0), (0, x1), (0, x2), (0, (x1 - x2))]) hm8 rfl rfl rfl ?_
                refine wi_goto (t := 121) hm8 rfl rfl ?_
                refine wi_iload_n (pc' := 122) hm8 rfl rfl rfl ?_
                refine wi_if_lt (pc' := 125) (t := 135) hm8 rfl rfl rfl (fun hc => ?_) (fun hc => ?_)
                · replace h := h.1 hc
                  refine wi_iconst (pc' := 136) (v := (-1)) hm8 rfl rfl rfl ?_
                  exact wi_iret hm8 rfl h
                · replace h := h.2 hc
                  refine wi_iload_n (pc' := 126) hm8 rfl rfl rfl ?_
                  refine wi_bipush (pc' := 128) (v := 100) hm8 rfl rfl rfl ?_
                  refine wi_ic_ge (pc' := 131) (t := 135) hm8 rfl rfl rfl (fun hc => ?_) (fun hc => ?_)
                  · replace h := h.1 hc
                    refine wi_iconst (pc' := 136) (v := (-1)) hm8 rfl rfl rfl ?_
                    exact wi_iret hm8 rfl h
                  · replace h := h.2 hc
                    refine wi_iload_n (pc' := 132) hm8 rfl rfl rfl ?_
                    refine wi_goto (t := 136) hm8 rfl rfl ?_
                    exact wi_iret hm8 rfl h
              · replace h := h.2 hc
                refine fx_swc (fun hc => ?_) (fun hc => ?_)
                · replace h := h.1 hc
                  refine wi_iload_n (pc' := 107) hm8 rfl rfl rfl ?_
                  refine wi_iload_n (pc' := 108) hm8 rfl rfl rfl ?_
                  refine wc_I (pc' := 111) (by decide) rfl (by decide) ((fx_wE hm8 rfl).trans (fx_exS (mj := 1) (as := [(0, x1), (0, x2)]) (rest := []) rfl rk1 rfl rfl rfl rfl)) h (fun y1 σ1 h => ?_)
                  refine wi_istore_n (pc' := 112) (L' := [(0, x0), (0, x1), (0, x2), (0, y1)]) hm8 rfl rfl rfl ?_
                  refine wi_goto (t := 121) hm8 rfl rfl ?_
                  refine wi_iload_n (pc' := 122) hm8 rfl rfl rfl ?_
                  refine wi_if_lt (pc' := 125) (t := 135) hm8 rfl rfl rfl (fun hc => ?_) (fun hc => ?_)
                  · replace h := h.1 hc
                    refine wi_iconst (pc' := 136) (v := (-1)) hm8 rfl rfl rfl ?_
                    exact wi_iret hm8 rfl h
                  · replace h := h.2 hc
                    refine wi_iload_n (pc' := 126) hm8 rfl rfl rfl ?_
                    refine wi_bipush (pc' := 128) (v := 100) hm8 rfl rfl rfl ?_
                    refine wi_ic_ge (pc' := 131) (t := 135) hm8 rfl rfl rfl (fun hc => ?_) (fun hc => ?_)
                    · replace h := h.1 hc
                      refine wi_iconst (pc' := 136) (v := (-1)) hm8 rfl rfl rfl ?_
                      exact wi_iret hm8 rfl h
                    · replace h := h.2 hc
                      refine wi_iload_n (pc' := 132) hm8 rfl rfl rfl ?_
                      refine wi_goto (t := 136) hm8 rfl rfl ?_
                      exact wi_iret hm8 rfl h
                · replace h := h.2 hc
                  refine fx_swn ?_
                  refine wi_iload_n (pc' := 116) hm8 rfl rfl rfl ?_
                  refine wi_iload_n (pc' := 117) hm8 rfl rfl rfl ?_
                  refine wc_I (pc' := 120) (by decide) rfl (by decide) ((fx_wE hm8 rfl).trans (fx_exS (mj := 0) (as := [(0, x1), (0, x2)]) (rest := []) rfl rk0 rfl rfl rfl rfl)) h (fun y2 σ2 h => ?_)
                  refine wi_istore_n (pc' := 121) (L' := [(0, x0), (0, x1), (0, x2), (0, y2)]) hm8 rfl rfl rfl ?_
                  refine wi_iload_n (pc' := 122) hm8 rfl rfl rfl ?_
                  refine wi_if_lt (pc' := 125) (t := 135) hm8 rfl rfl rfl (fun hc => ?_) (fun hc => ?_)
                  · replace h := h.1 hc
                    refine wi_iconst (pc' := 136) (v := (-1)) hm8 rfl rfl rfl ?_
                    exact wi_iret hm8 rfl h
                  · replace h := h.2 hc
                    refine wi_iload_n (pc' := 126) hm8 rfl rfl rfl ?_
                    refine wi_bipush (pc' := 128) (v := 100) hm8 rfl rfl rfl ?_
                    refine wi_ic_ge (pc' := 131) (t := 135) hm8 rfl rfl rfl (fun hc => ?_) (fun hc => ?_)
                    · replace h := h.1 hc
                      refine wi_iconst (pc' := 136) (v := (-1)) hm8 rfl rfl rfl ?_
                      exact wi_iret hm8 rfl h
                    · replace h := h.2 hc
                      refine wi_iload_n (pc' := 132) hm8 rfl rfl rfl ?_
                      refine wi_goto (t := 136) hm8 rfl rfl ?_
                      exact wi_iret hm8 rfl h
          · replace h := h.2 hc
            refine wi_iconst (pc' := 62) (v := (-1)) hm8 rfl rfl rfl ?_
            exact wi_iret hm8 rfl h
      · replace h := h.2 hc
        refine wi_iload_n (pc' := 41) hm8 rfl rfl rfl ?_
        refine wi_iconst (pc' := 42) (v := (-1)) hm8 rfl rfl rfl ?_
        refine wi_ic_ne (pc' := 45) (t := 49) hm8 rfl rfl rfl (fun hc => ?_) (fun hc => ?_)
        · replace h := h.1 hc
          refine wi_iconst (pc' := 50) (v := (-1)) hm8 rfl rfl rfl ?_
          exact wi_iret hm8 rfl h
        · replace h := h.2 hc
          refine wi_iload_n (pc' := 46) hm8 rfl rfl rfl ?_
          refine wi_goto (t := 50) hm8 rfl rfl ?_
          exact wi_iret hm8 rfl h
    · replace h := h.2 hc
      refine wi_iload_n (pc' := 24) hm8 rfl rfl rfl ?_
      refine wi_iconst (pc' := 25) (v := (-1)) hm8 rfl rfl rfl ?_
      refine wi_ic_eq (pc' := 28) (t := 32) hm8 rfl rfl rfl (fun hc => ?_) (fun hc => ?_)
      · replace h := h.1 hc
        refine wi_iconst (pc' := 33) (v := (-1)) hm8 rfl rfl rfl ?_
        exact wi_iret hm8 rfl h
      · replace h := h.2 hc
        refine wi_iload_n (pc' := 29) hm8 rfl rfl rfl ?_
        refine wi_goto (t := 33) hm8 rfl rfl ?_
        exact wi_iret hm8 rfl h
  · replace h := h.2 hc
    refine wi_iload_n (pc' := 7) hm8 rfl rfl rfl ?_
    refine wi_iconst (pc' := 8) (v := (-1)) hm8 rfl rfl rfl ?_
    refine wi_ic_eq (pc' := 11) (t := 15) hm8 rfl rfl rfl (fun hc => ?_) (fun hc => ?_)
    · replace h := h.1 hc
      refine wi_iload_n (pc' := 16) hm8 rfl rfl rfl ?_
      exact wi_iret hm8 rfl h
    · replace h := h.2 hc
      refine wi_iload_n (pc' := 12) hm8 rfl rfl rfl ?_
      refine wi_goto (t := 16) hm8 rfl rfl ?_
      exact wi_iret hm8 rfl h
theorem hm9 : fx_code 9 = fx_c9 := rfl
theorem t9_0 {o0 x1 : Int} {σ : fx_S} {Q : fx_V → fx_S → Prop} (h : fx_Wp 9 3 [(28, o0), (0, x1), (0, 24)] [] σ Q) : fx_Ca 9 [(28, o0), (0, x1)] σ Q := by
  show fx_Wp 9 0 [(28, o0), (0, x1), (3, 0)] [] σ Q
  refine wi_bipush (pc' := 2) (v := 24) hm9 rfl rfl rfl ?_
  refine wi_istore_n (pc' := 3) (L' := [(28, o0), (0, x1), (0, 24)]) hm9 rfl rfl rfl ?_
  exact h
theorem t9_3 {o0 x1 x2 : Int} {σ : fx_S} {Q : fx_V → fx_S → Prop} (h : ((x2 < 0 → Q (4, 0) σ) ∧ (0 ≤ x2 → ((400 ≤ (σ 28 o0 4) → (fx_rg (x2 + (-8))) ∧ fx_Wp 9 3 [(28, o0), (0, x1), (0, (x2 + (-8)))] [] σ Q) ∧ ((σ 28 o0 4) < 400 → (0 ≤ (σ 28 o0 4) ∧ (σ 28 o0 4) < 400) ∧ (fx_rg ((σ 28 o0 4) + 1)) ∧ (fx_rg (x2 + (-8))) ∧ fx_Wp 9 3 [(28, o0), (0, x1), (0, (x2 + (-8)))] [] (fx_up (fx_up σ 29 0 (σ 28 o0 4) (fx_and (fx_ushr x1 x2) 255)) 28 o0 4 ((σ 28 o0 4) + 1)) Q))))) : fx_Wp 9 3 [(28, o0), (0, x1), (0, x2)] [] σ Q := by
  refine wi_iload_n (pc' := 4) hm9 rfl rfl rfl ?_
  refine wi_if_lt (pc' := 7) (t := 49) hm9 rfl rfl rfl (fun hc => ?_) (fun hc => ?_)
  · replace h := h.1 hc
    exact wi_vret hm9 rfl h
  · replace h := h.2 hc
    refine wi_aload_n (pc' := 8) hm9 rfl rfl rfl (by decide) ?_
    refine wi_getI (pc' := 11) hm9 rfl rfl (P := 4) rfl ?_
    refine wi_sipush (pc' := 14) (v := 400) hm9 rfl rfl rfl ?_
    refine wi_ic_ge (pc' := 17) (t := 43) hm9 rfl rfl rfl (fun hc => ?_) (fun hc => ?_)
    · replace h := h.1 hc
      obtain ⟨g1, h⟩ := h
      refine wi_iinc (pc' := 46) (L' := [(28, o0), (0, x1), (0, (x2 + (-8)))]) hm9 rfl rfl rfl g1 rfl ?_
      refine wi_goto (t := 3) hm9 rfl rfl ?_
      exact h
    · replace h := h.2 hc
      refine wi_aload_n (pc' := 18) hm9 rfl rfl rfl (by decide) ?_
      refine wi_getR (pc' := 21) (x := 0) hm9 rfl rfl rfl (by omega) ?_
      refine wi_aload_n (pc' := 22) hm9 rfl rfl rfl (by decide) ?_
      refine wi_getI (pc' := 25) hm9 rfl rfl (P := 4) rfl ?_
      refine wi_iload_n (pc' := 26) hm9 rfl rfl rfl ?_
      refine wi_iload_n (pc' := 27) hm9 rfl rfl rfl ?_
      refine wi_iushr (pc' := 28) hm9 rfl rfl ?_
      refine wi_sipush (pc' := 31) (v := 255) hm9 rfl rfl rfl ?_
      refine wi_iand (pc' := 32) hm9 rfl rfl ?_
      obtain ⟨g1, h⟩ := h
      refine wi_iastore (pc' := 33) hm9 rfl rfl rfl (N := 400) rfl g1 ?_
      refine wi_aload_n (pc' := 34) hm9 rfl rfl rfl (by decide) ?_
      refine wi_dup (pc' := 35) hm9 rfl rfl rfl ?_
      refine wi_getIe (pc' := 38) hm9 rfl rfl (P := 4) rfl (x := (σ 28 o0 4)) (Eq.trans (fx_upK rfl) rfl) ?_
      refine wi_iconst (pc' := 39) (v := 1) hm9 rfl rfl rfl ?_
      obtain ⟨g2, h⟩ := h
      refine wi_iadd (pc' := 40) hm9 rfl rfl g2 ?_
      refine wi_putI (pc' := 43) hm9 rfl rfl (P := 4) rfl ?_
      obtain ⟨g3, h⟩ := h
      refine wi_iinc (pc' := 46) (L' := [(28, o0), (0, x1), (0, (x2 + (-8)))]) hm9 rfl rfl rfl g3 rfl ?_
      refine wi_goto (t := 3) hm9 rfl rfl ?_
      exact h
theorem hm10 : fx_code 10 = fx_c10 := rfl
theorem t10_0 {o0 : Int} {σ : fx_S} {Q : fx_V → fx_S → Prop} (h : fx_Wp 10 7 [(28, o0), (0, 0), (3, 0), (3, 0)] [] (fx_up σ 28 o0 5 0) Q) : fx_Ca 10 [(28, o0)] σ Q := by
  show fx_Wp 10 0 [(28, o0), (3, 0), (3, 0), (3, 0)] [] σ Q
  refine wi_aload_n (pc' := 1) hm10 rfl rfl rfl (by decide) ?_
  refine wi_iconst (pc' := 2) (v := 0) hm10 rfl rfl rfl ?_
  refine wi_putI (pc' := 5) hm10 rfl rfl (P := 5) rfl ?_
  refine wi_iconst (pc' := 6) (v := 0) hm10 rfl rfl rfl ?_
  refine wi_istore_n (pc' := 7) (L' := [(28, o0), (0, 0), (3, 0), (3, 0)]) hm10 rfl rfl rfl ?_
  exact h
theorem t10_7 {o0 x1 : Int} {w2 w3 : fx_V} {σ : fx_S} {Q : fx_V → fx_S → Prop} (h : (((σ 28 o0 4) ≤ x1 → fx_CV 14 [(28, o0), (0, 0), (0, (σ 28 o0 4)), (0, 0)] σ Q (fun σ1 => Q (4, 0) σ1)) ∧ (x1 < (σ 28 o0 4) → (fx_rg (x1 + 1)) ∧ fx_CI 11 [(28, o0), (0, x1)] σ Q (fun y1 σ2 => ((y1 = 0 → fx_CI 12 [(28, o0), (0, x1)] σ2 Q (fun y2 σ3 => ((y2 = 0 → (0 ≤ x1 ∧ x1 < 400) ∧ (((σ3 29 0 x1) = 32 → fx_Wp 10 7 [(28, o0), (0, (x1 + 1)), (0, (x1 + 1)), w3] [] σ3 Q) ∧ ((σ3 29 0 x1) ≠ 32 → fx_CI 15 [(0, (σ3 29 0 x1))] σ3 Q (fun y3 σ4 => fx_CV 14 [(28, o0), (0, y3), (0, x1), (0, 0)] σ4 Q (fun σ5 => fx_Wp 10 7 [(28, o0), (0, (x1 + 1)), (0, (x1 + 1)), w3] [] σ5 Q))))) ∧ (y2 ≠ 0 → fx_Wp 10 72 [(28, o0), (0, x1), (0, (x1 + 1)), w3] [] σ3 Q)))) ∧ (y1 ≠ 0 → fx_Wp 10 27 [(28, o0), (0, x1), (0, (x1 + 1)), w3] [] σ2 Q)))))) : fx_Wp 10 7 [(28, o0), (0, x1), w2, w3] [] σ Q := by
  refine wi_iload_n (pc' := 8) hm10 rfl rfl rfl ?_
  refine wi_aload_n (pc' := 9) hm10 rfl rfl rfl (by decide) ?_
  refine wi_getI (pc' := 12) hm10 rfl rfl (P := 4) rfl ?_
  refine wi_ic_ge (pc' := 15) (t := 169) hm10 rfl rfl rfl (fun hc => ?_) (fun hc => ?_)
  · replace h := h.1 hc
    refine wi_aload_n (pc' := 170) hm10 rfl rfl rfl (by decide) ?_
    refine wi_iconst (pc' := 171) (v := 0) hm10 rfl rfl rfl ?_
    refine wi_aload_n (pc' := 172) hm10 rfl rfl rfl (by decide) ?_
    refine wi_getI (pc' := 175) hm10 rfl rfl (P := 4) rfl ?_
    refine wi_iconst (pc' := 176) (v := 0) hm10 rfl rfl rfl ?_
    refine wc_V (pc' := 179) (by decide) rfl (by decide) ((fx_wE hm10 rfl).trans (fx_exV (mj := 14) (as := [(0, 0), (0, (σ 28 o0 4)), (0, 0)]) (rest := []) rfl rk14 rfl rfl rfl rfl rfl)) h (fun σ1 h => ?_)
    exact wi_vret hm10 rfl h
  · replace h := h.2 hc
    refine wi_iload_n (pc' := 16) hm10 rfl rfl rfl ?_
    refine wi_iconst (pc' := 17) (v := 1) hm10 rfl rfl rfl ?_
    obtain ⟨g1, h⟩ := h
    refine wi_iadd (pc' := 18) hm10 rfl rfl g1 ?_
    refine wi_istore_n (pc' := 19) (L' := [(28, o0), (0, x1), (0, (x1 + 1)), w3]) hm10 rfl rfl rfl ?_
    refine wi_aload_n (pc' := 20) hm10 rfl rfl rfl (by decide) ?_
    refine wi_iload_n (pc' := 21) hm10 rfl rfl rfl ?_
    refine wc_I (pc' := 24) (by decide) rfl (by decide) ((fx_wE hm10 rfl).trans (fx_exV (mj := 11) (as := [(0, x1)]) (rest := []) rfl rk11 rfl rfl rfl rfl rfl)) h (fun y1 σ2 h => ?_)
    refine wi_if_eq (pc' := 27) (t := 64) hm10 rfl rfl rfl (fun hc => ?_) (fun hc => ?_)
    · replace h := h.1 hc
      refine wi_aload_n (pc' := 65) hm10 rfl rfl rfl (by decide) ?_
      refine wi_iload_n (pc' := 66) hm10 rfl rfl rfl ?_
      refine wc_I (pc' := 69) (by decide) rfl (by decide) ((fx_wE hm10 rfl).trans (fx_exV (mj := 12) (as := [(0, x1)]) (rest := []) rfl rk12 rfl rfl rfl rfl rfl)) h (fun y2 σ3 h => ?_)
      refine wi_if_eq (pc' := 72) (t := 138) hm10 rfl rfl rfl (fun hc => ?_) (fun hc => ?_)
      · replace h := h.1 hc
        refine wi_aload_n (pc' := 139) hm10 rfl rfl rfl (by decide) ?_
        refine wi_getR (pc' := 142) (x := 0) hm10 rfl rfl rfl (by omega) ?_
        refine wi_iload_n (pc' := 143) hm10 rfl rfl rfl ?_
        obtain ⟨g2, h⟩ := h
        refine wi_iaload (pc' := 144) hm10 rfl rfl rfl rfl (N := 400) rfl g2 ?_
        refine wi_bipush (pc' := 146) (v := 32) hm10 rfl rfl rfl ?_
        refine wi_ic_eq (pc' := 149) (t := 164) hm10 rfl rfl rfl (fun hc => ?_) (fun hc => ?_)
        · replace h := h.1 hc
          refine wi_iload_n (pc' := 165) hm10 rfl rfl rfl ?_
          refine wi_istore_n (pc' := 166) (L' := [(28, o0), (0, (x1 + 1)), (0, (x1 + 1)), w3]) hm10 rfl rfl rfl ?_
          refine wi_goto (t := 7) hm10 rfl rfl ?_
          exact h
        · replace h := h.2 hc
          refine wi_aload_n (pc' := 150) hm10 rfl rfl rfl (by decide) ?_
          refine wi_aload_n (pc' := 151) hm10 rfl rfl rfl (by decide) ?_
          refine wi_getR (pc' := 154) (x := 0) hm10 rfl rfl rfl (by omega) ?_
          refine wi_iload_n (pc' := 155) hm10 rfl rfl rfl ?_
          refine wi_iaload (pc' := 156) hm10 rfl rfl rfl rfl (N := 400) rfl g2 ?_
          refine wc_I (pc' := 159) (by decide) rfl (by decide) ((fx_wE hm10 rfl).trans (fx_exS (mj := 15) (as := [(0, (σ3 29 0 x1))]) (rest := [(28, o0)]) rfl rk15 rfl rfl rfl rfl)) h (fun y3 σ4 h => ?_)
          refine wi_iload_n (pc' := 160) hm10 rfl rfl rfl ?_
          refine wi_iconst (pc' := 161) (v := 0) hm10 rfl rfl rfl ?_
          refine wc_V (pc' := 164) (by decide) rfl (by decide) ((fx_wE hm10 rfl).trans (fx_exV (mj := 14) (as := [(0, y3), (0, x1), (0, 0)]) (rest := []) rfl rk14 rfl rfl rfl rfl rfl)) h (fun σ5 h => ?_)
          refine wi_iload_n (pc' := 165) hm10 rfl rfl rfl ?_
          refine wi_istore_n (pc' := 166) (L' := [(28, o0), (0, (x1 + 1)), (0, (x1 + 1)), w3]) hm10 rfl rfl rfl ?_
          refine wi_goto (t := 7) hm10 rfl rfl ?_
          exact h
      · replace h := h.2 hc
        exact h
    · replace h := h.2 hc
      exact h
theorem t10_27 {o0 x1 x2 : Int} {w3 : fx_V} {σ : fx_S} {Q : fx_V → fx_S → Prop} (h : (((σ 28 o0 4) ≤ x2 → fx_Wp 10 49 [(28, o0), (0, x1), (0, x2), w3] [] σ Q) ∧ (x2 < (σ 28 o0 4) → fx_CI 11 [(28, o0), (0, x2)] σ Q (fun y1 σ1 => ((y1 = 0 → fx_Wp 10 49 [(28, o0), (0, x1), (0, x2), w3] [] σ1 Q) ∧ (y1 ≠ 0 → (fx_rg (x2 + 1)) ∧ fx_Wp 10 27 [(28, o0), (0, x1), (0, (x2 + 1)), w3] [] σ1 Q)))))) : fx_Wp 10 27 [(28, o0), (0, x1), (0, x2), w3] [] σ Q := by
  refine wi_iload_n (pc' := 28) hm10 rfl rfl rfl ?_
  refine wi_aload_n (pc' := 29) hm10 rfl rfl rfl (by decide) ?_
  refine wi_getI (pc' := 32) hm10 rfl rfl (P := 4) rfl ?_
  refine wi_ic_ge (pc' := 35) (t := 49) hm10 rfl rfl rfl (fun hc => ?_) (fun hc => ?_)
  · replace h := h.1 hc
    exact h
  · replace h := h.2 hc
    refine wi_aload_n (pc' := 36) hm10 rfl rfl rfl (by decide) ?_
    refine wi_iload_n (pc' := 37) hm10 rfl rfl rfl ?_
    refine wc_I (pc' := 40) (by decide) rfl (by decide) ((fx_wE hm10 rfl).trans (fx_exV (mj := 11) (as := [(0, x2)]) (rest := []) rfl rk11 rfl rfl rfl rfl rfl)) h (fun y1 σ1 h => ?_)
    refine wi_if_eq (pc' := 43) (t := 49) hm10 rfl rfl rfl (fun hc => ?_) (fun hc => ?_)
    · replace h := h.1 hc
      exact h
    · replace h := h.2 hc
      obtain ⟨g1, h⟩ := h
      refine wi_iinc (pc' := 46) (L' := [(28, o0), (0, x1), (0, (x2 + 1)), w3]) hm10 rfl rfl rfl g1 rfl ?_
      refine wi_goto (t := 27) hm10 rfl rfl ?_
      exact h
theorem t10_49 {o0 x1 x2 : Int} {w3 : fx_V} {σ : fx_S} {Q : fx_V → fx_S → Prop} (h : fx_CI 16 [(28, o0), (0, x1), (0, x2)] σ Q (fun y1 σ1 => fx_CV 14 [(28, o0), (0, y1), (0, x1), (0, 0)] σ1 Q (fun σ2 => fx_Wp 10 7 [(28, o0), (0, x2), (0, x2), w3] [] σ2 Q))) : fx_Wp 10 49 [(28, o0), (0, x1), (0, x2), w3] [] σ Q := by
  refine wi_aload_n (pc' := 50) hm10 rfl rfl rfl (by decide) ?_
  refine wi_aload_n (pc' := 51) hm10 rfl rfl rfl (by decide) ?_
  refine wi_iload_n (pc' := 52) hm10 rfl rfl rfl ?_
  refine wi_iload_n (pc' := 53) hm10 rfl rfl rfl ?_
  refine wc_I (pc' := 56) (by decide) rfl (by decide) ((fx_wE hm10 rfl).trans (fx_exV (mj := 16) (as := [(0, x1), (0, x2)]) (rest := [(28, o0)]) rfl rk16 rfl rfl rfl rfl rfl)) h (fun y1 σ1 h => ?_)
  refine wi_iload_n (pc' := 57) hm10 rfl rfl rfl ?_
  refine wi_iconst (pc' := 58) (v := 0) hm10 rfl rfl rfl ?_
  refine wc_V (pc' := 61) (by decide) rfl (by decide) ((fx_wE hm10 rfl).trans (fx_exV (mj := 14) (as := [(0, y1), (0, x1), (0, 0)]) (rest := []) rfl rk14 rfl rfl rfl rfl rfl)) h (fun σ2 h => ?_)
  refine wi_goto (t := 164) hm10 rfl rfl ?_
  refine wi_iload_n (pc' := 165) hm10 rfl rfl rfl ?_
  refine wi_istore_n (pc' := 166) (L' := [(28, o0), (0, x2), (0, x2), w3]) hm10 rfl rfl rfl ?_
  refine wi_goto (t := 7) hm10 rfl rfl ?_
  exact h
theorem t10_72 {o0 x1 x2 : Int} {w3 : fx_V} {σ : fx_S} {Q : fx_V → fx_S → Prop} (h : (((σ 28 o0 4) ≤ x2 → fx_Wp 10 94 [(28, o0), (0, x1), (0, x2), w3] [] σ Q) ∧ (x2 < (σ 28 o0 4) → fx_CI 12 [(28, o0), (0, x2)] σ Q (fun y1 σ1 => ((y1 = 0 → fx_Wp 10 94 [(28, o0), (0, x1), (0, x2), w3] [] σ1 Q) ∧ (y1 ≠ 0 → (fx_rg (x2 + 1)) ∧ fx_Wp 10 72 [(28, o0), (0, x1), (0, (x2 + 1)), w3] [] σ1 Q)))))) : fx_Wp 10 72 [(28, o0), (0, x1), (0, x2), w3] [] σ Q := by
  refine wi_iload_n (pc' := 73) hm10 rfl rfl rfl ?_
  refine wi_aload_n (pc' := 74) hm10 rfl rfl rfl (by decide) ?_
  refine wi_getI (pc' := 77) hm10 rfl rfl (P := 4) rfl ?_
  refine wi_ic_ge (pc' := 80) (t := 94) hm10 rfl rfl rfl (fun hc => ?_) (fun hc => ?_)
  · replace h := h.1 hc
    exact h
  · replace h := h.2 hc
    refine wi_aload_n (pc' := 81) hm10 rfl rfl rfl (by decide) ?_
    refine wi_iload_n (pc' := 82) hm10 rfl rfl rfl ?_
    refine wc_I (pc' := 85) (by decide) rfl (by decide) ((fx_wE hm10 rfl).trans (fx_exV (mj := 12) (as := [(0, x2)]) (rest := []) rfl rk12 rfl rfl rfl rfl rfl)) h (fun y1 σ1 h => ?_)
    refine wi_if_eq (pc' := 88) (t := 94) hm10 rfl rfl rfl (fun hc => ?_) (fun hc => ?_)
    · replace h := h.1 hc
      exact h
    · replace h := h.2 hc
      obtain ⟨g1, h⟩ := h
      refine wi_iinc (pc' := 91) (L' := [(28, o0), (0, x1), (0, (x2 + 1)), w3]) hm10 rfl rfl rfl g1 rfl ?_
      refine wi_goto (t := 72) hm10 rfl rfl ?_
      exact h
theorem t10_94 {o0 x1 x2 : Int} {w3 : fx_V} {σ : fx_S} {Q : fx_V → fx_S → Prop} (h : (fx_rg (x2 - x1)) ∧ ((4 < (x2 - x1) → fx_CV 14 [(28, o0), (0, 2), (0, x1), (0, 0)] σ Q (fun σ1 => fx_Wp 10 7 [(28, o0), (0, x2), (0, x2), (0, 0)] [] σ1 Q)) ∧ ((x2 - x1) ≤ 4 → fx_CI 13 [(28, o0), (0, x1), (0, x2)] σ Q (fun y1 σ2 => fx_CV 14 [(28, o0), (0, 1), (0, x1), (0, y1)] σ2 Q (fun σ3 => fx_Wp 10 7 [(28, o0), (0, x2), (0, x2), (0, 1)] [] σ3 Q))))) : fx_Wp 10 94 [(28, o0), (0, x1), (0, x2), w3] [] σ Q := by
  refine wi_iload_n (pc' := 95) hm10 rfl rfl rfl ?_
  refine wi_iload_n (pc' := 96) hm10 rfl rfl rfl ?_
  obtain ⟨g1, h⟩ := h
  refine wi_isub (pc' := 97) hm10 rfl rfl g1 ?_
  refine wi_iconst (pc' := 98) (v := 4) hm10 rfl rfl rfl ?_
  refine wi_ic_gt (pc' := 101) (t := 105) hm10 rfl rfl rfl (fun hc => ?_) (fun hc => ?_)
  · replace h := h.1 hc
    refine wi_iconst (pc' := 106) (v := 0) hm10 rfl rfl rfl ?_
    refine wi_istore_n (pc' := 107) (L' := [(28, o0), (0, x1), (0, x2), (0, 0)]) hm10 rfl rfl rfl ?_
    refine wi_aload_n (pc' := 108) hm10 rfl rfl rfl (by decide) ?_
    refine wi_iload_n (pc' := 109) hm10 rfl rfl rfl ?_
    refine wi_if_eq (pc' := 112) (t := 116) hm10 rfl rfl rfl (fun _ => ?_) (fun hc => absurd hc (by decide))
    refine wi_iconst (pc' := 117) (v := 2) hm10 rfl rfl rfl ?_
    refine wi_iload_n (pc' := 118) hm10 rfl rfl rfl ?_
    refine wi_iload_n (pc' := 119) hm10 rfl rfl rfl ?_
    refine wi_if_eq (pc' := 122) (t := 131) hm10 rfl rfl rfl (fun _ => ?_) (fun hc => absurd hc (by decide))
    refine wi_iconst (pc' := 132) (v := 0) hm10 rfl rfl rfl ?_
    refine wc_V (pc' := 135) (by decide) rfl (by decide) ((fx_wE hm10 rfl).trans (fx_exV (mj := 14) (as := [(0, 2), (0, x1), (0, 0)]) (rest := []) rfl rk14 rfl rfl rfl rfl rfl)) h (fun σ1 h => ?_)
    refine wi_goto (t := 164) hm10 rfl rfl ?_
    refine wi_iload_n (pc' := 165) hm10 rfl rfl rfl ?_
    refine wi_istore_n (pc' := 166) (L' := [(28, o0), (0, x2), (0, x2), (0, 0)]) hm10 rfl rfl rfl ?_
    refine wi_goto (t := 7) hm10 rfl rfl ?_
    exact h
  · replace h := h.2 hc
    refine wi_iconst (pc' := 102) (v := 1) hm10 rfl rfl rfl ?_
    refine wi_goto (t := 106) hm10 rfl rfl ?_
    refine wi_istore_n (pc' := 107) (L' := [(28, o0), (0, x1), (0, x2), (0, 1)]) hm10 rfl rfl rfl ?_
    refine wi_aload_n (pc' := 108) hm10 rfl rfl rfl (by decide) ?_
    refine wi_iload_n (pc' := 109) hm10 rfl rfl rfl ?_
    refine wi_if_eq (pc' := 112) (t := 116) hm10 rfl rfl rfl (fun hc => absurd hc (by decide)) (fun _ => ?_)
    refine wi_iconst (pc' := 113) (v := 1) hm10 rfl rfl rfl ?_
    refine wi_goto (t := 117) hm10 rfl rfl ?_
    refine wi_iload_n (pc' := 118) hm10 rfl rfl rfl ?_
    refine wi_iload_n (pc' := 119) hm10 rfl rfl rfl ?_
    refine wi_if_eq (pc' := 122) (t := 131) hm10 rfl rfl rfl (fun hc => absurd hc (by decide)) (fun _ => ?_)
    refine wi_aload_n (pc' := 123) hm10 rfl rfl rfl (by decide) ?_
    refine wi_iload_n (pc' := 124) hm10 rfl rfl rfl ?_
    refine wi_iload_n (pc' := 125) hm10 rfl rfl rfl ?_
    refine wc_I (pc' := 128) (by decide) rfl (by decide) ((fx_wE hm10 rfl).trans (fx_exV (mj := 13) (as := [(0, x1), (0, x2)]) (rest := [(0, x1), (0, 1), (28, o0)]) rfl rk13 rfl rfl rfl rfl rfl)) h (fun y1 σ2 h => ?_)
    refine wi_goto (t := 132) hm10 rfl rfl ?_
    refine wc_V (pc' := 135) (by decide) rfl (by decide) ((fx_wE hm10 rfl).trans (fx_exV (mj := 14) (as := [(0, 1), (0, x1), (0, y1)]) (rest := []) rfl rk14 rfl rfl rfl rfl rfl)) h (fun σ3 h => ?_)
    refine wi_goto (t := 164) hm10 rfl rfl ?_
    refine wi_iload_n (pc' := 165) hm10 rfl rfl rfl ?_
    refine wi_istore_n (pc' := 166) (L' := [(28, o0), (0, x2), (0, x2), (0, 1)]) hm10 rfl rfl rfl ?_
    refine wi_goto (t := 7) hm10 rfl rfl ?_
    exact h
theorem hm11 : fx_code 11 = fx_c11 := rfl
theorem t11_0 {o0 x1 : Int} {σ : fx_S} {Q : fx_V → fx_S → Prop} (h : (0 ≤ x1 ∧ x1 < 400) ∧ (((σ 29 0 x1) < 97 → Q (0, 0) σ) ∧ (97 ≤ (σ 29 0 x1) → ((122 < (σ 29 0 x1) → Q (0, 0) σ) ∧ ((σ 29 0 x1) ≤ 122 → Q (0, 1) σ))))) : fx_Ca 11 [(28, o0), (0, x1)] σ Q := by
  show fx_Wp 11 0 [(28, o0), (0, x1)] [] σ Q
  refine wi_aload_n (pc' := 1) hm11 rfl rfl rfl (by decide) ?_
  refine wi_getR (pc' := 4) (x := 0) hm11 rfl rfl rfl (by omega) ?_
  refine wi_iload_n (pc' := 5) hm11 rfl rfl rfl ?_
  obtain ⟨g1, h⟩ := h
  refine wi_iaload (pc' := 6) hm11 rfl rfl rfl rfl (N := 400) rfl g1 ?_
  refine wi_bipush (pc' := 8) (v := 97) hm11 rfl rfl rfl ?_
  refine wi_ic_lt (pc' := 11) (t := 26) hm11 rfl rfl rfl (fun hc => ?_) (fun hc => ?_)
  · replace h := h.1 hc
    refine wi_iconst (pc' := 27) (v := 0) hm11 rfl rfl rfl ?_
    exact wi_zret hm11 rfl (by decide) h
  · replace h := h.2 hc
    refine wi_aload_n (pc' := 12) hm11 rfl rfl rfl (by decide) ?_
    refine wi_getR (pc' := 15) (x := 0) hm11 rfl rfl rfl (by omega) ?_
    refine wi_iload_n (pc' := 16) hm11 rfl rfl rfl ?_
    refine wi_iaload (pc' := 17) hm11 rfl rfl rfl rfl (N := 400) rfl g1 ?_
    refine wi_bipush (pc' := 19) (v := 122) hm11 rfl rfl rfl ?_
    refine wi_ic_gt (pc' := 22) (t := 26) hm11 rfl rfl rfl (fun hc => ?_) (fun hc => ?_)
    · replace h := h.1 hc
      refine wi_iconst (pc' := 27) (v := 0) hm11 rfl rfl rfl ?_
      exact wi_zret hm11 rfl (by decide) h
    · replace h := h.2 hc
      refine wi_iconst (pc' := 23) (v := 1) hm11 rfl rfl rfl ?_
      refine wi_goto (t := 27) hm11 rfl rfl ?_
      exact wi_zret hm11 rfl (by decide) h
theorem hm12 : fx_code 12 = fx_c12 := rfl
theorem t12_0 {o0 x1 : Int} {σ : fx_S} {Q : fx_V → fx_S → Prop} (h : (0 ≤ x1 ∧ x1 < 400) ∧ (((σ 29 0 x1) < 48 → Q (0, 0) σ) ∧ (48 ≤ (σ 29 0 x1) → ((57 < (σ 29 0 x1) → Q (0, 0) σ) ∧ ((σ 29 0 x1) ≤ 57 → Q (0, 1) σ))))) : fx_Ca 12 [(28, o0), (0, x1)] σ Q := by
  show fx_Wp 12 0 [(28, o0), (0, x1)] [] σ Q
  refine wi_aload_n (pc' := 1) hm12 rfl rfl rfl (by decide) ?_
  refine wi_getR (pc' := 4) (x := 0) hm12 rfl rfl rfl (by omega) ?_
  refine wi_iload_n (pc' := 5) hm12 rfl rfl rfl ?_
  obtain ⟨g1, h⟩ := h
  refine wi_iaload (pc' := 6) hm12 rfl rfl rfl rfl (N := 400) rfl g1 ?_
  refine wi_bipush (pc' := 8) (v := 48) hm12 rfl rfl rfl ?_
  refine wi_ic_lt (pc' := 11) (t := 26) hm12 rfl rfl rfl (fun hc => ?_) (fun hc => ?_)
  · replace h := h.1 hc
    refine wi_iconst (pc' := 27) (v := 0) hm12 rfl rfl rfl ?_
    exact wi_zret hm12 rfl (by decide) h
  · replace h := h.2 hc
    refine wi_aload_n (pc' := 12) hm12 rfl rfl rfl (by decide) ?_
    refine wi_getR (pc' := 15) (x := 0) hm12 rfl rfl rfl (by omega) ?_
    refine wi_iload_n (pc' := 16) hm12 rfl rfl rfl ?_
    refine wi_iaload (pc' := 17) hm12 rfl rfl rfl rfl (N := 400) rfl g1 ?_
    refine wi_bipush (pc' := 19) (v := 57) hm12 rfl rfl rfl ?_
    refine wi_ic_gt (pc' := 22) (t := 26) hm12 rfl rfl rfl (fun hc => ?_) (fun hc => ?_)
    · replace h := h.1 hc
      refine wi_iconst (pc' := 27) (v := 0) hm12 rfl rfl rfl ?_
      exact wi_zret hm12 rfl (by decide) h
    · replace h := h.2 hc
      refine wi_iconst (pc' := 23) (v := 1) hm12 rfl rfl rfl ?_
      refine wi_goto (t := 27) hm12 rfl rfl ?_
      exact wi_zret hm12 rfl (by decide) h
theorem hm13 : fx_code 13 = fx_c13 := rfl
theorem t13_0 {o0 x1 x2 : Int} {σ : fx_S} {Q : fx_V → fx_S → Prop} (h : fx_Wp 13 5 [(28, o0), (0, x1), (0, x2), (0, 0), (0, x1)] [] σ Q) : fx_Ca 13 [(28, o0), (0, x1), (0, x2)] σ Q := by
  show fx_Wp 13 0 [(28, o0), (0, x1), (0, x2), (3, 0), (3, 0)] [] σ Q
  refine wi_iconst (pc' := 1) (v := 0) hm13 rfl rfl rfl ?_
  refine wi_istore_n (pc' := 2) (L' := [(28, o0), (0, x1), (0, x2), (0, 0), (3, 0)]) hm13 rfl rfl rfl ?_
  refine wi_iload_n (pc' := 3) hm13 rfl rfl rfl ?_
  refine wi_istore (pc' := 5) (L' := [(28, o0), (0, x1), (0, x2), (0, 0), (0, x1)]) hm13 rfl rfl rfl ?_
  exact h
theorem t13_5 {o0 x2 x3 x4 : Int} {w1 : fx_V} {σ : fx_S} {Q : fx_V → fx_S → Prop} (h : ((x2 ≤ x4 → Q (0, x3) σ) ∧ (x4 < x2 → (fx_rg (x3 * 10)) ∧ (0 ≤ x4 ∧ x4 < 400) ∧ (fx_rg ((x3 * 10) + (σ 29 0 x4))) ∧ (fx_rg (((x3 * 10) + (σ 29 0 x4)) - 48)) ∧ (fx_rg (x4 + 1)) ∧ fx_Wp 13 5 [(28, o0), w1, (0, x2), (0, (((x3 * 10) + (σ 29 0 x4)) - 48)), (0, (x4 + 1))] [] σ Q))) : fx_Wp 13 5 [(28, o0), w1, (0, x2), (0, x3), (0, x4)] [] σ Q := by
  refine wi_iload (pc' := 7) hm13 rfl rfl rfl ?_
  refine wi_iload_n (pc' := 8) hm13 rfl rfl rfl ?_
  refine wi_ic_ge (pc' := 11) (t := 33) hm13 rfl rfl rfl (fun hc => ?_) (fun hc => ?_)
  · replace h := h.1 hc
    refine wi_iload_n (pc' := 34) hm13 rfl rfl rfl ?_
    exact wi_iret hm13 rfl h
  · replace h := h.2 hc
    refine wi_iload_n (pc' := 12) hm13 rfl rfl rfl ?_
    refine wi_bipush (pc' := 14) (v := 10) hm13 rfl rfl rfl ?_
    obtain ⟨g1, h⟩ := h
    refine wi_imul (pc' := 15) hm13 rfl rfl g1 ?_
    refine wi_aload_n (pc' := 16) hm13 rfl rfl rfl (by decide) ?_
    refine wi_getR (pc' := 19) (x := 0) hm13 rfl rfl rfl (by omega) ?_
    refine wi_iload (pc' := 21) hm13 rfl rfl rfl ?_
    obtain ⟨g2, h⟩ := h
    refine wi_iaload (pc' := 22) hm13 rfl rfl rfl rfl (N := 400) rfl g2 ?_
    obtain ⟨g3, h⟩ := h
    refine wi_iadd (pc' := 23) hm13 rfl rfl g3 ?_
    refine wi_bipush (pc' := 25) (v := 48) hm13 rfl rfl rfl ?_
    obtain ⟨g4, h⟩ := h
    refine wi_isub (pc' := 26) hm13 rfl rfl g4 ?_
    refine wi_istore_n (pc' := 27) (L' := [(28, o0), w1, (0, x2), (0, (((x3 * 10) + (σ 29 0 x4)) - 48)), (0, x4)]) hm13 rfl rfl rfl ?_
    obtain ⟨g5, h⟩ := h
    refine wi_iinc (pc' := 30) (L' := [(28, o0), w1, (0, x2), (0, (((x3 * 10) + (σ 29 0 x4)) - 48)), (0, (x4 + 1))]) hm13 rfl rfl rfl g5 rfl ?_
    refine wi_goto (t := 5) hm13 rfl rfl ?_
    exact h
theorem hm14 : fx_code 14 = fx_c14 := rfl
theorem t14_0 {o0 x1 x2 x3 : Int} {σ : fx_S} {Q : fx_V → fx_S → Prop} (h : ((401 ≤ (σ 28 o0 5) → Q (4, 0) σ) ∧ ((σ 28 o0 5) < 401 → (0 ≤ (σ 28 o0 5) ∧ (σ 28 o0 5) < 401) ∧ (fx_rg ((σ 28 o0 5) + 1)) ∧ Q (4, 0) (fx_up (fx_up (fx_up (fx_up σ 30 0 (σ 28 o0 5) x1) 31 0 (σ 28 o0 5) x2) 32 0 (σ 28 o0 5) x3) 28 o0 5 ((σ 28 o0 5) + 1))))) : fx_Ca 14 [(28, o0), (0, x1), (0, x2), (0, x3)] σ Q := by
  show fx_Wp 14 0 [(28, o0), (0, x1), (0, x2), (0, x3)] [] σ Q
  refine wi_aload_n (pc' := 1) hm14 rfl rfl rfl (by decide) ?_
  refine wi_getI (pc' := 4) hm14 rfl rfl (P := 5) rfl ?_
  refine wi_aload_n (pc' := 5) hm14 rfl rfl rfl (by decide) ?_
  refine wi_getR (pc' := 8) (x := 0) hm14 rfl rfl rfl (by omega) ?_
  refine wi_alen (pc' := 9) hm14 rfl rfl (N := 401) rfl rfl rfl ?_
  refine wi_ic_ge (pc' := 12) (t := 52) hm14 rfl rfl rfl (fun hc => ?_) (fun hc => ?_)
  · replace h := h.1 hc
    exact wi_vret hm14 rfl h
  · replace h := h.2 hc
    refine wi_aload_n (pc' := 13) hm14 rfl rfl rfl (by decide) ?_
    refine wi_getR (pc' := 16) (x := 0) hm14 rfl rfl rfl (by omega) ?_
    refine wi_aload_n (pc' := 17) hm14 rfl rfl rfl (by decide) ?_
    refine wi_getI (pc' := 20) hm14 rfl rfl (P := 5) rfl ?_
    refine wi_iload_n (pc' := 21) hm14 rfl rfl rfl ?_
    obtain ⟨g1, h⟩ := h
    refine wi_iastore (pc' := 22) hm14 rfl rfl rfl (N := 401) rfl g1 ?_
    refine wi_aload_n (pc' := 23) hm14 rfl rfl rfl (by decide) ?_
    refine wi_getR (pc' := 26) (x := 0) hm14 rfl rfl rfl (by omega) ?_
    refine wi_aload_n (pc' := 27) hm14 rfl rfl rfl (by decide) ?_
    refine wi_getIe (pc' := 30) hm14 rfl rfl (P := 5) rfl (x := (σ 28 o0 5)) (Eq.trans (fx_upK rfl) rfl) ?_
    refine wi_iload_n (pc' := 31) hm14 rfl rfl rfl ?_
    refine wi_iastore (pc' := 32) hm14 rfl rfl rfl (N := 401) rfl g1 ?_
    refine wi_aload_n (pc' := 33) hm14 rfl rfl rfl (by decide) ?_
    refine wi_getR (pc' := 36) (x := 0) hm14 rfl rfl rfl (by omega) ?_
    refine wi_aload_n (pc' := 37) hm14 rfl rfl rfl (by decide) ?_
    refine wi_getIe (pc' := 40) hm14 rfl rfl (P := 5) rfl (x := (σ 28 o0 5)) (Eq.trans (fx_upK rfl) (Eq.trans (fx_upK rfl) rfl)) ?_
    refine wi_iload_n (pc' := 41) hm14 rfl rfl rfl ?_
    refine wi_iastore (pc' := 42) hm14 rfl rfl rfl (N := 401) rfl g1 ?_
    refine wi_aload_n (pc' := 43) hm14 rfl rfl rfl (by decide) ?_
    refine wi_dup (pc' := 44) hm14 rfl rfl rfl ?_
    refine wi_getIe (pc' := 47) hm14 rfl rfl (P := 5) rfl (x := (σ 28 o0 5)) (Eq.trans (fx_upK rfl) (Eq.trans (fx_upK rfl) (Eq.trans (fx_upK rfl) rfl))) ?_
    refine wi_iconst (pc' := 48) (v := 1) hm14 rfl rfl rfl ?_
    obtain ⟨g2, h⟩ := h
    refine wi_iadd (pc' := 49) hm14 rfl rfl g2 ?_
    refine wi_putI (pc' := 52) hm14 rfl rfl (P := 5) rfl ?_
    exact wi_vret hm14 rfl h
theorem hm15 : fx_code 15 = fx_c15 := rfl
theorem t15_0 {x0 : Int} {σ : fx_S} {Q : fx_V → fx_S → Prop} (h : ((x0 = 40 → Q (0, 4) σ) ∧ (x0 ≠ 40 → ((x0 = 41 → Q (0, 5) σ) ∧ (x0 ≠ 41 → ((x0 = 43 → Q (0, 6) σ) ∧ (x0 ≠ 43 → ((x0 = 45 → Q (0, 7) σ) ∧ (x0 ≠ 45 → ((x0 = 59 → Q (0, 3) σ) ∧ (x0 ≠ 59 → Q (0, 2) σ))))))))))) : fx_Ca 15 [(0, x0)] σ Q := by
  show fx_Wp 15 0 [(0, x0)] [] σ Q
  refine wi_iload_n (pc' := 1) hm15 rfl rfl rfl ?_
  refine wi_lsw hm15 rfl ?_
  refine fx_swc (fun hc => ?_) (fun hc => ?_)
  · replace h := h.1 hc
    refine wi_iconst (pc' := 55) (v := 4) hm15 rfl rfl rfl ?_
    exact wi_iret hm15 rfl h
  · replace h := h.2 hc
    refine fx_swc (fun hc => ?_) (fun hc => ?_)
    · replace h := h.1 hc
      refine wi_iconst (pc' := 57) (v := 5) hm15 rfl rfl rfl ?_
      exact wi_iret hm15 rfl h
    · replace h := h.2 hc
      refine fx_swc (fun hc => ?_) (fun hc => ?_)
      · replace h := h.1 hc
        refine wi_bipush (pc' := 60) (v := 6) hm15 rfl rfl rfl ?_
        exact wi_iret hm15 rfl h
      · replace h := h.2 hc
        refine fx_swc (fun hc => ?_) (fun hc => ?_)
        · replace h := h.1 hc
          refine wi_bipush (pc' := 63) (v := 7) hm15 rfl rfl rfl ?_
          exact wi_iret hm15 rfl h
        · replace h := h.2 hc
          refine fx_swc (fun hc => ?_) (fun hc => ?_)
          · replace h := h.1 hc
            refine wi_iconst (pc' := 53) (v := 3) hm15 rfl rfl rfl ?_
            exact wi_iret hm15 rfl h
          · replace h := h.2 hc
            refine fx_swn ?_
            refine wi_iconst (pc' := 65) (v := 2) hm15 rfl rfl rfl ?_
            exact wi_iret hm15 rfl h
theorem hm16 : fx_code 16 = fx_c16 := rfl
theorem t16_0 {o0 x1 x2 : Int} {σ : fx_S} {Q : fx_V → fx_S → Prop} (h : fx_CI 17 [(28, o0), (0, x1), (0, x2)] σ Q (fun y1 σ1 => ((y1 = 2 → fx_CI 18 [(28, o0), (0, x1), (0, x2)] σ1 Q (fun y2 σ2 => Q (0, y2) σ2)) ∧ (y1 ≠ 2 → Q (0, y1) σ1)))) : fx_Ca 16 [(28, o0), (0, x1), (0, x2)] σ Q := by
  show fx_Wp 16 0 [(28, o0), (0, x1), (0, x2), (3, 0)] [] σ Q
  refine wi_aload_n (pc' := 1) hm16 rfl rfl rfl (by decide) ?_
  refine wi_iload_n (pc' := 2) hm16 rfl rfl rfl ?_
  refine wi_iload_n (pc' := 3) hm16 rfl rfl rfl ?_
  refine wc_I (pc' := 6) (by decide) rfl (by decide) ((fx_wE hm16 rfl).trans (fx_exV (mj := 17) (as := [(0, x1), (0, x2)]) (rest := []) rfl rk17 rfl rfl rfl rfl rfl)) h (fun y1 σ1 h => ?_)
  refine wi_istore_n (pc' := 7) (L' := [(28, o0), (0, x1), (0, x2), (0, y1)]) hm16 rfl rfl rfl ?_
  refine wi_iload_n (pc' := 8) hm16 rfl rfl rfl ?_
  refine wi_iconst (pc' := 9) (v := 2) hm16 rfl rfl rfl ?_
  refine wi_ic_eq (pc' := 12) (t := 16) hm16 rfl rfl rfl (fun hc => ?_) (fun hc => ?_)
  · replace h := h.1 hc
    refine wi_aload_n (pc' := 17) hm16 rfl rfl rfl (by decide) ?_
    refine wi_iload_n (pc' := 18) hm16 rfl rfl rfl ?_
    refine wi_iload_n (pc' := 19) hm16 rfl rfl rfl ?_
    refine wc_I (pc' := 22) (by decide) rfl (by decide) ((fx_wE hm16 rfl).trans (fx_exV (mj := 18) (as := [(0, x1), (0, x2)]) (rest := []) rfl rk18 rfl rfl rfl rfl rfl)) h (fun y2 σ2 h => ?_)
    exact wi_iret hm16 rfl h
  · replace h := h.2 hc
    refine wi_iload_n (pc' := 13) hm16 rfl rfl rfl ?_
    refine wi_goto (t := 22) hm16 rfl rfl ?_
    exact wi_iret hm16 rfl h
theorem hm17 : fx_code 17 = fx_c17 := rfl
theorem t17_0 {o0 x1 x2 : Int} {σ : fx_S} {Q : fx_V → fx_S → Prop} (h : fx_CI 19 [(28, o0), (0, x1), (0, x2), (62, 0)] σ Q (fun y1 σ1 => ((y1 = 0 → fx_CI 19 [(28, o0), (0, x1), (0, x2), (62, 1)] σ1 Q (fun y2 σ2 => ((y2 = 0 → fx_CI 19 [(28, o0), (0, x1), (0, x2), (62, 2)] σ2 Q (fun y3 σ3 => ((y3 = 0 → fx_CI 19 [(28, o0), (0, x1), (0, x2), (62, 3)] σ3 Q (fun y4 σ4 => ((y4 = 0 → fx_CI 19 [(28, o0), (0, x1), (0, x2), (62, 4)] σ4 Q (fun y5 σ5 => ((y5 = 0 → fx_CI 19 [(28, o0), (0, x1), (0, x2), (62, 5)] σ5 Q (fun y6 σ6 => ((y6 = 0 → fx_CI 19 [(28, o0), (0, x1), (0, x2), (62, 6)] σ6 Q (fun y7 σ7 => ((y7 = 0 → fx_CI 19 [(28, o0), (0, x1), (0, x2), (62, 7)] σ7 Q (fun y8 σ8 => ((y8 = 0 → Q (0, 2) σ8) ∧ (y8 ≠ 0 → Q (0, 24) σ8)))) ∧ (y7 ≠ 0 → Q (0, 23) σ7)))) ∧ (y6 ≠ 0 → Q (0, 22) σ6)))) ∧ (y5 ≠ 0 → Q (0, 21) σ5)))) ∧ (y4 ≠ 0 → Q (0, 20) σ4)))) ∧ (y3 ≠ 0 → Q (0, 19) σ3)))) ∧ (y2 ≠ 0 → Q (0, 18) σ2)))) ∧ (y1 ≠ 0 → Q (0, 17) σ1)))) : fx_Ca 17 [(28, o0), (0, x1), (0, x2)] σ Q := by
  show fx_Wp 17 0 [(28, o0), (0, x1), (0, x2)] [] σ Q
  refine wi_aload_n (pc' := 1) hm17 rfl rfl rfl (by decide) ?_
  refine wi_iload_n (pc' := 2) hm17 rfl rfl rfl ?_
  refine wi_iload_n (pc' := 3) hm17 rfl rfl rfl ?_
  refine wi_ldc (pc' := 5) (v := 0) hm17 rfl rfl rfl rfl ?_
  refine wc_I (pc' := 8) (by decide) rfl (by decide) ((fx_wE hm17 rfl).trans (fx_exV (mj := 19) (as := [(0, x1), (0, x2), (62, 0)]) (rest := []) rfl rk19 rfl rfl rfl rfl rfl)) h (fun y1 σ1 h => ?_)
  refine wi_if_eq (pc' := 11) (t := 14) hm17 rfl rfl rfl (fun hc => ?_) (fun hc => ?_)
  · replace h := h.1 hc
    refine wi_aload_n (pc' := 15) hm17 rfl rfl rfl (by decide) ?_
    refine wi_iload_n (pc' := 16) hm17 rfl rfl rfl ?_
    refine wi_iload_n (pc' := 17) hm17 rfl rfl rfl ?_
    refine wi_ldc (pc' := 19) (v := 1) hm17 rfl rfl rfl rfl ?_
    refine wc_I (pc' := 22) (by decide) rfl (by decide) ((fx_wE hm17 rfl).trans (fx_exV (mj := 19) (as := [(0, x1), (0, x2), (62, 1)]) (rest := []) rfl rk19 rfl rfl rfl rfl rfl)) h (fun y2 σ2 h => ?_)
    refine wi_if_eq (pc' := 25) (t := 28) hm17 rfl rfl rfl (fun hc => ?_) (fun hc => ?_)
    · replace h := h.1 hc
      refine wi_aload_n (pc' := 29) hm17 rfl rfl rfl (by decide) ?_
      refine wi_iload_n (pc' := 30) hm17 rfl rfl rfl ?_
      refine wi_iload_n (pc' := 31) hm17 rfl rfl rfl ?_
      refine wi_ldc (pc' := 33) (v := 2) hm17 rfl rfl rfl rfl ?_
      refine wc_I (pc' := 36) (by decide) rfl (by decide) ((fx_wE hm17 rfl).trans (fx_exV (mj := 19) (as := [(0, x1), (0, x2), (62, 2)]) (rest := []) rfl rk19 rfl rfl rfl rfl rfl)) h (fun y3 σ3 h => ?_)
      refine wi_if_eq (pc' := 39) (t := 42) hm17 rfl rfl rfl (fun hc => ?_) (fun hc => ?_)
      · replace h := h.1 hc
        refine wi_aload_n (pc' := 43) hm17 rfl rfl rfl (by decide) ?_
        refine wi_iload_n (pc' := 44) hm17 rfl rfl rfl ?_
        refine wi_iload_n (pc' := 45) hm17 rfl rfl rfl ?_
        refine wi_ldc (pc' := 47) (v := 3) hm17 rfl rfl rfl rfl ?_
        refine wc_I (pc' := 50) (by decide) rfl (by decide) ((fx_wE hm17 rfl).trans (fx_exV (mj := 19) (as := [(0, x1), (0, x2), (62, 3)]) (rest := []) rfl rk19 rfl rfl rfl rfl rfl)) h (fun y4 σ4 h => ?_)
        refine wi_if_eq (pc' := 53) (t := 56) hm17 rfl rfl rfl (fun hc => ?_) (fun hc => ?_)
        · replace h := h.1 hc
          refine wi_aload_n (pc' := 57) hm17 rfl rfl rfl (by decide) ?_
          refine wi_iload_n (pc' := 58) hm17 rfl rfl rfl ?_
          refine wi_iload_n (pc' := 59) hm17 rfl rfl rfl ?_
          refine wi_ldc (pc' := 61) (v := 4) hm17 rfl rfl rfl rfl ?_
          refine wc_I (pc' := 64) (by decide) rfl (by decide) ((fx_wE hm17 rfl).trans (fx_exV (mj := 19) (as := [(0, x1), (0, x2), (62, 4)]) (rest := []) rfl rk19 rfl rfl rfl rfl rfl)) h (fun y5 σ5 h => ?_)
          refine wi_if_eq (pc' := 67) (t := 70) hm17 rfl rfl rfl (fun hc => ?_) (fun hc => ?_)
          · replace h := h.1 hc
            refine wi_aload_n (pc' := 71) hm17 rfl rfl rfl (by decide) ?_
            refine wi_iload_n (pc' := 72) hm17 rfl rfl rfl ?_
            refine wi_iload_n (pc' := 73) hm17 rfl rfl rfl ?_
            refine wi_ldc (pc' := 75) (v := 5) hm17 rfl rfl rfl rfl ?_
            refine wc_I (pc' := 78) (by decide) rfl (by decide) ((fx_wE hm17 rfl).trans (fx_exV (mj := 19) (as := [(0, x1), (0, x2), (62, 5)]) (rest := []) rfl rk19 rfl rfl rfl rfl rfl)) h (fun y6 σ6 h => ?_)
            refine wi_if_eq (pc' := 81) (t := 84) hm17 rfl rfl rfl (fun hc => ?_) (fun hc => ?_)
            · replace h := h.1 hc
              refine wi_aload_n (pc' := 85) hm17 rfl rfl rfl (by decide) ?_
              refine wi_iload_n (pc' := 86) hm17 rfl rfl rfl ?_
              refine wi_iload_n (pc' := 87) hm17 rfl rfl rfl ?_
              refine wi_ldc (pc' := 89) (v := 6) hm17 rfl rfl rfl rfl ?_
              refine wc_I (pc' := 92) (by decide) rfl (by decide) ((fx_wE hm17 rfl).trans (fx_exV (mj := 19) (as := [(0, x1), (0, x2), (62, 6)]) (rest := []) rfl rk19 rfl rfl rfl rfl rfl)) h (fun y7 σ7 h => ?_)
              refine wi_if_eq (pc' := 95) (t := 98) hm17 rfl rfl rfl (fun hc => ?_) (fun hc => ?_)
              · replace h := h.1 hc
                refine wi_aload_n (pc' := 99) hm17 rfl rfl rfl (by decide) ?_
                refine wi_iload_n (pc' := 100) hm17 rfl rfl rfl ?_
                refine wi_iload_n (pc' := 101) hm17 rfl rfl rfl ?_
                refine wi_ldc (pc' := 103) (v := 7) hm17 rfl rfl rfl rfl ?_
                refine wc_I (pc' := 106) (by decide) rfl (by decide) ((fx_wE hm17 rfl).trans (fx_exV (mj := 19) (as := [(0, x1), (0, x2), (62, 7)]) (rest := []) rfl rk19 rfl rfl rfl rfl rfl)) h (fun y8 σ8 h => ?_)
                refine wi_if_eq (pc' := 109) (t := 114) hm17 rfl rfl rfl (fun hc => ?_) (fun hc => ?_)
                · replace h := h.1 hc
                  refine wi_iconst (pc' := 115) (v := 2) hm17 rfl rfl rfl ?_
                  exact wi_iret hm17 rfl h
                · replace h := h.2 hc
                  refine wi_bipush (pc' := 111) (v := 24) hm17 rfl rfl rfl ?_
                  refine wi_goto (t := 115) hm17 rfl rfl ?_
                  exact wi_iret hm17 rfl h
              · replace h := h.2 hc
                refine wi_bipush (pc' := 97) (v := 23) hm17 rfl rfl rfl ?_
                exact wi_iret hm17 rfl h
            · replace h := h.2 hc
              refine wi_bipush (pc' := 83) (v := 22) hm17 rfl rfl rfl ?_
              exact wi_iret hm17 rfl h
          · replace h := h.2 hc
            refine wi_bipush (pc' := 69) (v := 21) hm17 rfl rfl rfl ?_
            exact wi_iret hm17 rfl h
        · replace h := h.2 hc
          refine wi_bipush (pc' := 55) (v := 20) hm17 rfl rfl rfl ?_
          exact wi_iret hm17 rfl h
      · replace h := h.2 hc
        refine wi_bipush (pc' := 41) (v := 19) hm17 rfl rfl rfl ?_
        exact wi_iret hm17 rfl h
    · replace h := h.2 hc
      refine wi_bipush (pc' := 27) (v := 18) hm17 rfl rfl rfl ?_
      exact wi_iret hm17 rfl h
  · replace h := h.2 hc
    refine wi_bipush (pc' := 13) (v := 17) hm17 rfl rfl rfl ?_
    exact wi_iret hm17 rfl h
theorem hm18 : fx_code 18 = fx_c18 := rfl
theorem t18_0 {o0 x1 x2 : Int} {σ : fx_S} {Q : fx_V → fx_S → Prop} (h : fx_CI 19 [(28, o0), (0, x1), (0, x2), (62, 8)] σ Q (fun y1 σ1 => ((y1 = 0 → fx_CI 19 [(28, o0), (0, x1), (0, x2), (62, 9)] σ1 Q (fun y2 σ2 => ((y2 = 0 → fx_CI 19 [(28, o0), (0, x1), (0, x2), (62, 10)] σ2 Q (fun y3 σ3 => ((y3 = 0 → fx_CI 19 [(28, o0), (0, x1), (0, x2), (62, 11)] σ3 Q (fun y4 σ4 => ((y4 = 0 → fx_CI 19 [(28, o0), (0, x1), (0, x2), (62, 12)] σ4 Q (fun y5 σ5 => ((y5 = 0 → fx_CI 19 [(28, o0), (0, x1), (0, x2), (62, 13)] σ5 Q (fun y6 σ6 => ((y6 = 0 → fx_CI 19 [(28, o0), (0, x1), (0, x2), (62, 14)] σ6 Q (fun y7 σ7 => ((y7 = 0 → fx_CI 19 [(28, o0), (0, x1), (0, x2), (62, 15)] σ7 Q (fun y8 σ8 => ((y8 = 0 → fx_CI 19 [(28, o0), (0, x1), (0, x2), (62, 16)] σ8 Q (fun y9 σ9 => ((y9 = 0 → Q (0, 2) σ9) ∧ (y9 ≠ 0 → Q (0, 16) σ9)))) ∧ (y8 ≠ 0 → Q (0, 15) σ8)))) ∧ (y7 ≠ 0 → Q (0, 14) σ7)))) ∧ (y6 ≠ 0 → Q (0, 12) σ6)))) ∧ (y5 ≠ 0 → Q (0, 11) σ5)))) ∧ (y4 ≠ 0 → Q (0, 10) σ4)))) ∧ (y3 ≠ 0 → Q (0, 9) σ3)))) ∧ (y2 ≠ 0 → Q (0, 8) σ2)))) ∧ (y1 ≠ 0 → Q (0, 13) σ1)))) : fx_Ca 18 [(28, o0), (0, x1), (0, x2)] σ Q := by
  show fx_Wp 18 0 [(28, o0), (0, x1), (0, x2)] [] σ Q
  refine wi_aload_n (pc' := 1) hm18 rfl rfl rfl (by decide) ?_
  refine wi_iload_n (pc' := 2) hm18 rfl rfl rfl ?_
  refine wi_iload_n (pc' := 3) hm18 rfl rfl rfl ?_
  refine wi_ldc (pc' := 5) (v := 8) hm18 rfl rfl rfl rfl ?_
  refine wc_I (pc' := 8) (by decide) rfl (by decide) ((fx_wE hm18 rfl).trans (fx_exV (mj := 19) (as := [(0, x1), (0, x2), (62, 8)]) (rest := []) rfl rk19 rfl rfl rfl rfl rfl)) h (fun y1 σ1 h => ?_)
  refine wi_if_eq (pc' := 11) (t := 14) hm18 rfl rfl rfl (fun hc => ?_) (fun hc => ?_)
  · replace h := h.1 hc
    refine wi_aload_n (pc' := 15) hm18 rfl rfl rfl (by decide) ?_
    refine wi_iload_n (pc' := 16) hm18 rfl rfl rfl ?_
    refine wi_iload_n (pc' := 17) hm18 rfl rfl rfl ?_
    refine wi_ldc (pc' := 19) (v := 9) hm18 rfl rfl rfl rfl ?_
    refine wc_I (pc' := 22) (by decide) rfl (by decide) ((fx_wE hm18 rfl).trans (fx_exV (mj := 19) (as := [(0, x1), (0, x2), (62, 9)]) (rest := []) rfl rk19 rfl rfl rfl rfl rfl)) h (fun y2 σ2 h => ?_)
    refine wi_if_eq (pc' := 25) (t := 28) hm18 rfl rfl rfl (fun hc => ?_) (fun hc => ?_)
    · replace h := h.1 hc
      refine wi_aload_n (pc' := 29) hm18 rfl rfl rfl (by decide) ?_
      refine wi_iload_n (pc' := 30) hm18 rfl rfl rfl ?_
      refine wi_iload_n (pc' := 31) hm18 rfl rfl rfl ?_
      refine wi_ldc (pc' := 33) (v := 10) hm18 rfl rfl rfl rfl ?_
      refine wc_I (pc' := 36) (by decide) rfl (by decide) ((fx_wE hm18 rfl).trans (fx_exV (mj := 19) (as := [(0, x1), (0, x2), (62, 10)]) (rest := []) rfl rk19 rfl rfl rfl rfl rfl)) h (fun y3 σ3 h => ?_)
      refine wi_if_eq (pc' := 39) (t := 42) hm18 rfl rfl rfl (fun hc => ?_) (fun hc => ?_)
      · replace h := h.1 hc
        refine wi_aload_n (pc' := 43) hm18 rfl rfl rfl (by decide) ?_
        refine wi_iload_n (pc' := 44) hm18 rfl rfl rfl ?_
        refine wi_iload_n (pc' := 45) hm18 rfl rfl rfl ?_
        refine wi_ldc (pc' := 47) (v := 11) hm18 rfl rfl rfl rfl ?_
        refine wc_I (pc' := 50) (by decide) rfl (by decide) ((fx_wE hm18 rfl).trans (fx_exV (mj := 19) (as := [(0, x1), (0, x2), (62, 11)]) (rest := []) rfl rk19 rfl rfl rfl rfl rfl)) h (fun y4 σ4 h => ?_)
        refine wi_if_eq (pc' := 53) (t := 56) hm18 rfl rfl rfl (fun hc => ?_) (fun hc => ?_)
        · replace h := h.1 hc
          refine wi_aload_n (pc' := 57) hm18 rfl rfl rfl (by decide) ?_
          refine wi_iload_n (pc' := 58) hm18 rfl rfl rfl ?_
          refine wi_iload_n (pc' := 59) hm18 rfl rfl rfl ?_
          refine wi_ldc (pc' := 61) (v := 12) hm18 rfl rfl rfl rfl ?_
          refine wc_I (pc' := 64) (by decide) rfl (by decide) ((fx_wE hm18 rfl).trans (fx_exV (mj := 19) (as := [(0, x1), (0, x2), (62, 12)]) (rest := []) rfl rk19 rfl rfl rfl rfl rfl)) h (fun y5 σ5 h => ?_)
          refine wi_if_eq (pc' := 67) (t := 70) hm18 rfl rfl rfl (fun hc => ?_) (fun hc => ?_)
          · replace h := h.1 hc
            refine wi_aload_n (pc' := 71) hm18 rfl rfl rfl (by decide) ?_
            refine wi_iload_n (pc' := 72) hm18 rfl rfl rfl ?_
            refine wi_iload_n (pc' := 73) hm18 rfl rfl rfl ?_
            refine wi_ldc (pc' := 75) (v := 13) hm18 rfl rfl rfl rfl ?_
            refine wc_I (pc' := 78) (by decide) rfl (by decide) ((fx_wE hm18 rfl).trans (fx_exV (mj := 19) (as := [(0, x1), (0, x2), (62, 13)]) (rest := []) rfl rk19 rfl rfl rfl rfl rfl)) h (fun y6 σ6 h => ?_)
            refine wi_if_eq (pc' := 81) (t := 84) hm18 rfl rfl rfl (fun hc => ?_) (fun hc => ?_)
            · replace h := h.1 hc
              refine wi_aload_n (pc' := 85) hm18 rfl rfl rfl (by decide) ?_
              refine wi_iload_n (pc' := 86) hm18 rfl rfl rfl ?_
              refine wi_iload_n (pc' := 87) hm18 rfl rfl rfl ?_
              refine wi_ldc (pc' := 89) (v := 14) hm18 rfl rfl rfl rfl ?_
              refine wc_I (pc' := 92) (by decide) rfl (by decide) ((fx_wE hm18 rfl).trans (fx_exV (mj := 19) (as := [(0, x1), (0, x2), (62, 14)]) (rest := []) rfl rk19 rfl rfl rfl rfl rfl)) h (fun y7 σ7 h => ?_)
              refine wi_if_eq (pc' := 95) (t := 98) hm18 rfl rfl rfl (fun hc => ?_) (fun hc => ?_)
              · replace h := h.1 hc
                refine wi_aload_n (pc' := 99) hm18 rfl rfl rfl (by decide) ?_
                refine wi_iload_n (pc' := 100) hm18 rfl rfl rfl ?_
                refine wi_iload_n (pc' := 101) hm18 rfl rfl rfl ?_
                refine wi_ldc (pc' := 103) (v := 15) hm18 rfl rfl rfl rfl ?_
                refine wc_I (pc' := 106) (by decide) rfl (by decide) ((fx_wE hm18 rfl).trans (fx_exV (mj := 19) (as := [(0, x1), (0, x2), (62, 15)]) (rest := []) rfl rk19 rfl rfl rfl rfl rfl)) h (fun y8 σ8 h => ?_)
                refine wi_if_eq (pc' := 109) (t := 112) hm18 rfl rfl rfl (fun hc => ?_) (fun hc => ?_)
                · replace h := h.1 hc
                  refine wi_aload_n (pc' := 113) hm18 rfl rfl rfl (by decide) ?_
                  refine wi_iload_n (pc' := 114) hm18 rfl rfl rfl ?_
                  refine wi_iload_n (pc' := 115) hm18 rfl rfl rfl ?_
                  refine wi_ldc (pc' := 117) (v := 16) hm18 rfl rfl rfl rfl ?_
                  refine wc_I (pc' := 120) (by decide) rfl (by decide) ((fx_wE hm18 rfl).trans (fx_exV (mj := 19) (as := [(0, x1), (0, x2), (62, 16)]) (rest := []) rfl rk19 rfl rfl rfl rfl rfl)) h (fun y9 σ9 h => ?_)
                  refine wi_if_eq (pc' := 123) (t := 128) hm18 rfl rfl rfl (fun hc => ?_) (fun hc => ?_)
                  · replace h := h.1 hc
                    refine wi_iconst (pc' := 129) (v := 2) hm18 rfl rfl rfl ?_
                    exact wi_iret hm18 rfl h
                  · replace h := h.2 hc
                    refine wi_bipush (pc' := 125) (v := 16) hm18 rfl rfl rfl ?_
                    refine wi_goto (t := 129) hm18 rfl rfl ?_
                    exact wi_iret hm18 rfl h
                · replace h := h.2 hc
                  refine wi_bipush (pc' := 111) (v := 15) hm18 rfl rfl rfl ?_
                  exact wi_iret hm18 rfl h
              · replace h := h.2 hc
                refine wi_bipush (pc' := 97) (v := 14) hm18 rfl rfl rfl ?_
                exact wi_iret hm18 rfl h
            · replace h := h.2 hc
              refine wi_bipush (pc' := 83) (v := 12) hm18 rfl rfl rfl ?_
              exact wi_iret hm18 rfl h
          · replace h := h.2 hc
            refine wi_bipush (pc' := 69) (v := 11) hm18 rfl rfl rfl ?_
            exact wi_iret hm18 rfl h
        · replace h := h.2 hc
          refine wi_bipush (pc' := 55) (v := 10) hm18 rfl rfl rfl ?_
          exact wi_iret hm18 rfl h
      · replace h := h.2 hc
        refine wi_bipush (pc' := 41) (v := 9) hm18 rfl rfl rfl ?_
        exact wi_iret hm18 rfl h
    · replace h := h.2 hc
      refine wi_bipush (pc' := 27) (v := 8) hm18 rfl rfl rfl ?_
      exact wi_iret hm18 rfl h
  · replace h := h.2 hc
    refine wi_bipush (pc' := 13) (v := 13) hm18 rfl rfl rfl ?_
    exact wi_iret hm18 rfl h
theorem hm19 : fx_code 19 = fx_c19 := rfl
theorem t19_0 {o0 x1 x2 o3 : Int} {σ : fx_S} {Q : fx_V → fx_S → Prop} (h : (fx_rg (x2 - x1)) ∧ (∃ y1, fx_prim 500 [(62, o3)] = some (0, y1) ∧ (((x2 - x1) = y1 → fx_Wp 19 15 [(28, o0), (0, x1), (0, x2), (62, o3), (0, 0)] [] σ Q) ∧ ((x2 - x1) ≠ y1 → Q (0, 0) σ)))) : fx_Ca 19 [(28, o0), (0, x1), (0, x2), (62, o3)] σ Q := by
  show fx_Wp 19 0 [(28, o0), (0, x1), (0, x2), (62, o3), (3, 0)] [] σ Q
  refine wi_iload_n (pc' := 1) hm19 rfl rfl rfl ?_
  refine wi_iload_n (pc' := 2) hm19 rfl rfl rfl ?_
  obtain ⟨g1, h⟩ := h
  refine wi_isub (pc' := 3) hm19 rfl rfl g1 ?_
  refine wi_aload_n (pc' := 4) hm19 rfl rfl rfl (by decide) ?_
  obtain ⟨y1, g, h⟩ := h
  refine fx_w4 (x := y1) (by decide) ((fx_wE hm19 rfl).trans (fx_exV (mj := 500) (as := []) (rest := [(0, (x2 - x1))]) rfl rk500 rfl rfl rfl rfl rfl)) g ?_
  refine wi_ic_eq (pc' := 10) (t := 12) hm19 rfl rfl rfl (fun hc => ?_) (fun hc => ?_)
  · replace h := h.1 hc
    refine wi_iconst (pc' := 13) (v := 0) hm19 rfl rfl rfl ?_
    refine wi_istore (pc' := 15) (L' := [(28, o0), (0, x1), (0, x2), (62, o3), (0, 0)]) hm19 rfl rfl rfl ?_
    exact h
  · replace h := h.2 hc
    refine wi_iconst (pc' := 11) (v := 0) hm19 rfl rfl rfl ?_
    exact wi_zret hm19 rfl (by decide) h
theorem t19_15 {o0 x1 o3 x4 : Int} {w2 : fx_V} {σ : fx_S} {Q : fx_V → fx_S → Prop} (h : (∃ y1, fx_prim 500 [(62, o3)] = some (0, y1) ∧ ((y1 ≤ x4 → Q (0, 1) σ) ∧ (x4 < y1 → (fx_rg (x1 + x4)) ∧ (0 ≤ (x1 + x4) ∧ (x1 + x4) < 400) ∧ (∃ y2, fx_prim 501 [(62, o3), (0, x4)] = some (0, y2) ∧ (((σ 29 0 (x1 + x4)) = y2 → (fx_rg (x4 + 1)) ∧ fx_Wp 19 15 [(28, o0), (0, x1), w2, (62, o3), (0, (x4 + 1))] [] σ Q) ∧ ((σ 29 0 (x1 + x4)) ≠ y2 → Q (0, 0) σ))))))) : fx_Wp 19 15 [(28, o0), (0, x1), w2, (62, o3), (0, x4)] [] σ Q := by
  refine wi_iload (pc' := 17) hm19 rfl rfl rfl ?_
  refine wi_aload_n (pc' := 18) hm19 rfl rfl rfl (by decide) ?_
  obtain ⟨y1, g, h⟩ := h
  refine fx_w4 (x := y1) (by decide) ((fx_wE hm19 rfl).trans (fx_exV (mj := 500) (as := []) (rest := [(0, x4)]) rfl rk500 rfl rfl rfl rfl rfl)) g ?_
  refine wi_ic_ge (pc' := 24) (t := 50) hm19 rfl rfl rfl (fun hc => ?_) (fun hc => ?_)
  · replace h := h.1 hc
    refine wi_iconst (pc' := 51) (v := 1) hm19 rfl rfl rfl ?_
    exact wi_zret hm19 rfl (by decide) h
  · replace h := h.2 hc
    refine wi_aload_n (pc' := 25) hm19 rfl rfl rfl (by decide) ?_
    refine wi_getR (pc' := 28) (x := 0) hm19 rfl rfl rfl (by omega) ?_
    refine wi_iload_n (pc' := 29) hm19 rfl rfl rfl ?_
    refine wi_iload (pc' := 31) hm19 rfl rfl rfl ?_
    obtain ⟨g1, h⟩ := h
    refine wi_iadd (pc' := 32) hm19 rfl rfl g1 ?_
    obtain ⟨g2, h⟩ := h
    refine wi_iaload (pc' := 33) hm19 rfl rfl rfl rfl (N := 400) rfl g2 ?_
    refine wi_aload_n (pc' := 34) hm19 rfl rfl rfl (by decide) ?_
    refine wi_iload (pc' := 36) hm19 rfl rfl rfl ?_
    obtain ⟨y2, g, h⟩ := h
    refine fx_w4 (x := y2) (by decide) ((fx_wE hm19 rfl).trans (fx_exV (mj := 501) (as := [(0, x4)]) (rest := [(0, (σ 29 0 (x1 + x4)))]) rfl rk501 rfl rfl rfl rfl rfl)) g ?_
    refine wi_ic_eq (pc' := 42) (t := 44) hm19 rfl rfl rfl (fun hc => ?_) (fun hc => ?_)
    · replace h := h.1 hc
      obtain ⟨g3, h⟩ := h
      refine wi_iinc (pc' := 47) (L' := [(28, o0), (0, x1), w2, (62, o3), (0, (x4 + 1))]) hm19 rfl rfl rfl g3 rfl ?_
      refine wi_goto (t := 15) hm19 rfl rfl ?_
      exact h
    · replace h := h.2 hc
      refine wi_iconst (pc' := 43) (v := 0) hm19 rfl rfl rfl ?_
      exact wi_zret hm19 rfl (by decide) h
theorem hm20 : fx_code 20 = fx_c20 := rfl
theorem t20_0 {o0 x1 x2 x3 x4 x5 x6 : Int} {σ : fx_S} {Q : fx_V → fx_S → Prop} (h : Q (4, 0) (fx_up (fx_up (fx_up (fx_up (fx_up (fx_up σ 26 o0 2 x1) 27 o0 0 x2) 27 o0 1 x3) 27 o0 2 x4) 27 o0 3 x5) 27 o0 4 x6)) : fx_Ca 20 [(26, o0), (0, x1), (0, x2), (0, x3), (0, x4), (0, x5), (0, x6)] σ Q := by
  show fx_Wp 20 0 [(26, o0), (0, x1), (0, x2), (0, x3), (0, x4), (0, x5), (0, x6)] [] σ Q
  refine wi_aload_n (pc' := 1) hm20 rfl rfl rfl (by decide) ?_
  refine wi_iload_n (pc' := 2) hm20 rfl rfl rfl ?_
  refine wi_putI (pc' := 5) hm20 rfl rfl (P := 2) rfl ?_
  refine wi_aload_n (pc' := 6) hm20 rfl rfl rfl (by decide) ?_
  refine wi_getR (pc' := 9) (x := o0) hm20 rfl rfl rfl (by omega) ?_
  refine wi_iconst (pc' := 10) (v := 0) hm20 rfl rfl rfl ?_
  refine wi_iload_n (pc' := 11) hm20 rfl rfl rfl ?_
  refine wi_iastore (pc' := 12) hm20 rfl rfl rfl (N := 5) rfl (by decide) ?_
  refine wi_aload_n (pc' := 13) hm20 rfl rfl rfl (by decide) ?_
  refine wi_getR (pc' := 16) (x := o0) hm20 rfl rfl rfl (by omega) ?_
  refine wi_iconst (pc' := 17) (v := 1) hm20 rfl rfl rfl ?_
  refine wi_iload_n (pc' := 18) hm20 rfl rfl rfl ?_
  refine wi_iastore (pc' := 19) hm20 rfl rfl rfl (N := 5) rfl (by decide) ?_
  refine wi_aload_n (pc' := 20) hm20 rfl rfl rfl (by decide) ?_
  refine wi_getR (pc' := 23) (x := o0) hm20 rfl rfl rfl (by omega) ?_
  refine wi_iconst (pc' := 24) (v := 2) hm20 rfl rfl rfl ?_
  refine wi_iload (pc' := 26) hm20 rfl rfl rfl ?_
  refine wi_iastore (pc' := 27) hm20 rfl rfl rfl (N := 5) rfl (by decide) ?_
  refine wi_aload_n (pc' := 28) hm20 rfl rfl rfl (by decide) ?_
  refine wi_getR (pc' := 31) (x := o0) hm20 rfl rfl rfl (by omega) ?_
  refine wi_iconst (pc' := 32) (v := 3) hm20 rfl rfl rfl ?_
  refine wi_iload (pc' := 34) hm20 rfl rfl rfl ?_
  refine wi_iastore (pc' := 35) hm20 rfl rfl rfl (N := 5) rfl (by decide) ?_
  refine wi_aload_n (pc' := 36) hm20 rfl rfl rfl (by decide) ?_
  refine wi_getR (pc' := 39) (x := o0) hm20 rfl rfl rfl (by omega) ?_
  refine wi_iconst (pc' := 40) (v := 4) hm20 rfl rfl rfl ?_
  refine wi_iload (pc' := 42) hm20 rfl rfl rfl ?_
  refine wi_iastore (pc' := 43) hm20 rfl rfl rfl (N := 5) rfl (by decide) ?_
  exact wi_vret hm20 rfl h
theorem hm21 : fx_code 21 = fx_c21 := rfl
theorem t21_0 {o0 x1 : Int} {σ : fx_S} {Q : fx_V → fx_S → Prop} (h : Q (4, 0) (fx_up (fx_up σ 26 o0 2 x1) 26 o0 3 0)) : fx_Ca 21 [(26, o0), (0, x1)] σ Q := by
  show fx_Wp 21 0 [(26, o0), (0, x1)] [] σ Q
  refine wi_aload_n (pc' := 1) hm21 rfl rfl rfl (by decide) ?_
  refine wi_iload_n (pc' := 2) hm21 rfl rfl rfl ?_
  refine wi_putI (pc' := 5) hm21 rfl rfl (P := 2) rfl ?_
  refine wi_aload_n (pc' := 6) hm21 rfl rfl rfl (by decide) ?_
  refine wi_iconst (pc' := 7) (v := 0) hm21 rfl rfl rfl ?_
  refine wi_putI (pc' := 10) hm21 rfl rfl (P := 3) rfl ?_
  exact wi_vret hm21 rfl h
theorem hm22 : fx_code 22 = fx_c22 := rfl
theorem t22_0 {o0 x1 : Int} {σ : fx_S} {Q : fx_V → fx_S → Prop} (h : ((5 ≤ (σ 26 o0 3) → Q (4, 0) σ) ∧ ((σ 26 o0 3) < 5 → (0 ≤ (σ 26 o0 3) ∧ (σ 26 o0 3) < 5) ∧ (fx_rg ((σ 26 o0 3) + 1)) ∧ Q (4, 0) (fx_up (fx_up σ 27 o0 (σ 26 o0 3) x1) 26 o0 3 ((σ 26 o0 3) + 1))))) : fx_Ca 22 [(26, o0), (0, x1)] σ Q := by
  show fx_Wp 22 0 [(26, o0), (0, x1)] [] σ Q
  refine wi_aload_n (pc' := 1) hm22 rfl rfl rfl (by decide) ?_
  refine wi_getI (pc' := 4) hm22 rfl rfl (P := 3) rfl ?_
  refine wi_aload_n (pc' := 5) hm22 rfl rfl rfl (by decide) ?_
  refine wi_getR (pc' := 8) (x := o0) hm22 rfl rfl rfl (by omega) ?_
  refine wi_alen (pc' := 9) hm22 rfl rfl (N := 5) rfl rfl rfl ?_
  refine wi_ic_ge (pc' := 12) (t := 32) hm22 rfl rfl rfl (fun hc => ?_) (fun hc => ?_)
  · replace h := h.1 hc
    exact wi_vret hm22 rfl h
  · replace h := h.2 hc
    refine wi_aload_n (pc' := 13) hm22 rfl rfl rfl (by decide) ?_
    refine wi_getR (pc' := 16) (x := o0) hm22 rfl rfl rfl (by omega) ?_
    refine wi_aload_n (pc' := 17) hm22 rfl rfl rfl (by decide) ?_
    refine wi_getI (pc' := 20) hm22 rfl rfl (P := 3) rfl ?_
    refine wi_iload_n (pc' := 21) hm22 rfl rfl rfl ?_
    obtain ⟨g1, h⟩ := h
    refine wi_iastore (pc' := 22) hm22 rfl rfl rfl (N := 5) rfl g1 ?_
    refine wi_aload_n (pc' := 23) hm22 rfl rfl rfl (by decide) ?_
    refine wi_dup (pc' := 24) hm22 rfl rfl rfl ?_
    refine wi_getIe (pc' := 27) hm22 rfl rfl (P := 3) rfl (x := (σ 26 o0 3)) (Eq.trans (fx_upK rfl) rfl) ?_
    refine wi_iconst (pc' := 28) (v := 1) hm22 rfl rfl rfl ?_
    obtain ⟨g2, h⟩ := h
    refine wi_iadd (pc' := 29) hm22 rfl rfl g2 ?_
    refine wi_putI (pc' := 32) hm22 rfl rfl (P := 3) rfl ?_
    exact wi_vret hm22 rfl h
theorem hm23 : fx_code 23 = fx_c23 := rfl
theorem t23_0 {o0 o1 : Int} {σ : fx_S} {Q : fx_V → fx_S → Prop} (h : fx_Wp 23 10 [(11, o0), (11, o1), (0, 0)] [] (fx_up σ 11 o0 9 (σ 11 o1 9)) Q) : fx_Ca 23 [(11, o0), (11, o1)] σ Q := by
  show fx_Wp 23 0 [(11, o0), (11, o1), (3, 0)] [] σ Q
  refine wi_aload_n (pc' := 1) hm23 rfl rfl rfl (by decide) ?_
  refine wi_aload_n (pc' := 2) hm23 rfl rfl rfl (by decide) ?_
  refine wi_getI (pc' := 5) hm23 rfl rfl (P := 9) rfl ?_
  refine wi_putI (pc' := 8) hm23 rfl rfl (P := 9) rfl ?_
  refine wi_iconst (pc' := 9) (v := 0) hm23 rfl rfl rfl ?_
  refine wi_istore_n (pc' := 10) (L' := [(11, o0), (11, o1), (0, 0)]) hm23 rfl rfl rfl ?_
  exact h
theorem t23_10 {o0 o1 x2 : Int} {σ : fx_S} {Q : fx_V → fx_S → Prop} (h : ((8 ≤ x2 → fx_Wp 23 56 [(11, o0), (11, o1), (0, 0)] [] (fx_up σ 11 o0 10 (σ 11 o1 10)) Q) ∧ (x2 < 8 → (0 ≤ x2 ∧ x2 < 8) ∧ ((σ 14 o1 x2) = 0 ∨ (σ 14 o1 x2) = 1) ∧ (fx_rg (x2 + 1)) ∧ fx_Wp 23 10 [(11, o0), (11, o1), (0, (x2 + 1))] [] (fx_up (fx_up σ 13 o0 x2 (σ 13 o1 x2)) 14 o0 x2 (σ 14 o1 x2)) Q))) : fx_Wp 23 10 [(11, o0), (11, o1), (0, x2)] [] σ Q := by
  refine wi_iload_n (pc' := 11) hm23 rfl rfl rfl ?_
  refine wi_bipush (pc' := 13) (v := 8) hm23 rfl rfl rfl ?_
  refine wi_ic_ge (pc' := 16) (t := 46) hm23 rfl rfl rfl (fun hc => ?_) (fun hc => ?_)
  · replace h := h.1 hc
    refine wi_aload_n (pc' := 47) hm23 rfl rfl rfl (by decide) ?_
    refine wi_aload_n (pc' := 48) hm23 rfl rfl rfl (by decide) ?_
    refine wi_getI (pc' := 51) hm23 rfl rfl (P := 10) rfl ?_
    refine wi_putI (pc' := 54) hm23 rfl rfl (P := 10) rfl ?_
    refine wi_iconst (pc' := 55) (v := 0) hm23 rfl rfl rfl ?_
    refine wi_istore_n (pc' := 56) (L' := [(11, o0), (11, o1), (0, 0)]) hm23 rfl rfl rfl ?_
    exact h
  · replace h := h.2 hc
    refine wi_aload_n (pc' := 17) hm23 rfl rfl rfl (by decide) ?_
    refine wi_getR (pc' := 20) (x := o0) hm23 rfl rfl rfl (by omega) ?_
    refine wi_iload_n (pc' := 21) hm23 rfl rfl rfl ?_
    refine wi_aload_n (pc' := 22) hm23 rfl rfl rfl (by decide) ?_
    refine wi_getR (pc' := 25) (x := o1) hm23 rfl rfl rfl (by omega) ?_
    refine wi_iload_n (pc' := 26) hm23 rfl rfl rfl ?_
    obtain ⟨g1, h⟩ := h
    refine wi_iaload (pc' := 27) hm23 rfl rfl rfl rfl (N := 8) rfl g1 ?_
    refine wi_iastore (pc' := 28) hm23 rfl rfl rfl (N := 8) rfl g1 ?_
    refine wi_aload_n (pc' := 29) hm23 rfl rfl rfl (by decide) ?_
    refine wi_getR (pc' := 32) (x := o0) hm23 rfl rfl rfl (by omega) ?_
    refine wi_iload_n (pc' := 33) hm23 rfl rfl rfl ?_
    refine wi_aload_n (pc' := 34) hm23 rfl rfl rfl (by decide) ?_
    refine wi_getR (pc' := 37) (x := o1) hm23 rfl rfl rfl (by omega) ?_
    refine wi_iload_n (pc' := 38) hm23 rfl rfl rfl ?_
    refine wi_baloade (pc' := 39) hm23 rfl rfl rfl (N := 8) rfl g1 (x := (σ 14 o1 x2)) (Eq.trans (fx_upK rfl) rfl) ?_
    obtain ⟨g2, h⟩ := h
    refine wi_bastore (pc' := 40) hm23 rfl rfl rfl (N := 8) rfl g1 g2 ?_
    obtain ⟨g3, h⟩ := h
    refine wi_iinc (pc' := 43) (L' := [(11, o0), (11, o1), (0, (x2 + 1))]) hm23 rfl rfl rfl g3 rfl ?_
    refine wi_goto (t := 10) hm23 rfl rfl ?_
    exact h
theorem t23_56 {o0 o1 x2 : Int} {σ : fx_S} {Q : fx_V → fx_S → Prop} (h : (((σ 11 o1 10) ≤ x2 → fx_Wp 23 144 [(11, o0), (11, o1), (0, 0)] [] σ Q) ∧ (x2 < (σ 11 o1 10) → (0 ≤ x2 ∧ x2 < 60) ∧ ((σ 20 o1 x2) = 0 ∨ (σ 20 o1 x2) = 1) ∧ (fx_rg (x2 + 1)) ∧ fx_Wp 23 56 [(11, o0), (11, o1), (0, (x2 + 1))] [] (fx_up (fx_up (fx_up (fx_up (fx_up (fx_up σ 15 o0 x2 (σ 15 o1 x2)) 16 o0 x2 (σ 16 o1 x2)) 17 o0 x2 (σ 17 o1 x2)) 18 o0 x2 (σ 18 o1 x2)) 19 o0 x2 (σ 19 o1 x2)) 20 o0 x2 (σ 20 o1 x2)) Q))) : fx_Wp 23 56 [(11, o0), (11, o1), (0, x2)] [] σ Q := by
  refine wi_iload_n (pc' := 57) hm23 rfl rfl rfl ?_
  refine wi_aload_n (pc' := 58) hm23 rfl rfl rfl (by decide) ?_
  refine wi_getI (pc' := 61) hm23 rfl rfl (P := 10) rfl ?_
  refine wi_ic_ge (pc' := 64) (t := 142) hm23 rfl rfl rfl (fun hc => ?_) (fun hc => ?_)
  · replace h := h.1 hc
    refine wi_iconst (pc' := 143) (v := 0) hm23 rfl rfl rfl ?_
    refine wi_istore_n (pc' := 144) (L' := [(11, o0), (11, o1), (0, 0)]) hm23 rfl rfl rfl ?_
    exact h
  · replace h := h.2 hc
    refine wi_aload_n (pc' := 65) hm23 rfl rfl rfl (by decide) ?_
    refine wi_getR (pc' := 68) (x := o0) hm23 rfl rfl rfl (by omega) ?_
    refine wi_iload_n (pc' := 69) hm23 rfl rfl rfl ?_
    refine wi_aload_n (pc' := 70) hm23 rfl rfl rfl (by decide) ?_
    refine wi_getR (pc' := 73) (x := o1) hm23 rfl rfl rfl (by omega) ?_
    refine wi_iload_n (pc' := 74) hm23 rfl rfl rfl ?_
    obtain ⟨g1, h⟩ := h
    refine wi_iaload (pc' := 75) hm23 rfl rfl rfl rfl (N := 60) rfl g1 ?_
    refine wi_iastore (pc' := 76) hm23 rfl rfl rfl (N := 60) rfl g1 ?_
    refine wi_aload_n (pc' := 77) hm23 rfl rfl rfl (by decide) ?_
    refine wi_getR (pc' := 80) (x := o0) hm23 rfl rfl rfl (by omega) ?_
    refine wi_iload_n (pc' := 81) hm23 rfl rfl rfl ?_
    refine wi_aload_n (pc' := 82) hm23 rfl rfl rfl (by decide) ?_
    refine wi_getR (pc' := 85) (x := o1) hm23 rfl rfl rfl (by omega) ?_
    refine wi_iload_n (pc' := 86) hm23 rfl rfl rfl ?_
    refine wi_ialoade (pc' := 87) hm23 rfl rfl rfl rfl (N := 60) rfl g1 (x := (σ 16 o1 x2)) (Eq.trans (fx_upK rfl) rfl) ?_
    refine wi_iastore (pc' := 88) hm23 rfl rfl rfl (N := 60) rfl g1 ?_
    refine wi_aload_n (pc' := 89) hm23 rfl rfl rfl (by decide) ?_
    refine wi_getR (pc' := 92) (x := o0) hm23 rfl rfl rfl (by omega) ?_
    refine wi_iload_n (pc' := 93) hm23 rfl rfl rfl ?_
    refine wi_aload_n (pc' := 94) hm23 rfl rfl rfl (by decide) ?_
    refine wi_getR (pc' := 97) (x := o1) hm23 rfl rfl rfl (by omega) ?_
    refine wi_iload_n (pc' := 98) hm23 rfl rfl rfl ?_
    refine wi_ialoade (pc' := 99) hm23 rfl rfl rfl rfl (N := 60) rfl g1 (x := (σ 17 o1 x2)) (Eq.trans (fx_upK rfl) (Eq.trans (fx_upK rfl) rfl)) ?_
    refine wi_iastore (pc' := 100) hm23 rfl rfl rfl (N := 60) rfl g1 ?_
    refine wi_aload_n (pc' := 101) hm23 rfl rfl rfl (by decide) ?_
    refine wi_getR (pc' := 104) (x := o0) hm23 rfl rfl rfl (by omega) ?_
    refine wi_iload_n (pc' := 105) hm23 rfl rfl rfl ?_
    refine wi_aload_n (pc' := 106) hm23 rfl rfl rfl (by decide) ?_
    refine wi_getR (pc' := 109) (x := o1) hm23 rfl rfl rfl (by omega) ?_
    refine wi_iload_n (pc' := 110) hm23 rfl rfl rfl ?_
    refine wi_ialoade (pc' := 111) hm23 rfl rfl rfl rfl (N := 60) rfl g1 (x := (σ 18 o1 x2)) (Eq.trans (fx_upK rfl) (Eq.trans (fx_upK rfl) (Eq.trans (fx_upK rfl) rfl))) ?_
    refine wi_iastore (pc' := 112) hm23 rfl rfl rfl (N := 60) rfl g1 ?_
    refine wi_aload_n (pc' := 113) hm23 rfl rfl rfl (by decide) ?_
    refine wi_getR (pc' := 116) (x := o0) hm23 rfl rfl rfl (by omega) ?_
    refine wi_iload_n (pc' := 117) hm23 rfl rfl rfl ?_
    refine wi_aload_n (pc' := 118) hm23 rfl rfl rfl (by decide) ?_
    refine wi_getR (pc' := 121) (x := o1) hm23 rfl rfl rfl (by omega) ?_
    refine wi_iload_n (pc' := 122) hm23 rfl rfl rfl ?_
    refine wi_ialoade (pc' := 123) hm23 rfl rfl rfl rfl (N := 60) rfl g1 (x := (σ 19 o1 x2)) (Eq.trans (fx_upK rfl) (Eq.trans (fx_upK rfl) (Eq.trans (fx_upK rfl) (Eq.trans (fx_upK rfl) rfl)))) ?_
    refine wi_iastore (pc' := 124) hm23 rfl rfl rfl (N := 60) rfl g1 ?_
    refine wi_aload_n (pc' := 125) hm23 rfl rfl rfl (by decide) ?_
    refine wi_getR (pc' := 128) (x := o0) hm23 rfl rfl rfl (by omega) ?_
    refine wi_iload_n (pc' := 129) hm23 rfl rfl rfl ?_
    refine wi_aload_n (pc' := 130) hm23 rfl rfl rfl (by decide) ?_
    refine wi_getR (pc' := 133) (x := o1) hm23 rfl rfl rfl (by omega) ?_
    refine wi_iload_n (pc' := 134) hm23 rfl rfl rfl ?_
    refine wi_baloade (pc' := 135) hm23 rfl rfl rfl (N := 60) rfl g1 (x := (σ 20 o1 x2)) (Eq.trans (fx_upK rfl) (Eq.trans (fx_upK rfl) (Eq.trans (fx_upK rfl) (Eq.trans (fx_upK rfl) (Eq.trans (fx_upK rfl) rfl))))) ?_
    obtain ⟨g2, h⟩ := h
    refine wi_bastore (pc' := 136) hm23 rfl rfl rfl (N := 60) rfl g1 g2 ?_
    obtain ⟨g3, h⟩ := h
    refine wi_iinc (pc' := 139) (L' := [(11, o0), (11, o1), (0, (x2 + 1))]) hm23 rfl rfl rfl g3 rfl ?_
    refine wi_goto (t := 56) hm23 rfl rfl ?_
    exact h
theorem t23_144 {o0 o1 x2 : Int} {σ : fx_S} {Q : fx_V → fx_S → Prop} (h : ((8 ≤ x2 → Q (4, 0) σ) ∧ (x2 < 8 → (0 ≤ x2 ∧ x2 < 8) ∧ fx_CV 5 [(22, (8 * o0 + 0 + x2)), (22, (8 * o1 + 0 + x2))] σ Q (fun σ1 => (fx_rg (x2 + 1)) ∧ fx_Wp 23 144 [(11, o0), (11, o1), (0, (x2 + 1))] [] σ1 Q)))) : fx_Wp 23 144 [(11, o0), (11, o1), (0, x2)] [] σ Q := by
  refine wi_iload_n (pc' := 145) hm23 rfl rfl rfl ?_
  refine wi_bipush (pc' := 147) (v := 8) hm23 rfl rfl rfl ?_
  refine wi_ic_ge (pc' := 150) (t := 171) hm23 rfl rfl rfl (fun hc => ?_) (fun hc => ?_)
  · replace h := h.1 hc
    exact wi_vret hm23 rfl h
  · replace h := h.2 hc
    refine wi_aload_n (pc' := 151) hm23 rfl rfl rfl (by decide) ?_
    refine wi_getR (pc' := 154) (x := o0) hm23 rfl rfl rfl (by omega) ?_
    refine wi_iload_n (pc' := 155) hm23 rfl rfl rfl ?_
    obtain ⟨g1, h⟩ := h
    refine wi_aaload (pc' := 156) (x := (8 * o0 + 0 + x2)) hm23 rfl rfl rfl rfl (N := 8) rfl g1 (by omega) ?_
    refine wi_aload_n (pc' := 157) hm23 rfl rfl rfl (by decide) ?_
    refine wi_getR (pc' := 160) (x := o1) hm23 rfl rfl rfl (by omega) ?_
    refine wi_iload_n (pc' := 161) hm23 rfl rfl rfl ?_
    refine wi_aaload (pc' := 162) (x := (8 * o1 + 0 + x2)) hm23 rfl rfl rfl rfl (N := 8) rfl g1 (by omega) ?_
    refine wc_V (pc' := 165) (by decide) rfl (by decide) ((fx_wE hm23 rfl).trans (fx_exV (mj := 5) (as := [(22, (8 * o1 + 0 + x2))]) (rest := []) rfl rk5 rfl rfl rfl rfl rfl)) h (fun σ1 h => ?_)
    obtain ⟨g2, h⟩ := h
    refine wi_iinc (pc' := 168) (L' := [(11, o0), (11, o1), (0, (x2 + 1))]) hm23 rfl rfl rfl g2 rfl ?_
    refine wi_goto (t := 144) hm23 rfl rfl ?_
    exact h
theorem hm24 : fx_code 24 = fx_c24 := rfl
theorem t24_0 {o0 x1 : Int} {σ : fx_S} {Q : fx_V → fx_S → Prop} (h : ((x1 < 0 → Q (0, 0) σ) ∧ (0 ≤ x1 → (((σ 11 o0 9) ≤ x1 → Q (0, 0) σ) ∧ (x1 < (σ 11 o0 9) → Q (0, 1) σ))))) : fx_Ca 24 [(11, o0), (0, x1)] σ Q := by
  show fx_Wp 24 0 [(11, o0), (0, x1)] [] σ Q
  refine wi_iload_n (pc' := 1) hm24 rfl rfl rfl ?_
  refine wi_if_lt (pc' := 4) (t := 16) hm24 rfl rfl rfl (fun hc => ?_) (fun hc => ?_)
  · replace h := h.1 hc
    refine wi_iconst (pc' := 17) (v := 0) hm24 rfl rfl rfl ?_
    exact wi_zret hm24 rfl (by decide) h
  · replace h := h.2 hc
    refine wi_iload_n (pc' := 5) hm24 rfl rfl rfl ?_
    refine wi_aload_n (pc' := 6) hm24 rfl rfl rfl (by decide) ?_
    refine wi_getI (pc' := 9) hm24 rfl rfl (P := 9) rfl ?_
    refine wi_ic_ge (pc' := 12) (t := 16) hm24 rfl rfl rfl (fun hc => ?_) (fun hc => ?_)
    · replace h := h.1 hc
      refine wi_iconst (pc' := 17) (v := 0) hm24 rfl rfl rfl ?_
      exact wi_zret hm24 rfl (by decide) h
    · replace h := h.2 hc
      refine wi_iconst (pc' := 13) (v := 1) hm24 rfl rfl rfl ?_
      refine wi_goto (t := 17) hm24 rfl rfl ?_
      exact wi_zret hm24 rfl (by decide) h
theorem hm25 : fx_code 25 = fx_c25 := rfl
theorem t25_0 {o0 x1 : Int} {σ : fx_S} {Q : fx_V → fx_S → Prop} (h : ((x1 < 0 → Q (0, 0) σ) ∧ (0 ≤ x1 → (((σ 11 o0 10) ≤ x1 → Q (0, 0) σ) ∧ (x1 < (σ 11 o0 10) → Q (0, 1) σ))))) : fx_Ca 25 [(11, o0), (0, x1)] σ Q := by
  show fx_Wp 25 0 [(11, o0), (0, x1)] [] σ Q
  refine wi_iload_n (pc' := 1) hm25 rfl rfl rfl ?_
  refine wi_if_lt (pc' := 4) (t := 16) hm25 rfl rfl rfl (fun hc => ?_) (fun hc => ?_)
  · replace h := h.1 hc
    refine wi_iconst (pc' := 17) (v := 0) hm25 rfl rfl rfl ?_
    exact wi_zret hm25 rfl (by decide) h
  · replace h := h.2 hc
    refine wi_iload_n (pc' := 5) hm25 rfl rfl rfl ?_
    refine wi_aload_n (pc' := 6) hm25 rfl rfl rfl (by decide) ?_
    refine wi_getI (pc' := 9) hm25 rfl rfl (P := 10) rfl ?_
    refine wi_ic_ge (pc' := 12) (t := 16) hm25 rfl rfl rfl (fun hc => ?_) (fun hc => ?_)
    · replace h := h.1 hc
      refine wi_iconst (pc' := 17) (v := 0) hm25 rfl rfl rfl ?_
      exact wi_zret hm25 rfl (by decide) h
    · replace h := h.2 hc
      refine wi_iconst (pc' := 13) (v := 1) hm25 rfl rfl rfl ?_
      refine wi_goto (t := 17) hm25 rfl rfl ?_
      exact wi_zret hm25 rfl (by decide) h
theorem hm26 : fx_code 26 = fx_c26 := rfl
theorem t26_0 {o0 o1 : Int} {σ : fx_S} {Q : fx_V → fx_S → Prop} (h : (((σ 26 o1 2) = 16 → (0 ≤ (σ 27 o1 0) ∧ (σ 27 o1 0) < 8) ∧ fx_CI 3 [(22, (8 * o0 + 0 + (σ 27 o1 0)))] σ Q (fun y1 σ1 => ((y1 = 0 → Q (0, 6) σ1) ∧ (y1 ≠ 0 → Q (0, 0) σ1)))) ∧ ((σ 26 o1 2) ≠ 16 → (((σ 26 o1 2) = 17 → ((8 ≤ (σ 11 o0 9) → Q (0, 1) σ) ∧ ((σ 11 o0 9) < 8 → Q (0, 0) σ))) ∧ ((σ 26 o1 2) ≠ 17 → (((σ 26 o1 2) = 18 → fx_CI 27 [(11, o0), (0, (σ 27 o1 1)), (0, (σ 27 o1 2)), (0, (σ 27 o1 3))] σ Q (fun y2 σ2 => Q (0, y2) σ2)) ∧ ((σ 26 o1 2) ≠ 18 → (((σ 26 o1 2) = 19 → fx_CI 25 [(11, o0), (0, (σ 27 o1 0))] σ Q (fun y3 σ3 => ((y3 = 0 → Q (0, 5) σ3) ∧ (y3 ≠ 0 → (0 ≤ (σ 27 o1 0) ∧ (σ 27 o1 0) < 60) ∧ (((σ3 20 o0 (σ 27 o1 0)) ≠ 0 → Q (0, 5) σ3) ∧ ((σ3 20 o0 (σ 27 o1 0)) = 0 → Q (0, 0) σ3)))))) ∧ ((σ 26 o1 2) ≠ 19 → (((σ 26 o1 2) = 20 → (((σ 26 o1 2) ≠ 20 → fx_CI 28 [(11, o0), (0, (σ 27 o1 0)), (0, 0)] σ Q (fun y4 σ4 => Q (0, y4) σ4)) ∧ ((σ 26 o1 2) = 20 → fx_CI 28 [(11, o0), (0, (σ 27 o1 0)), (0, 1)] σ Q (fun y5 σ5 => Q (0, y5) σ5)))) ∧ ((σ 26 o1 2) ≠ 20 → (((σ 26 o1 2) = 21 → (((σ 26 o1 2) ≠ 20 → fx_CI 28 [(11, o0), (0, (σ 27 o1 0)), (0, 0)] σ Q (fun y6 σ6 => Q (0, y6) σ6)) ∧ ((σ 26 o1 2) = 20 → fx_CI 28 [(11, o0), (0, (σ 27 o1 0)), (0, 1)] σ Q (fun y7 σ7 => Q (0, y7) σ7)))) ∧ ((σ 26 o1 2) ≠ 21 → (((σ 26 o1 2) = 22 → fx_CI 24 [(11, o0), (0, (σ 27 o1 0))] σ Q (fun y8 σ8 => ((y8 = 0 → Q (0, 2) σ8) ∧ (y8 ≠ 0 → Q (0, 0) σ8)))) ∧ ((σ 26 o1 2) ≠ 22 → (((σ 26 o1 2) = 23 → fx_CI 29 [(11, o0), (0, (σ 27 o1 0)), (0, (σ 27 o1 1))] σ Q (fun y9 σ9 => Q (0, y9) σ9)) ∧ ((σ 26 o1 2) ≠ 23 → Q (0, 0) σ))))))))))))))))) : fx_Ca 26 [(11, o0), (26, o1)] σ Q := by
  show fx_Wp 26 0 [(11, o0), (26, o1), (3, 0)] [] σ Q
  refine wi_aload_n (pc' := 1) hm26 rfl rfl rfl (by decide) ?_
  refine wi_getR (pc' := 4) (x := o1) hm26 rfl rfl rfl (by omega) ?_
  refine wi_iconst (pc' := 5) (v := 0) hm26 rfl rfl rfl ?_
  refine wi_iaload (pc' := 6) hm26 rfl rfl rfl rfl (N := 5) rfl (by decide) ?_
  refine wi_istore_n (pc' := 7) (L' := [(11, o0), (26, o1), (0, (σ 27 o1 0))]) hm26 rfl rfl rfl ?_
  refine wi_aload_n (pc' := 8) hm26 rfl rfl rfl (by decide) ?_
  refine wi_getI (pc' := 11) hm26 rfl rfl (P := 2) rfl ?_
  refine wi_tsw hm26 rfl ?_
  refine fx_swc (fun hc => ?_) (fun hc => ?_)
  · replace h := h.1 hc
    refine wi_aload_n (pc' := 164) hm26 rfl rfl rfl (by decide) ?_
    refine wi_getR (pc' := 167) (x := o0) hm26 rfl rfl rfl (by omega) ?_
    refine wi_iload_n (pc' := 168) hm26 rfl rfl rfl ?_
    obtain ⟨g1, h⟩ := h
    refine wi_aaload (pc' := 169) (x := (8 * o0 + 0 + (σ 27 o1 0))) hm26 rfl rfl rfl rfl (N := 8) rfl g1 (by omega) ?_
    refine wc_I (pc' := 172) (by decide) rfl (by decide) ((fx_wE hm26 rfl).trans (fx_exV (mj := 3) (as := []) (rest := []) rfl rk3 rfl rfl rfl rfl rfl)) h (fun y1 σ1 h => ?_)
    refine wi_if_eq (pc' := 175) (t := 179) hm26 rfl rfl rfl (fun hc => ?_) (fun hc => ?_)
    · replace h := h.1 hc
      refine wi_bipush (pc' := 181) (v := 6) hm26 rfl rfl rfl ?_
      exact wi_iret hm26 rfl h
    · replace h := h.2 hc
      refine wi_iconst (pc' := 176) (v := 0) hm26 rfl rfl rfl ?_
      refine wi_goto (t := 181) hm26 rfl rfl ?_
      exact wi_iret hm26 rfl h
  · replace h := h.2 hc
    refine fx_swc (fun hc => ?_) (fun hc => ?_)
    · replace h := h.1 hc
      refine wi_aload_n (pc' := 57) hm26 rfl rfl rfl (by decide) ?_
      refine wi_getI (pc' := 60) hm26 rfl rfl (P := 9) rfl ?_
      refine wi_bipush (pc' := 62) (v := 8) hm26 rfl rfl rfl ?_
      refine wi_ic_ge (pc' := 65) (t := 69) hm26 rfl rfl rfl (fun hc => ?_) (fun hc => ?_)
      · replace h := h.1 hc
        refine wi_iconst (pc' := 70) (v := 1) hm26 rfl rfl rfl ?_
        exact wi_iret hm26 rfl h
      · replace h := h.2 hc
        refine wi_iconst (pc' := 66) (v := 0) hm26 rfl rfl rfl ?_
        refine wi_goto (t := 70) hm26 rfl rfl ?_
        exact wi_iret hm26 rfl h
    · replace h := h.2 hc
      refine fx_swc (fun hc => ?_) (fun hc => ?_)
      · replace h := h.1 hc
        refine wi_aload_n (pc' := 72) hm26 rfl rfl rfl (by decide) ?_
        refine wi_aload_n (pc' := 73) hm26 rfl rfl rfl (by decide) ?_
        refine wi_getR (pc' := 76) (x := o1) hm26 rfl rfl rfl (by omega) ?_
        refine wi_iconst (pc' := 77) (v := 1) hm26 rfl rfl rfl ?_
        refine wi_iaload (pc' := 78) hm26 rfl rfl rfl rfl (N := 5) rfl (by decide) ?_
        refine wi_aload_n (pc' := 79) hm26 rfl rfl rfl (by decide) ?_
        refine wi_getR (pc' := 82) (x := o1) hm26 rfl rfl rfl (by omega) ?_
        refine wi_iconst (pc' := 83) (v := 2) hm26 rfl rfl rfl ?_
        refine wi_iaload (pc' := 84) hm26 rfl rfl rfl rfl (N := 5) rfl (by decide) ?_
        refine wi_aload_n (pc' := 85) hm26 rfl rfl rfl (by decide) ?_
        refine wi_getR (pc' := 88) (x := o1) hm26 rfl rfl rfl (by omega) ?_
        refine wi_iconst (pc' := 89) (v := 3) hm26 rfl rfl rfl ?_
        refine wi_iaload (pc' := 90) hm26 rfl rfl rfl rfl (N := 5) rfl (by decide) ?_
        refine wc_I (pc' := 93) (by decide) rfl (by decide) ((fx_wE hm26 rfl).trans (fx_exV (mj := 27) (as := [(0, (σ 27 o1 1)), (0, (σ 27 o1 2)), (0, (σ 27 o1 3))]) (rest := []) rfl rk27 rfl rfl rfl rfl rfl)) h (fun y2 σ2 h => ?_)
        exact wi_iret hm26 rfl h
      · replace h := h.2 hc
        refine fx_swc (fun hc => ?_) (fun hc => ?_)
        · replace h := h.1 hc
          refine wi_aload_n (pc' := 95) hm26 rfl rfl rfl (by decide) ?_
          refine wi_iload_n (pc' := 96) hm26 rfl rfl rfl ?_
          refine wc_I (pc' := 99) (by decide) rfl (by decide) ((fx_wE hm26 rfl).trans (fx_exV (mj := 25) (as := [(0, (σ 27 o1 0))]) (rest := []) rfl rk25 rfl rfl rfl rfl rfl)) h (fun y3 σ3 h => ?_)
          refine wi_if_eq (pc' := 102) (t := 115) hm26 rfl rfl rfl (fun hc => ?_) (fun hc => ?_)
          · replace h := h.1 hc
            refine wi_iconst (pc' := 116) (v := 5) hm26 rfl rfl rfl ?_
            exact wi_iret hm26 rfl h
          · replace h := h.2 hc
            refine wi_aload_n (pc' := 103) hm26 rfl rfl rfl (by decide) ?_
            refine wi_getR (pc' := 106) (x := o0) hm26 rfl rfl rfl (by omega) ?_
            refine wi_iload_n (pc' := 107) hm26 rfl rfl rfl ?_
            obtain ⟨g1, h⟩ := h
            refine wi_baload (pc' := 108) hm26 rfl rfl rfl (N := 60) rfl g1 ?_
            refine wi_if_ne (pc' := 111) (t := 115) hm26 rfl rfl rfl (fun hc => ?_) (fun hc => ?_)
            · replace h := h.1 hc
              refine wi_iconst (pc' := 116) (v := 5) hm26 rfl rfl rfl ?_
              exact wi_iret hm26 rfl h
            · replace h := h.2 hc
              refine wi_iconst (pc' := 112) (v := 0) hm26 rfl rfl rfl ?_
              refine wi_goto (t := 116) hm26 rfl rfl ?_
              exact wi_iret hm26 rfl h
        · replace h := h.2 hc
          refine fx_swc (fun hc => ?_) (fun hc => ?_)
          · replace h := h.1 hc
            refine wi_aload_n (pc' := 118) hm26 rfl rfl rfl (by decide) ?_
            refine wi_iload_n (pc' := 119) hm26 rfl rfl rfl ?_
            refine wi_aload_n (pc' := 120) hm26 rfl rfl rfl (by decide) ?_
            refine wi_getI (pc' := 123) hm26 rfl rfl (P := 2) rfl ?_
            refine wi_bipush (pc' := 125) (v := 20) hm26 rfl rfl rfl ?_
            refine wi_ic_ne (pc' := 128) (t := 132) hm26 rfl rfl rfl (fun hc => ?_) (fun hc => ?_)
            · replace h := h.1 hc
              refine wi_iconst (pc' := 133) (v := 0) hm26 rfl rfl rfl ?_
              refine wc_I (pc' := 136) (by decide) rfl (by decide) ((fx_wE hm26 rfl).trans (fx_exV (mj := 28) (as := [(0, (σ 27 o1 0)), (0, 0)]) (rest := []) rfl rk28 rfl rfl rfl rfl rfl)) h (fun y4 σ4 h => ?_)
              exact wi_iret hm26 rfl h
            · replace h := h.2 hc
              refine wi_iconst (pc' := 129) (v := 1) hm26 rfl rfl rfl ?_
              refine wi_goto (t := 133) hm26 rfl rfl ?_
              refine wc_I (pc' := 136) (by decide) rfl (by decide) ((fx_wE hm26 rfl).trans (fx_exV (mj := 28) (as := [(0, (σ 27 o1 0)), (0, 1)]) (rest := []) rfl rk28 rfl rfl rfl rfl rfl)) h (fun y5 σ5 h => ?_)
              exact wi_iret hm26 rfl h
          · replace h := h.2 hc
            refine fx_swc (fun hc => ?_) (fun hc => ?_)
            · replace h := h.1 hc
              refine wi_aload_n (pc' := 118) hm26 rfl rfl rfl (by decide) ?_
              refine wi_iload_n (pc' := 119) hm26 rfl rfl rfl ?_
              refine wi_aload_n (pc' := 120) hm26 rfl rfl rfl (by decide) ?_
              refine wi_getI (pc' := 123) hm26 rfl rfl (P := 2) rfl ?_
              refine wi_bipush (pc' := 125) (v := 20) hm26 rfl rfl rfl ?_
              refine wi_ic_ne (pc' := 128) (t := 132) hm26 rfl rfl rfl (fun hc => ?_) (fun hc => ?_)
              · replace h := h.1 hc
                refine wi_iconst (pc' := 133) (v := 0) hm26 rfl rfl rfl ?_
                refine wc_I (pc' := 136) (by decide) rfl (by decide) ((fx_wE hm26 rfl).trans (fx_exV (mj := 28) (as := [(0, (σ 27 o1 0)), (0, 0)]) (rest := []) rfl rk28 rfl rfl rfl rfl rfl)) h (fun y6 σ6 h => ?_)
                exact wi_iret hm26 rfl h
              · replace h := h.2 hc
                refine wi_iconst (pc' := 129) (v := 1) hm26 rfl rfl rfl ?_
                refine wi_goto (t := 133) hm26 rfl rfl ?_
                refine wc_I (pc' := 136) (by decide) rfl (by decide) ((fx_wE hm26 rfl).trans (fx_exV (mj := 28) (as := [(0, (σ 27 o1 0)), (0, 1)]) (rest := []) rfl rk28 rfl rfl rfl rfl rfl)) h (fun y7 σ7 h => ?_)
                exact wi_iret hm26 rfl h
            · replace h := h.2 hc
              refine fx_swc (fun hc => ?_) (fun hc => ?_)
              · replace h := h.1 hc
                refine wi_aload_n (pc' := 138) hm26 rfl rfl rfl (by decide) ?_
                refine wi_iload_n (pc' := 139) hm26 rfl rfl rfl ?_
                refine wc_I (pc' := 142) (by decide) rfl (by decide) ((fx_wE hm26 rfl).trans (fx_exV (mj := 24) (as := [(0, (σ 27 o1 0))]) (rest := []) rfl rk24 rfl rfl rfl rfl rfl)) h (fun y8 σ8 h => ?_)
                refine wi_if_eq (pc' := 145) (t := 149) hm26 rfl rfl rfl (fun hc => ?_) (fun hc => ?_)
                · replace h := h.1 hc
                  refine wi_iconst (pc' := 150) (v := 2) hm26 rfl rfl rfl ?_
                  exact wi_iret hm26 rfl h
                · replace h := h.2 hc
                  refine wi_iconst (pc' := 146) (v := 0) hm26 rfl rfl rfl ?_
                  refine wi_goto (t := 150) hm26 rfl rfl ?_
                  exact wi_iret hm26 rfl h
              · replace h := h.2 hc
                refine fx_swc (fun hc => ?_) (fun hc => ?_)
                · replace h := h.1 hc
                  refine wi_aload_n (pc' := 152) hm26 rfl rfl rfl (by decide) ?_
                  refine wi_iload_n (pc' := 153) hm26 rfl rfl rfl ?_
                  refine wi_aload_n (pc' := 154) hm26 rfl rfl rfl (by decide) ?_
                  refine wi_getR (pc' := 157) (x := o1) hm26 rfl rfl rfl (by omega) ?_
                  refine wi_iconst (pc' := 158) (v := 1) hm26 rfl rfl rfl ?_
                  refine wi_iaload (pc' := 159) hm26 rfl rfl rfl rfl (N := 5) rfl (by decide) ?_
                  refine wc_I (pc' := 162) (by decide) rfl (by decide) ((fx_wE hm26 rfl).trans (fx_exV (mj := 29) (as := [(0, (σ 27 o1 0)), (0, (σ 27 o1 1))]) (rest := []) rfl rk29 rfl rfl rfl rfl rfl)) h (fun y9 σ9 h => ?_)
                  exact wi_iret hm26 rfl h
                · replace h := h.2 hc
                  refine fx_swn ?_
                  refine wi_iconst (pc' := 183) (v := 0) hm26 rfl rfl rfl ?_
                  exact wi_iret hm26 rfl h
theorem hm27 : fx_code 27 = fx_c27 := rfl
theorem t27_0 {o0 x1 x2 x3 : Int} {σ : fx_S} {Q : fx_V → fx_S → Prop} (h : fx_CI 24 [(11, o0), (0, x1)] σ Q (fun y1 σ1 => ((y1 ≠ 0 → ((x2 < x3 → ((60 ≤ (σ1 11 o0 10) → Q (0, 4) σ1) ∧ ((σ1 11 o0 10) < 60 → Q (0, 0) σ1))) ∧ (x3 ≤ x2 → Q (0, 3) σ1))) ∧ (y1 = 0 → Q (0, 2) σ1)))) : fx_Ca 27 [(11, o0), (0, x1), (0, x2), (0, x3)] σ Q := by
  show fx_Wp 27 0 [(11, o0), (0, x1), (0, x2), (0, x3)] [] σ Q
  refine wi_aload_n (pc' := 1) hm27 rfl rfl rfl (by decide) ?_
  refine wi_iload_n (pc' := 2) hm27 rfl rfl rfl ?_
  refine wc_I (pc' := 5) (by decide) rfl (by decide) ((fx_wE hm27 rfl).trans (fx_exV (mj := 24) (as := [(0, x1)]) (rest := []) rfl rk24 rfl rfl rfl rfl rfl)) h (fun y1 σ1 h => ?_)
  refine wi_if_ne (pc' := 8) (t := 10) hm27 rfl rfl rfl (fun hc => ?_) (fun hc => ?_)
  · replace h := h.1 hc
    refine wi_iload_n (pc' := 11) hm27 rfl rfl rfl ?_
    refine wi_iload_n (pc' := 12) hm27 rfl rfl rfl ?_
    refine wi_ic_lt (pc' := 15) (t := 17) hm27 rfl rfl rfl (fun hc => ?_) (fun hc => ?_)
    · replace h := h.1 hc
      refine wi_aload_n (pc' := 18) hm27 rfl rfl rfl (by decide) ?_
      refine wi_getI (pc' := 21) hm27 rfl rfl (P := 10) rfl ?_
      refine wi_bipush (pc' := 23) (v := 60) hm27 rfl rfl rfl ?_
      refine wi_ic_ge (pc' := 26) (t := 30) hm27 rfl rfl rfl (fun hc => ?_) (fun hc => ?_)
      · replace h := h.1 hc
        refine wi_iconst (pc' := 31) (v := 4) hm27 rfl rfl rfl ?_
        exact wi_iret hm27 rfl h
      · replace h := h.2 hc
        refine wi_iconst (pc' := 27) (v := 0) hm27 rfl rfl rfl ?_
        refine wi_goto (t := 31) hm27 rfl rfl ?_
        exact wi_iret hm27 rfl h
    · replace h := h.2 hc
      refine wi_iconst (pc' := 16) (v := 3) hm27 rfl rfl rfl ?_
      exact wi_iret hm27 rfl h
  · replace h := h.2 hc
    refine wi_iconst (pc' := 9) (v := 2) hm27 rfl rfl rfl ?_
    exact wi_iret hm27 rfl h
theorem hm28 : fx_code 28 = fx_c28 := rfl
theorem t28_0 {o0 x1 x2 : Int} {σ : fx_S} {Q : fx_V → fx_S → Prop} (h : fx_CI 24 [(11, o0), (0, x1)] σ Q (fun y1 σ1 => ((y1 ≠ 0 → (0 ≤ x1 ∧ x1 < 8) ∧ (((σ1 14 o0 x1) ≠ x2 → Q (0, 0) σ1) ∧ ((σ1 14 o0 x1) = x2 → Q (0, 6) σ1))) ∧ (y1 = 0 → Q (0, 2) σ1)))) : fx_Ca 28 [(11, o0), (0, x1), (0, x2)] σ Q := by
  show fx_Wp 28 0 [(11, o0), (0, x1), (0, x2)] [] σ Q
  refine wi_aload_n (pc' := 1) hm28 rfl rfl rfl (by decide) ?_
  refine wi_iload_n (pc' := 2) hm28 rfl rfl rfl ?_
  refine wc_I (pc' := 5) (by decide) rfl (by decide) ((fx_wE hm28 rfl).trans (fx_exV (mj := 24) (as := [(0, x1)]) (rest := []) rfl rk24 rfl rfl rfl rfl rfl)) h (fun y1 σ1 h => ?_)
  refine wi_if_ne (pc' := 8) (t := 10) hm28 rfl rfl rfl (fun hc => ?_) (fun hc => ?_)
  · replace h := h.1 hc
    refine wi_aload_n (pc' := 11) hm28 rfl rfl rfl (by decide) ?_
    refine wi_getR (pc' := 14) (x := o0) hm28 rfl rfl rfl (by omega) ?_
    refine wi_iload_n (pc' := 15) hm28 rfl rfl rfl ?_
    obtain ⟨g1, h⟩ := h
    refine wi_baload (pc' := 16) hm28 rfl rfl rfl (N := 8) rfl g1 ?_
    refine wi_iload_n (pc' := 17) hm28 rfl rfl rfl ?_
    refine wi_ic_ne (pc' := 20) (t := 25) hm28 rfl rfl rfl (fun hc => ?_) (fun hc => ?_)
    · replace h := h.1 hc
      refine wi_iconst (pc' := 26) (v := 0) hm28 rfl rfl rfl ?_
      exact wi_iret hm28 rfl h
    · replace h := h.2 hc
      refine wi_bipush (pc' := 22) (v := 6) hm28 rfl rfl rfl ?_
      refine wi_goto (t := 26) hm28 rfl rfl ?_
      exact wi_iret hm28 rfl h
  · replace h := h.2 hc
    refine wi_iconst (pc' := 9) (v := 2) hm28 rfl rfl rfl ?_
    exact wi_iret hm28 rfl h
theorem hm29 : fx_code 29 = fx_c29 := rfl
theorem t29_0 {o0 x1 x2 : Int} {σ : fx_S} {Q : fx_V → fx_S → Prop} (h : fx_Wp 29 5 [(11, o0), (0, x1), (0, x2), (0, 0), (0, 0)] [] σ Q) : fx_Ca 29 [(11, o0), (0, x1), (0, x2)] σ Q := by
  show fx_Wp 29 0 [(11, o0), (0, x1), (0, x2), (3, 0), (3, 0)] [] σ Q
  refine wi_iconst (pc' := 1) (v := 0) hm29 rfl rfl rfl ?_
  refine wi_istore_n (pc' := 2) (L' := [(11, o0), (0, x1), (0, x2), (0, 0), (3, 0)]) hm29 rfl rfl rfl ?_
  refine wi_iconst (pc' := 3) (v := 0) hm29 rfl rfl rfl ?_
  refine wi_istore (pc' := 5) (L' := [(11, o0), (0, x1), (0, x2), (0, 0), (0, 0)]) hm29 rfl rfl rfl ?_
  exact h
theorem t29_5 {o0 x1 x2 x3 x4 : Int} {σ : fx_S} {Q : fx_V → fx_S → Prop} (h : (((σ 11 o0 10) ≤ x4 → ((x3 ≠ 0 → (fx_rg ((σ 11 o0 10) + x3)) ∧ ((60 < ((σ 11 o0 10) + x3) → Q (0, 4) σ) ∧ (((σ 11 o0 10) + x3) ≤ 60 → Q (0, 0) σ))) ∧ (x3 = 0 → Q (0, 6) σ))) ∧ (x4 < (σ 11 o0 10) → fx_CI 30 [(11, o0), (0, x4), (0, x1), (0, x2)] σ Q (fun y1 σ1 => ((y1 = 0 → (fx_rg (x4 + 1)) ∧ fx_Wp 29 5 [(11, o0), (0, x1), (0, x2), (0, x3), (0, (x4 + 1))] [] σ1 Q) ∧ (y1 ≠ 0 → (fx_rg (x3 + 1)) ∧ (fx_rg (x4 + 1)) ∧ fx_Wp 29 5 [(11, o0), (0, x1), (0, x2), (0, (x3 + 1)), (0, (x4 + 1))] [] σ1 Q)))))) : fx_Wp 29 5 [(11, o0), (0, x1), (0, x2), (0, x3), (0, x4)] [] σ Q := by
  refine wi_iload (pc' := 7) hm29 rfl rfl rfl ?_
  refine wi_aload_n (pc' := 8) hm29 rfl rfl rfl (by decide) ?_
  refine wi_getI (pc' := 11) hm29 rfl rfl (P := 10) rfl ?_
  refine wi_ic_ge (pc' := 14) (t := 34) hm29 rfl rfl rfl (fun hc => ?_) (fun hc => ?_)
  · replace h := h.1 hc
    refine wi_iload_n (pc' := 35) hm29 rfl rfl rfl ?_
    refine wi_if_ne (pc' := 38) (t := 41) hm29 rfl rfl rfl (fun hc => ?_) (fun hc => ?_)
    · replace h := h.1 hc
      refine wi_aload_n (pc' := 42) hm29 rfl rfl rfl (by decide) ?_
      refine wi_getI (pc' := 45) hm29 rfl rfl (P := 10) rfl ?_
      refine wi_iload_n (pc' := 46) hm29 rfl rfl rfl ?_
      obtain ⟨g1, h⟩ := h
      refine wi_iadd (pc' := 47) hm29 rfl rfl g1 ?_
      refine wi_bipush (pc' := 49) (v := 60) hm29 rfl rfl rfl ?_
      refine wi_ic_gt (pc' := 52) (t := 56) hm29 rfl rfl rfl (fun hc => ?_) (fun hc => ?_)
      · replace h := h.1 hc
        refine wi_iconst (pc' := 57) (v := 4) hm29 rfl rfl rfl ?_
        exact wi_iret hm29 rfl h
      · replace h := h.2 hc
        refine wi_iconst (pc' := 53) (v := 0) hm29 rfl rfl rfl ?_
        refine wi_goto (t := 57) hm29 rfl rfl ?_
        exact wi_iret hm29 rfl h
    · replace h := h.2 hc
      refine wi_bipush (pc' := 40) (v := 6) hm29 rfl rfl rfl ?_
      exact wi_iret hm29 rfl h
  · replace h := h.2 hc
    refine wi_aload_n (pc' := 15) hm29 rfl rfl rfl (by decide) ?_
    refine wi_iload (pc' := 17) hm29 rfl rfl rfl ?_
    refine wi_iload_n (pc' := 18) hm29 rfl rfl rfl ?_
    refine wi_iload_n (pc' := 19) hm29 rfl rfl rfl ?_
    refine wc_I (pc' := 22) (by decide) rfl (by decide) ((fx_wE hm29 rfl).trans (fx_exV (mj := 30) (as := [(0, x4), (0, x1), (0, x2)]) (rest := []) rfl rk30 rfl rfl rfl rfl rfl)) h (fun y1 σ1 h => ?_)
    refine wi_if_eq (pc' := 25) (t := 28) hm29 rfl rfl rfl (fun hc => ?_) (fun hc => ?_)
    · replace h := h.1 hc
      obtain ⟨g1, h⟩ := h
      refine wi_iinc (pc' := 31) (L' := [(11, o0), (0, x1), (0, x2), (0, x3), (0, (x4 + 1))]) hm29 rfl rfl rfl g1 rfl ?_
      refine wi_goto (t := 5) hm29 rfl rfl ?_
      exact h
    · replace h := h.2 hc
      obtain ⟨g1, h⟩ := h
      refine wi_iinc (pc' := 28) (L' := [(11, o0), (0, x1), (0, x2), (0, (x3 + 1)), (0, x4)]) hm29 rfl rfl rfl g1 rfl ?_
      obtain ⟨g2, h⟩ := h
      refine wi_iinc (pc' := 31) (L' := [(11, o0), (0, x1), (0, x2), (0, (x3 + 1)), (0, (x4 + 1))]) hm29 rfl rfl rfl g2 rfl ?_
      refine wi_goto (t := 5) hm29 rfl rfl ?_
      exact h
theorem hm30 : fx_code 30 = fx_c30 := rfl
theorem t30_0 {o0 x1 x2 x3 : Int} {σ : fx_S} {Q : fx_V → fx_S → Prop} (h : (0 ≤ x1 ∧ x1 < 60) ∧ (((σ 15 o0 x1) ≠ x2 → Q (0, 0) σ) ∧ ((σ 15 o0 x1) = x2 → (((σ 20 o0 x1) ≠ 0 → Q (0, 0) σ) ∧ ((σ 20 o0 x1) = 0 → ((x3 ≤ (σ 17 o0 x1) → Q (0, 0) σ) ∧ ((σ 17 o0 x1) < x3 → (((σ 18 o0 x1) ≤ x3 → Q (0, 0) σ) ∧ (x3 < (σ 18 o0 x1) → Q (0, 1) σ))))))))) : fx_Ca 30 [(11, o0), (0, x1), (0, x2), (0, x3)] σ Q := by
  show fx_Wp 30 0 [(11, o0), (0, x1), (0, x2), (0, x3)] [] σ Q
  refine wi_aload_n (pc' := 1) hm30 rfl rfl rfl (by decide) ?_
  refine wi_getR (pc' := 4) (x := o0) hm30 rfl rfl rfl (by omega) ?_
  refine wi_iload_n (pc' := 5) hm30 rfl rfl rfl ?_
  obtain ⟨g1, h⟩ := h
  refine wi_iaload (pc' := 6) hm30 rfl rfl rfl rfl (N := 60) rfl g1 ?_
  refine wi_iload_n (pc' := 7) hm30 rfl rfl rfl ?_
  refine wi_ic_ne (pc' := 10) (t := 43) hm30 rfl rfl rfl (fun hc => ?_) (fun hc => ?_)
  · replace h := h.1 hc
    refine wi_iconst (pc' := 44) (v := 0) hm30 rfl rfl rfl ?_
    exact wi_zret hm30 rfl (by decide) h
  · replace h := h.2 hc
    refine wi_aload_n (pc' := 11) hm30 rfl rfl rfl (by decide) ?_
    refine wi_getR (pc' := 14) (x := o0) hm30 rfl rfl rfl (by omega) ?_
    refine wi_iload_n (pc' := 15) hm30 rfl rfl rfl ?_
    refine wi_baload (pc' := 16) hm30 rfl rfl rfl (N := 60) rfl g1 ?_
    refine wi_if_ne (pc' := 19) (t := 43) hm30 rfl rfl rfl (fun hc => ?_) (fun hc => ?_)
    · replace h := h.1 hc
      refine wi_iconst (pc' := 44) (v := 0) hm30 rfl rfl rfl ?_
      exact wi_zret hm30 rfl (by decide) h
    · replace h := h.2 hc
      refine wi_aload_n (pc' := 20) hm30 rfl rfl rfl (by decide) ?_
      refine wi_getR (pc' := 23) (x := o0) hm30 rfl rfl rfl (by omega) ?_
      refine wi_iload_n (pc' := 24) hm30 rfl rfl rfl ?_
      refine wi_iaload (pc' := 25) hm30 rfl rfl rfl rfl (N := 60) rfl g1 ?_
      refine wi_iload_n (pc' := 26) hm30 rfl rfl rfl ?_
      refine wi_ic_ge (pc' := 29) (t := 43) hm30 rfl rfl rfl (fun hc => ?_) (fun hc => ?_)
      · replace h := h.1 hc
        refine wi_iconst (pc' := 44) (v := 0) hm30 rfl rfl rfl ?_
        exact wi_zret hm30 rfl (by decide) h
      · replace h := h.2 hc
        refine wi_aload_n (pc' := 30) hm30 rfl rfl rfl (by decide) ?_
        refine wi_getR (pc' := 33) (x := o0) hm30 rfl rfl rfl (by omega) ?_
        refine wi_iload_n (pc' := 34) hm30 rfl rfl rfl ?_
        refine wi_iaload (pc' := 35) hm30 rfl rfl rfl rfl (N := 60) rfl g1 ?_
        refine wi_iload_n (pc' := 36) hm30 rfl rfl rfl ?_
        refine wi_ic_le (pc' := 39) (t := 43) hm30 rfl rfl rfl (fun hc => ?_) (fun hc => ?_)
        · replace h := h.1 hc
          refine wi_iconst (pc' := 44) (v := 0) hm30 rfl rfl rfl ?_
          exact wi_zret hm30 rfl (by decide) h
        · replace h := h.2 hc
          refine wi_iconst (pc' := 40) (v := 1) hm30 rfl rfl rfl ?_
          refine wi_goto (t := 44) hm30 rfl rfl ?_
          exact wi_zret hm30 rfl (by decide) h
theorem hm31 : fx_code 31 = fx_c31 := rfl
theorem t31_0 {o0 o1 : Int} {σ : fx_S} {Q : fx_V → fx_S → Prop} (h : (((σ 26 o1 2) = 16 → (0 ≤ (σ 27 o1 0) ∧ (σ 27 o1 0) < 8) ∧ fx_CV 4 [(22, (8 * o0 + 0 + (σ 27 o1 0)))] σ Q (fun σ1 => Q (4, 0) σ1)) ∧ ((σ 26 o1 2) ≠ 16 → (((σ 26 o1 2) = 17 → fx_CV 32 [(11, o0), (0, (σ 27 o1 0))] σ Q (fun σ2 => Q (4, 0) σ2)) ∧ ((σ 26 o1 2) ≠ 17 → (((σ 26 o1 2) = 18 → fx_CV 33 [(11, o0), (0, (σ 27 o1 0)), (0, (σ 27 o1 1)), (0, (σ 27 o1 2)), (0, (σ 27 o1 3)), (0, (σ 27 o1 4))] σ Q (fun σ3 => Q (4, 0) σ3)) ∧ ((σ 26 o1 2) ≠ 18 → (((σ 26 o1 2) = 19 → (0 ≤ (σ 27 o1 0) ∧ (σ 27 o1 0) < 60) ∧ Q (4, 0) (fx_up σ 20 o0 (σ 27 o1 0) 1)) ∧ ((σ 26 o1 2) ≠ 19 → (((σ 26 o1 2) = 20 → (((σ 26 o1 2) ≠ 20 → (0 ≤ (σ 27 o1 0) ∧ (σ 27 o1 0) < 8) ∧ Q (4, 0) (fx_up σ 14 o0 (σ 27 o1 0) 0)) ∧ ((σ 26 o1 2) = 20 → (0 ≤ (σ 27 o1 0) ∧ (σ 27 o1 0) < 8) ∧ Q (4, 0) (fx_up σ 14 o0 (σ 27 o1 0) 1)))) ∧ ((σ 26 o1 2) ≠ 20 → (((σ 26 o1 2) = 21 → (((σ 26 o1 2) ≠ 20 → (0 ≤ (σ 27 o1 0) ∧ (σ 27 o1 0) < 8) ∧ Q (4, 0) (fx_up σ 14 o0 (σ 27 o1 0) 0)) ∧ ((σ 26 o1 2) = 20 → (0 ≤ (σ 27 o1 0) ∧ (σ 27 o1 0) < 8) ∧ Q (4, 0) (fx_up σ 14 o0 (σ 27 o1 0) 1)))) ∧ ((σ 26 o1 2) ≠ 21 → (((σ 26 o1 2) = 22 → (0 ≤ (σ 27 o1 0) ∧ (σ 27 o1 0) < 8) ∧ Q (4, 0) (fx_up σ 13 o0 (σ 27 o1 0) (σ 27 o1 1))) ∧ ((σ 26 o1 2) ≠ 22 → (((σ 26 o1 2) = 23 → fx_CV 34 [(11, o0), (0, (σ 27 o1 0)), (0, (σ 27 o1 1))] σ Q (fun σ4 => Q (4, 0) σ4)) ∧ ((σ 26 o1 2) ≠ 23 → (((σ 26 o1 2) = 24 → (0 ≤ (σ 27 o1 0) ∧ (σ 27 o1 0) < 8) ∧ fx_CV 5 [(22, (8 * o0 + 0 + (σ 27 o1 0))), (22, (1 * o1 + 88))] σ Q (fun σ5 => Q (4, 0) σ5)) ∧ ((σ 26 o1 2) ≠ 24 → Q (4, 0) σ))))))))))))))))))) : fx_Ca 31 [(11, o0), (26, o1)] σ Q := by
  show fx_Wp 31 0 [(11, o0), (26, o1), (3, 0), (3, 0)] [] σ Q
  refine wi_aload_n (pc' := 1) hm31 rfl rfl rfl (by decide) ?_
  refine wi_getR (pc' := 4) (x := o1) hm31 rfl rfl rfl (by omega) ?_
  refine wi_iconst (pc' := 5) (v := 0) hm31 rfl rfl rfl ?_
  refine wi_iaload (pc' := 6) hm31 rfl rfl rfl rfl (N := 5) rfl (by decide) ?_
  refine wi_istore_n (pc' := 7) (L' := [(11, o0), (26, o1), (0, (σ 27 o1 0)), (3, 0)]) hm31 rfl rfl rfl ?_
  refine wi_aload_n (pc' := 8) hm31 rfl rfl rfl (by decide) ?_
  refine wi_getR (pc' := 11) (x := o1) hm31 rfl rfl rfl (by omega) ?_
  refine wi_iconst (pc' := 12) (v := 1) hm31 rfl rfl rfl ?_
  refine wi_iaload (pc' := 13) hm31 rfl rfl rfl rfl (N := 5) rfl (by decide) ?_
  refine wi_istore_n (pc' := 14) (L' := [(11, o0), (26, o1), (0, (σ 27 o1 0)), (0, (σ 27 o1 1))]) hm31 rfl rfl rfl ?_
  refine wi_aload_n (pc' := 15) hm31 rfl rfl rfl (by decide) ?_
  refine wi_getI (pc' := 18) hm31 rfl rfl (P := 2) rfl ?_
  refine wi_tsw hm31 rfl ?_
  refine fx_swc (fun hc => ?_) (fun hc => ?_)
  · replace h := h.1 hc
    refine wi_aload_n (pc' := 156) hm31 rfl rfl rfl (by decide) ?_
    refine wi_getR (pc' := 159) (x := o0) hm31 rfl rfl rfl (by omega) ?_
    refine wi_iload_n (pc' := 160) hm31 rfl rfl rfl ?_
    obtain ⟨g1, h⟩ := h
    refine wi_aaload (pc' := 161) (x := (8 * o0 + 0 + (σ 27 o1 0))) hm31 rfl rfl rfl rfl (N := 8) rfl g1 (by omega) ?_
    refine wc_V (pc' := 164) (by decide) rfl (by decide) ((fx_wE hm31 rfl).trans (fx_exV (mj := 4) (as := []) (rest := []) rfl rk4 rfl rfl rfl rfl rfl)) h (fun σ1 h => ?_)
    refine wi_goto (t := 183) hm31 rfl rfl ?_
    exact wi_vret hm31 rfl h
  · replace h := h.2 hc
    refine fx_swc (fun hc => ?_) (fun hc => ?_)
    · replace h := h.1 hc
      refine wi_aload_n (pc' := 69) hm31 rfl rfl rfl (by decide) ?_
      refine wi_iload_n (pc' := 70) hm31 rfl rfl rfl ?_
      refine wc_V (pc' := 73) (by decide) rfl (by decide) ((fx_wE hm31 rfl).trans (fx_exV (mj := 32) (as := [(0, (σ 27 o1 0))]) (rest := []) rfl rk32 rfl rfl rfl rfl rfl)) h (fun σ2 h => ?_)
      refine wi_goto (t := 183) hm31 rfl rfl ?_
      exact wi_vret hm31 rfl h
    · replace h := h.2 hc
      refine fx_swc (fun hc => ?_) (fun hc => ?_)
      · replace h := h.1 hc
        refine wi_aload_n (pc' := 77) hm31 rfl rfl rfl (by decide) ?_
        refine wi_iload_n (pc' := 78) hm31 rfl rfl rfl ?_
        refine wi_iload_n (pc' := 79) hm31 rfl rfl rfl ?_
        refine wi_aload_n (pc' := 80) hm31 rfl rfl rfl (by decide) ?_
        refine wi_getR (pc' := 83) (x := o1) hm31 rfl rfl rfl (by omega) ?_
        refine wi_iconst (pc' := 84) (v := 2) hm31 rfl rfl rfl ?_
        refine wi_iaload (pc' := 85) hm31 rfl rfl rfl rfl (N := 5) rfl (by decide) ?_
        refine wi_aload_n (pc' := 86) hm31 rfl rfl rfl (by decide) ?_
        refine wi_getR (pc' := 89) (x := o1) hm31 rfl rfl rfl (by omega) ?_
        refine wi_iconst (pc' := 90) (v := 3) hm31 rfl rfl rfl ?_
        refine wi_iaload (pc' := 91) hm31 rfl rfl rfl rfl (N := 5) rfl (by decide) ?_
        refine wi_aload_n (pc' := 92) hm31 rfl rfl rfl (by decide) ?_
        refine wi_getR (pc' := 95) (x := o1) hm31 rfl rfl rfl (by omega) ?_
        refine wi_iconst (pc' := 96) (v := 4) hm31 rfl rfl rfl ?_
        refine wi_iaload (pc' := 97) hm31 rfl rfl rfl rfl (N := 5) rfl (by decide) ?_
        refine wc_V (pc' := 100) (by decide) rfl (by decide) ((fx_wE hm31 rfl).trans (fx_exV (mj := 33) (as := [(0, (σ 27 o1 0)), (0, (σ 27 o1 1)), (0, (σ 27 o1 2)), (0, (σ 27 o1 3)), (0, (σ 27 o1 4))]) (rest := []) rfl rk33 rfl rfl rfl rfl rfl)) h (fun σ3 h => ?_)
        refine wi_goto (t := 183) hm31 rfl rfl ?_
        exact wi_vret hm31 rfl h
      · replace h := h.2 hc
        refine fx_swc (fun hc => ?_) (fun hc => ?_)
        · replace h := h.1 hc
          refine wi_aload_n (pc' := 104) hm31 rfl rfl rfl (by decide) ?_
          refine wi_getR (pc' := 107) (x := o0) hm31 rfl rfl rfl (by omega) ?_
          refine wi_iload_n (pc' := 108) hm31 rfl rfl rfl ?_
          refine wi_iconst (pc' := 109) (v := 1) hm31 rfl rfl rfl ?_
          obtain ⟨g1, h⟩ := h
          refine wi_bastore (pc' := 110) hm31 rfl rfl rfl (N := 60) rfl g1 (by decide) ?_
          refine wi_goto (t := 183) hm31 rfl rfl ?_
          exact wi_vret hm31 rfl h
        · replace h := h.2 hc
          refine fx_swc (fun hc => ?_) (fun hc => ?_)
          · replace h := h.1 hc
            refine wi_aload_n (pc' := 114) hm31 rfl rfl rfl (by decide) ?_
            refine wi_getR (pc' := 117) (x := o0) hm31 rfl rfl rfl (by omega) ?_
            refine wi_iload_n (pc' := 118) hm31 rfl rfl rfl ?_
            refine wi_aload_n (pc' := 119) hm31 rfl rfl rfl (by decide) ?_
            refine wi_getI (pc' := 122) hm31 rfl rfl (P := 2) rfl ?_
            refine wi_bipush (pc' := 124) (v := 20) hm31 rfl rfl rfl ?_
            refine wi_ic_ne (pc' := 127) (t := 131) hm31 rfl rfl rfl (fun hc => ?_) (fun hc => ?_)
            · replace h := h.1 hc
              refine wi_iconst (pc' := 132) (v := 0) hm31 rfl rfl rfl ?_
              obtain ⟨g1, h⟩ := h
              refine wi_bastore (pc' := 133) hm31 rfl rfl rfl (N := 8) rfl g1 (by decide) ?_
              refine wi_goto (t := 183) hm31 rfl rfl ?_
              exact wi_vret hm31 rfl h
            · replace h := h.2 hc
              refine wi_iconst (pc' := 128) (v := 1) hm31 rfl rfl rfl ?_
              refine wi_goto (t := 132) hm31 rfl rfl ?_
              obtain ⟨g1, h⟩ := h
              refine wi_bastore (pc' := 133) hm31 rfl rfl rfl (N := 8) rfl g1 (by decide) ?_
              refine wi_goto (t := 183) hm31 rfl rfl ?_
              exact wi_vret hm31 rfl h
          · replace h := h.2 hc
            refine fx_swc (fun hc => ?_) (fun hc => ?_)
            · replace h := h.1 hc
              refine wi_aload_n (pc' := 114) hm31 rfl rfl rfl (by decide) ?_
              refine wi_getR (pc' := 117) (x := o0) hm31 rfl rfl rfl (by omega) ?_
              refine wi_iload_n (pc' := 118) hm31 rfl rfl rfl ?_
              refine wi_aload_n (pc' := 119) hm31 rfl rfl rfl (by decide) ?_
              refine wi_getI (pc' := 122) hm31 rfl rfl (P := 2) rfl ?_
              refine wi_bipush (pc' := 124) (v := 20) hm31 rfl rfl rfl ?_
              refine wi_ic_ne (pc' := 127) (t := 131) hm31 rfl rfl rfl (fun hc => ?_) (fun hc => ?_)
              · replace h := h.1 hc
                refine wi_iconst (pc' := 132) (v := 0) hm31 rfl rfl rfl ?_
                obtain ⟨g1, h⟩ := h
                refine wi_bastore (pc' := 133) hm31 rfl rfl rfl (N := 8) rfl g1 (by decide) ?_
                refine wi_goto (t := 183) hm31 rfl rfl ?_
                exact wi_vret hm31 rfl h
              · replace h := h.2 hc
                refine wi_iconst (pc' := 128) (v := 1) hm31 rfl rfl rfl ?_
                refine wi_goto (t := 132) hm31 rfl rfl ?_
                obtain ⟨g1, h⟩ := h
                refine wi_bastore (pc' := 133) hm31 rfl rfl rfl (N := 8) rfl g1 (by decide) ?_
                refine wi_goto (t := 183) hm31 rfl rfl ?_
                exact wi_vret hm31 rfl h
            · replace h := h.2 hc
              refine fx_swc (fun hc => ?_) (fun hc => ?_)
              · replace h := h.1 hc
                refine wi_aload_n (pc' := 137) hm31 rfl rfl rfl (by decide) ?_
                refine wi_getR (pc' := 140) (x := o0) hm31 rfl rfl rfl (by omega) ?_
                refine wi_iload_n (pc' := 141) hm31 rfl rfl rfl ?_
                refine wi_iload_n (pc' := 142) hm31 rfl rfl rfl ?_
                obtain ⟨g1, h⟩ := h
                refine wi_iastore (pc' := 143) hm31 rfl rfl rfl (N := 8) rfl g1 ?_
                refine wi_goto (t := 183) hm31 rfl rfl ?_
                exact wi_vret hm31 rfl h
              · replace h := h.2 hc
                refine fx_swc (fun hc => ?_) (fun hc => ?_)
                · replace h := h.1 hc
                  refine wi_aload_n (pc' := 147) hm31 rfl rfl rfl (by decide) ?_
                  refine wi_iload_n (pc' := 148) hm31 rfl rfl rfl ?_
                  refine wi_iload_n (pc' := 149) hm31 rfl rfl rfl ?_
                  refine wc_V (pc' := 152) (by decide) rfl (by decide) ((fx_wE hm31 rfl).trans (fx_exV (mj := 34) (as := [(0, (σ 27 o1 0)), (0, (σ 27 o1 1))]) (rest := []) rfl rk34 rfl rfl rfl rfl rfl)) h (fun σ4 h => ?_)
                  refine wi_goto (t := 183) hm31 rfl rfl ?_
                  exact wi_vret hm31 rfl h
                · replace h := h.2 hc
                  refine fx_swc (fun hc => ?_) (fun hc => ?_)
                  · replace h := h.1 hc
                    refine wi_aload_n (pc' := 168) hm31 rfl rfl rfl (by decide) ?_
                    refine wi_getR (pc' := 171) (x := o0) hm31 rfl rfl rfl (by omega) ?_
                    refine wi_iload_n (pc' := 172) hm31 rfl rfl rfl ?_
                    obtain ⟨g1, h⟩ := h
                    refine wi_aaload (pc' := 173) (x := (8 * o0 + 0 + (σ 27 o1 0))) hm31 rfl rfl rfl rfl (N := 8) rfl g1 (by omega) ?_
                    refine wi_aload_n (pc' := 174) hm31 rfl rfl rfl (by decide) ?_
                    refine wi_getR (pc' := 177) (x := (1 * o1 + 88)) hm31 rfl rfl rfl (by omega) ?_
                    refine wc_V (pc' := 180) (by decide) rfl (by decide) ((fx_wE hm31 rfl).trans (fx_exV (mj := 5) (as := [(22, (1 * o1 + 88))]) (rest := []) rfl rk5 rfl rfl rfl rfl rfl)) h (fun σ5 h => ?_)
                    refine wi_goto (t := 183) hm31 rfl rfl ?_
                    exact wi_vret hm31 rfl h
                  · replace h := h.2 hc
                    refine fx_swn ?_
                    exact wi_vret hm31 rfl h
theorem hm32 : fx_code 32 = fx_c32 := rfl
theorem t32_0 {o0 x1 : Int} {σ : fx_S} {Q : fx_V → fx_S → Prop} (h : ((8 ≤ (σ 11 o0 9) → Q (4, 0) σ) ∧ ((σ 11 o0 9) < 8 → (0 ≤ (σ 11 o0 9) ∧ (σ 11 o0 9) < 8) ∧ (fx_rg ((σ 11 o0 9) + 1)) ∧ Q (4, 0) (fx_up (fx_up (fx_up σ 13 o0 (σ 11 o0 9) x1) 14 o0 (σ 11 o0 9) 0) 11 o0 9 ((σ 11 o0 9) + 1))))) : fx_Ca 32 [(11, o0), (0, x1)] σ Q := by
  show fx_Wp 32 0 [(11, o0), (0, x1)] [] σ Q
  refine wi_aload_n (pc' := 1) hm32 rfl rfl rfl (by decide) ?_
  refine wi_getI (pc' := 4) hm32 rfl rfl (P := 9) rfl ?_
  refine wi_bipush (pc' := 6) (v := 8) hm32 rfl rfl rfl ?_
  refine wi_ic_ge (pc' := 9) (t := 39) hm32 rfl rfl rfl (fun hc => ?_) (fun hc => ?_)
  · replace h := h.1 hc
    exact wi_vret hm32 rfl h
  · replace h := h.2 hc
    refine wi_aload_n (pc' := 10) hm32 rfl rfl rfl (by decide) ?_
    refine wi_getR (pc' := 13) (x := o0) hm32 rfl rfl rfl (by omega) ?_
    refine wi_aload_n (pc' := 14) hm32 rfl rfl rfl (by decide) ?_
    refine wi_getI (pc' := 17) hm32 rfl rfl (P := 9) rfl ?_
    refine wi_iload_n (pc' := 18) hm32 rfl rfl rfl ?_
    obtain ⟨g1, h⟩ := h
    refine wi_iastore (pc' := 19) hm32 rfl rfl rfl (N := 8) rfl g1 ?_
    refine wi_aload_n (pc' := 20) hm32 rfl rfl rfl (by decide) ?_
    refine wi_getR (pc' := 23) (x := o0) hm32 rfl rfl rfl (by omega) ?_
    refine wi_aload_n (pc' := 24) hm32 rfl rfl rfl (by decide) ?_
    refine wi_getIe (pc' := 27) hm32 rfl rfl (P := 9) rfl (x := (σ 11 o0 9)) (Eq.trans (fx_upK rfl) rfl) ?_
    refine wi_iconst (pc' := 28) (v := 0) hm32 rfl rfl rfl ?_
    refine wi_bastore (pc' := 29) hm32 rfl rfl rfl (N := 8) rfl g1 (by decide) ?_
    refine wi_aload_n (pc' := 30) hm32 rfl rfl rfl (by decide) ?_
    refine wi_dup (pc' := 31) hm32 rfl rfl rfl ?_
    refine wi_getIe (pc' := 34) hm32 rfl rfl (P := 9) rfl (x := (σ 11 o0 9)) (Eq.trans (fx_upK rfl) (Eq.trans (fx_upK rfl) rfl)) ?_
    refine wi_iconst (pc' := 35) (v := 1) hm32 rfl rfl rfl ?_
    obtain ⟨g2, h⟩ := h
    refine wi_iadd (pc' := 36) hm32 rfl rfl g2 ?_
    refine wi_putI (pc' := 39) hm32 rfl rfl (P := 9) rfl ?_
    exact wi_vret hm32 rfl h
theorem hm33 : fx_code 33 = fx_c33 := rfl
theorem t33_0 {o0 x1 x2 x3 x4 x5 : Int} {σ : fx_S} {Q : fx_V → fx_S → Prop} (h : ((60 ≤ (σ 11 o0 10) → Q (4, 0) σ) ∧ ((σ 11 o0 10) < 60 → (0 ≤ (σ 11 o0 10) ∧ (σ 11 o0 10) < 60) ∧ (fx_rg ((σ 11 o0 10) + 1)) ∧ Q (4, 0) (fx_up (fx_up (fx_up (fx_up (fx_up (fx_up (fx_up σ 15 o0 (σ 11 o0 10) x1) 16 o0 (σ 11 o0 10) x2) 17 o0 (σ 11 o0 10) x3) 18 o0 (σ 11 o0 10) x4) 19 o0 (σ 11 o0 10) x5) 20 o0 (σ 11 o0 10) 0) 11 o0 10 ((σ 11 o0 10) + 1))))) : fx_Ca 33 [(11, o0), (0, x1), (0, x2), (0, x3), (0, x4), (0, x5)] σ Q := by
  show fx_Wp 33 0 [(11, o0), (0, x1), (0, x2), (0, x3), (0, x4), (0, x5)] [] σ Q
  refine wi_aload_n (pc' := 1) hm33 rfl rfl rfl (by decide) ?_
  refine wi_getI (pc' := 4) hm33 rfl rfl (P := 10) rfl ?_
  refine wi_bipush (pc' := 6) (v := 60) hm33 rfl rfl rfl ?_
  refine wi_ic_ge (pc' := 9) (t := 81) hm33 rfl rfl rfl (fun hc => ?_) (fun hc => ?_)
  · replace h := h.1 hc
    exact wi_vret hm33 rfl h
  · replace h := h.2 hc
    refine wi_aload_n (pc' := 10) hm33 rfl rfl rfl (by decide) ?_
    refine wi_getR (pc' := 13) (x := o0) hm33 rfl rfl rfl (by omega) ?_
    refine wi_aload_n (pc' := 14) hm33 rfl rfl rfl (by decide) ?_
    refine wi_getI (pc' := 17) hm33 rfl rfl (P := 10) rfl ?_
    refine wi_iload_n (pc' := 18) hm33 rfl rfl rfl ?_
    obtain ⟨g1, h⟩ := h
    refine wi_iastore (pc' := 19) hm33 rfl rfl rfl (N := 60) rfl g1 ?_
    refine wi_aload_n (pc' := 20) hm33 rfl rfl rfl (by decide) ?_
    refine wi_getR (pc' := 23) (x := o0) hm33 rfl rfl rfl (by omega) ?_
    refine wi_aload_n (pc' := 24) hm33 rfl rfl rfl (by decide) ?_
    refine wi_getIe (pc' := 27) hm33 rfl rfl (P := 10) rfl (x := (σ 11 o0 10)) (Eq.trans (fx_upK rfl) rfl) ?_
    refine wi_iload_n (pc' := 28) hm33 rfl rfl rfl ?_
    refine wi_iastore (pc' := 29) hm33 rfl rfl rfl (N := 60) rfl g1 ?_
    refine wi_aload_n (pc' := 30) hm33 rfl rfl rfl (by decide) ?_
    refine wi_getR (pc' := 33) (x := o0) hm33 rfl rfl rfl (by omega) ?_
    refine wi_aload_n (pc' := 34) hm33 rfl rfl rfl (by decide) ?_
    refine wi_getIe (pc' := 37) hm33 rfl rfl (P := 10) rfl (x := (σ 11 o0 10)) (Eq.trans (fx_upK rfl) (Eq.trans (fx_upK rfl) rfl)) ?_
    refine wi_iload_n (pc' := 38) hm33 rfl rfl rfl ?_
    refine wi_iastore (pc' := 39) hm33 rfl rfl rfl (N := 60) rfl g1 ?_
    refine wi_aload_n (pc' := 40) hm33 rfl rfl rfl (by decide) ?_
    refine wi_getR (pc' := 43) (x := o0) hm33 rfl rfl rfl (by omega) ?_
    refine wi_aload_n (pc' := 44) hm33 rfl rfl rfl (by decide) ?_
    refine wi_getIe (pc' := 47) hm33 rfl rfl (P := 10) rfl (x := (σ 11 o0 10)) (Eq.trans (fx_upK rfl) (Eq.trans (fx_upK rfl) (Eq.trans (fx_upK rfl) rfl))) ?_
    refine wi_iload (pc' := 49) hm33 rfl rfl rfl ?_
    refine wi_iastore (pc' := 50) hm33 rfl rfl rfl (N := 60) rfl g1 ?_
    refine wi_aload_n (pc' := 51) hm33 rfl rfl rfl (by decide) ?_
    refine wi_getR (pc' := 54) (x := o0) hm33 rfl rfl rfl (by omega) ?_
    refine wi_aload_n (pc' := 55) hm33 rfl rfl rfl (by decide) ?_
    refine wi_getIe (pc' := 58) hm33 rfl rfl (P := 10) rfl (x := (σ 11 o0 10)) (Eq.trans (fx_upK rfl) (Eq.trans (fx_upK rfl) (Eq.trans (fx_upK rfl) (Eq.trans (fx_upK rfl) rfl)))) ?_
    refine wi_iload (pc' := 60) hm33 rfl rfl rfl ?_
    refine wi_iastore (pc' := 61) hm33 rfl rfl rfl (N := 60) rfl g1 ?_
    refine wi_aload_n (pc' := 62) hm33 rfl rfl rfl (by decide) ?_
    refine wi_getR (pc' := 65) (x := o0) hm33 rfl rfl rfl (by omega) ?_
    refine wi_aload_n (pc' := 66) hm33 rfl rfl rfl (by decide) ?_
    refine wi_getIe (pc' := 69) hm33 rfl rfl (P := 10) rfl (x := (σ 11 o0 10)) (Eq.trans (fx_upK rfl) (Eq.trans (fx_upK rfl) (Eq.trans (fx_upK rfl) (Eq.trans (fx_upK rfl) (Eq.trans (fx_upK rfl) rfl))))) ?_
    refine wi_iconst (pc' := 70) (v := 0) hm33 rfl rfl rfl ?_
    refine wi_bastore (pc' := 71) hm33 rfl rfl rfl (N := 60) rfl g1 (by decide) ?_
    refine wi_aload_n (pc' := 72) hm33 rfl rfl rfl (by decide) ?_
    refine wi_dup (pc' := 73) hm33 rfl rfl rfl ?_
    refine wi_getIe (pc' := 76) hm33 rfl rfl (P := 10) rfl (x := (σ 11 o0 10)) (Eq.trans (fx_upK rfl) (Eq.trans (fx_upK rfl) (Eq.trans (fx_upK rfl) (Eq.trans (fx_upK rfl) (Eq.trans (fx_upK rfl) (Eq.trans (fx_upK rfl) rfl)))))) ?_
    refine wi_iconst (pc' := 77) (v := 1) hm33 rfl rfl rfl ?_
    obtain ⟨g2, h⟩ := h
    refine wi_iadd (pc' := 78) hm33 rfl rfl g2 ?_
    refine wi_putI (pc' := 81) hm33 rfl rfl (P := 10) rfl ?_
    exact wi_vret hm33 rfl h
theorem hm34 : fx_code 34 = fx_c34 := rfl
theorem t34_0 {o0 x1 x2 : Int} {σ : fx_S} {Q : fx_V → fx_S → Prop} (h : fx_Wp 34 8 [(11, o0), (0, x1), (0, x2), (0, (σ 11 o0 10)), (0, 0)] [] σ Q) : fx_Ca 34 [(11, o0), (0, x1), (0, x2)] σ Q := by
  show fx_Wp 34 0 [(11, o0), (0, x1), (0, x2), (3, 0), (3, 0)] [] σ Q
  refine wi_aload_n (pc' := 1) hm34 rfl rfl rfl (by decide) ?_
  refine wi_getI (pc' := 4) hm34 rfl rfl (P := 10) rfl ?_
  refine wi_istore_n (pc' := 5) (L' := [(11, o0), (0, x1), (0, x2), (0, (σ 11 o0 10)), (3, 0)]) hm34 rfl rfl rfl ?_
  refine wi_iconst (pc' := 6) (v := 0) hm34 rfl rfl rfl ?_
  refine wi_istore (pc' := 8) (L' := [(11, o0), (0, x1), (0, x2), (0, (σ 11 o0 10)), (0, 0)]) hm34 rfl rfl rfl ?_
  exact h
theorem t34_8 {o0 x1 x2 x3 x4 : Int} {σ : fx_S} {Q : fx_V → fx_S → Prop} (h : ((x3 ≤ x4 → Q (4, 0) σ) ∧ (x4 < x3 → fx_CI 30 [(11, o0), (0, x4), (0, x1), (0, x2)] σ Q (fun y1 σ1 => ((y1 = 0 → (fx_rg (x4 + 1)) ∧ fx_Wp 34 8 [(11, o0), (0, x1), (0, x2), (0, x3), (0, (x4 + 1))] [] σ1 Q) ∧ (y1 ≠ 0 → (0 ≤ x4 ∧ x4 < 60) ∧ fx_CV 33 [(11, o0), (0, x1), (0, (σ1 16 o0 x4)), (0, x2), (0, (σ1 18 o0 x4)), (0, (σ1 19 o0 x4))] σ1 Q (fun σ2 => (fx_rg (x4 + 1)) ∧ fx_Wp 34 8 [(11, o0), (0, x1), (0, x2), (0, x3), (0, (x4 + 1))] [] (fx_up σ2 18 o0 x4 x2) Q))))))) : fx_Wp 34 8 [(11, o0), (0, x1), (0, x2), (0, x3), (0, x4)] [] σ Q := by
  refine wi_iload (pc' := 10) hm34 rfl rfl rfl ?_
  refine wi_iload_n (pc' := 11) hm34 rfl rfl rfl ?_
  refine wi_ic_ge (pc' := 14) (t := 66) hm34 rfl rfl rfl (fun hc => ?_) (fun hc => ?_)
  · replace h := h.1 hc
    exact wi_vret hm34 rfl h
  · replace h := h.2 hc
    refine wi_aload_n (pc' := 15) hm34 rfl rfl rfl (by decide) ?_
    refine wi_iload (pc' := 17) hm34 rfl rfl rfl ?_
    refine wi_iload_n (pc' := 18) hm34 rfl rfl rfl ?_
    refine wi_iload_n (pc' := 19) hm34 rfl rfl rfl ?_
    refine wc_I (pc' := 22) (by decide) rfl (by decide) ((fx_wE hm34 rfl).trans (fx_exV (mj := 30) (as := [(0, x4), (0, x1), (0, x2)]) (rest := []) rfl rk30 rfl rfl rfl rfl rfl)) h (fun y1 σ1 h => ?_)
    refine wi_if_eq (pc' := 25) (t := 60) hm34 rfl rfl rfl (fun hc => ?_) (fun hc => ?_)
    · replace h := h.1 hc
      obtain ⟨g1, h⟩ := h
      refine wi_iinc (pc' := 63) (L' := [(11, o0), (0, x1), (0, x2), (0, x3), (0, (x4 + 1))]) hm34 rfl rfl rfl g1 rfl ?_
      refine wi_goto (t := 8) hm34 rfl rfl ?_
      exact h
    · replace h := h.2 hc
      refine wi_aload_n (pc' := 26) hm34 rfl rfl rfl (by decide) ?_
      refine wi_iload_n (pc' := 27) hm34 rfl rfl rfl ?_
      refine wi_aload_n (pc' := 28) hm34 rfl rfl rfl (by decide) ?_
      refine wi_getR (pc' := 31) (x := o0) hm34 rfl rfl rfl (by omega) ?_
      refine wi_iload (pc' := 33) hm34 rfl rfl rfl ?_
      obtain ⟨g1, h⟩ := h
      refine wi_iaload (pc' := 34) hm34 rfl rfl rfl rfl (N := 60) rfl g1 ?_
      refine wi_iload_n (pc' := 35) hm34 rfl rfl rfl ?_
      refine wi_aload_n (pc' := 36) hm34 rfl rfl rfl (by decide) ?_
      refine wi_getR (pc' := 39) (x := o0) hm34 rfl rfl rfl (by omega) ?_
      refine wi_iload (pc' := 41) hm34 rfl rfl rfl ?_
      refine wi_iaload (pc' := 42) hm34 rfl rfl rfl rfl (N := 60) rfl g1 ?_
      refine wi_aload_n (pc' := 43) hm34 rfl rfl rfl (by decide) ?_
      refine wi_getR (pc' := 46) (x := o0) hm34 rfl rfl rfl (by omega) ?_
      refine wi_iload (pc' := 48) hm34 rfl rfl rfl ?_
      refine wi_iaload (pc' := 49) hm34 rfl rfl rfl rfl (N := 60) rfl g1 ?_
      refine wc_V (pc' := 52) (by decide) rfl (by decide) ((fx_wE hm34 rfl).trans (fx_exV (mj := 33) (as := [(0, x1), (0, (σ1 16 o0 x4)), (0, x2), (0, (σ1 18 o0 x4)), (0, (σ1 19 o0 x4))]) (rest := []) rfl rk33 rfl rfl rfl rfl rfl)) h (fun σ2 h => ?_)
      refine wi_aload_n (pc' := 53) hm34 rfl rfl rfl (by decide) ?_
      refine wi_getR (pc' := 56) (x := o0) hm34 rfl rfl rfl (by omega) ?_
      refine wi_iload (pc' := 58) hm34 rfl rfl rfl ?_
      refine wi_iload_n (pc' := 59) hm34 rfl rfl rfl ?_
      refine wi_iastore (pc' := 60) hm34 rfl rfl rfl (N := 60) rfl g1 ?_
      obtain ⟨g2, h⟩ := h
      refine wi_iinc (pc' := 63) (L' := [(11, o0), (0, x1), (0, x2), (0, x3), (0, (x4 + 1))]) hm34 rfl rfl rfl g2 rfl ?_
      refine wi_goto (t := 8) hm34 rfl rfl ?_
      exact h
theorem hm35 : fx_code 35 = fx_c35 := rfl
theorem t35_0 {o0 x1 : Int} {σ : fx_S} {Q : fx_V → fx_S → Prop} (h : (0 ≤ x1 ∧ x1 < 60) ∧ (((σ 20 o0 x1) ≠ 0 → Q (0, 0) σ) ∧ ((σ 20 o0 x1) = 0 → (0 ≤ (σ 16 o0 x1) ∧ (σ 16 o0 x1) < 8) ∧ (((σ 14 o0 (σ 16 o0 x1)) ≠ 0 → Q (0, 0) σ) ∧ ((σ 14 o0 (σ 16 o0 x1)) = 0 → Q (0, 1) σ))))) : fx_Ca 35 [(11, o0), (0, x1)] σ Q := by
  show fx_Wp 35 0 [(11, o0), (0, x1)] [] σ Q
  refine wi_aload_n (pc' := 1) hm35 rfl rfl rfl (by decide) ?_
  refine wi_getR (pc' := 4) (x := o0) hm35 rfl rfl rfl (by omega) ?_
  refine wi_iload_n (pc' := 5) hm35 rfl rfl rfl ?_
  obtain ⟨g1, h⟩ := h
  refine wi_baload (pc' := 6) hm35 rfl rfl rfl (N := 60) rfl g1 ?_
  refine wi_if_ne (pc' := 9) (t := 27) hm35 rfl rfl rfl (fun hc => ?_) (fun hc => ?_)
  · replace h := h.1 hc
    refine wi_iconst (pc' := 28) (v := 0) hm35 rfl rfl rfl ?_
    exact wi_zret hm35 rfl (by decide) h
  · replace h := h.2 hc
    refine wi_aload_n (pc' := 10) hm35 rfl rfl rfl (by decide) ?_
    refine wi_getR (pc' := 13) (x := o0) hm35 rfl rfl rfl (by omega) ?_
    refine wi_aload_n (pc' := 14) hm35 rfl rfl rfl (by decide) ?_
    refine wi_getR (pc' := 17) (x := o0) hm35 rfl rfl rfl (by omega) ?_
    refine wi_iload_n (pc' := 18) hm35 rfl rfl rfl ?_
    refine wi_iaload (pc' := 19) hm35 rfl rfl rfl rfl (N := 60) rfl g1 ?_
    obtain ⟨g2, h⟩ := h
    refine wi_baload (pc' := 20) hm35 rfl rfl rfl (N := 8) rfl g2 ?_
    refine wi_if_ne (pc' := 23) (t := 27) hm35 rfl rfl rfl (fun hc => ?_) (fun hc => ?_)
    · replace h := h.1 hc
      refine wi_iconst (pc' := 28) (v := 0) hm35 rfl rfl rfl ?_
      exact wi_zret hm35 rfl (by decide) h
    · replace h := h.2 hc
      refine wi_iconst (pc' := 24) (v := 1) hm35 rfl rfl rfl ?_
      refine wi_goto (t := 28) hm35 rfl rfl ?_
      exact wi_zret hm35 rfl (by decide) h
theorem hm36 : fx_code 36 = fx_c36 := rfl
theorem t36_0 {o0 x1 x2 x3 : Int} {σ : fx_S} {Q : fx_V → fx_S → Prop} (h : (0 ≤ x1 ∧ x1 < 60) ∧ (((σ 15 o0 x1) ≠ x2 → Q (0, 0) σ) ∧ ((σ 15 o0 x1) = x2 → ((x3 < (σ 17 o0 x1) → Q (0, 0) σ) ∧ ((σ 17 o0 x1) ≤ x3 → (((σ 18 o0 x1) ≤ x3 → Q (0, 0) σ) ∧ (x3 < (σ 18 o0 x1) → fx_CI 35 [(11, o0), (0, x1)] σ Q (fun y1 σ1 => ((y1 = 0 → Q (0, 0) σ1) ∧ (y1 ≠ 0 → Q (0, 1) σ1)))))))))) : fx_Ca 36 [(11, o0), (0, x1), (0, x2), (0, x3)] σ Q := by
  show fx_Wp 36 0 [(11, o0), (0, x1), (0, x2), (0, x3)] [] σ Q
  refine wi_aload_n (pc' := 1) hm36 rfl rfl rfl (by decide) ?_
  refine wi_getR (pc' := 4) (x := o0) hm36 rfl rfl rfl (by omega) ?_
  refine wi_iload_n (pc' := 5) hm36 rfl rfl rfl ?_
  obtain ⟨g1, h⟩ := h
  refine wi_iaload (pc' := 6) hm36 rfl rfl rfl rfl (N := 60) rfl g1 ?_
  refine wi_iload_n (pc' := 7) hm36 rfl rfl rfl ?_
  refine wi_ic_ne (pc' := 10) (t := 42) hm36 rfl rfl rfl (fun hc => ?_) (fun hc => ?_)
  · replace h := h.1 hc
    refine wi_iconst (pc' := 43) (v := 0) hm36 rfl rfl rfl ?_
    exact wi_zret hm36 rfl (by decide) h
  · replace h := h.2 hc
    refine wi_aload_n (pc' := 11) hm36 rfl rfl rfl (by decide) ?_
    refine wi_getR (pc' := 14) (x := o0) hm36 rfl rfl rfl (by omega) ?_
    refine wi_iload_n (pc' := 15) hm36 rfl rfl rfl ?_
    refine wi_iaload (pc' := 16) hm36 rfl rfl rfl rfl (N := 60) rfl g1 ?_
    refine wi_iload_n (pc' := 17) hm36 rfl rfl rfl ?_
    refine wi_ic_gt (pc' := 20) (t := 42) hm36 rfl rfl rfl (fun hc => ?_) (fun hc => ?_)
    · replace h := h.1 hc
      refine wi_iconst (pc' := 43) (v := 0) hm36 rfl rfl rfl ?_
      exact wi_zret hm36 rfl (by decide) h
    · replace h := h.2 hc
      refine wi_aload_n (pc' := 21) hm36 rfl rfl rfl (by decide) ?_
      refine wi_getR (pc' := 24) (x := o0) hm36 rfl rfl rfl (by omega) ?_
      refine wi_iload_n (pc' := 25) hm36 rfl rfl rfl ?_
      refine wi_iaload (pc' := 26) hm36 rfl rfl rfl rfl (N := 60) rfl g1 ?_
      refine wi_iload_n (pc' := 27) hm36 rfl rfl rfl ?_
      refine wi_ic_le (pc' := 30) (t := 42) hm36 rfl rfl rfl (fun hc => ?_) (fun hc => ?_)
      · replace h := h.1 hc
        refine wi_iconst (pc' := 43) (v := 0) hm36 rfl rfl rfl ?_
        exact wi_zret hm36 rfl (by decide) h
      · replace h := h.2 hc
        refine wi_aload_n (pc' := 31) hm36 rfl rfl rfl (by decide) ?_
        refine wi_iload_n (pc' := 32) hm36 rfl rfl rfl ?_
        refine wc_I (pc' := 35) (by decide) rfl (by decide) ((fx_wE hm36 rfl).trans (fx_exV (mj := 35) (as := [(0, x1)]) (rest := []) rfl rk35 rfl rfl rfl rfl rfl)) h (fun y1 σ1 h => ?_)
        refine wi_if_eq (pc' := 38) (t := 42) hm36 rfl rfl rfl (fun hc => ?_) (fun hc => ?_)
        · replace h := h.1 hc
          refine wi_iconst (pc' := 43) (v := 0) hm36 rfl rfl rfl ?_
          exact wi_zret hm36 rfl (by decide) h
        · replace h := h.2 hc
          refine wi_iconst (pc' := 39) (v := 1) hm36 rfl rfl rfl ?_
          refine wi_goto (t := 43) hm36 rfl rfl ?_
          exact wi_zret hm36 rfl (by decide) h
theorem hm37 : fx_code 37 = fx_c37 := rfl
theorem t37_0 {o0 x1 x2 : Int} {σ : fx_S} {Q : fx_V → fx_S → Prop} (h : (0 ≤ x1 ∧ x1 < 60) ∧ (0 ≤ x2 ∧ x2 < 60) ∧ (((σ 16 o0 x1) = (σ 16 o0 x2) → (fx_rg ((σ 18 o0 x1) - (σ 17 o0 x1))) ∧ (fx_rg ((σ 18 o0 x2) - (σ 17 o0 x2))) ∧ ((((σ 18 o0 x1) - (σ 17 o0 x1)) = ((σ 18 o0 x2) - (σ 17 o0 x2)) → (((σ 17 o0 x1) = (σ 17 o0 x2) → (((σ 19 o0 x1) = (σ 19 o0 x2) → ((x2 ≤ x1 → Q (0, 0) σ) ∧ (x1 < x2 → Q (0, 1) σ))) ∧ ((σ 19 o0 x1) ≠ (σ 19 o0 x2) → (((σ 19 o0 x1) ≤ (σ 19 o0 x2) → Q (0, 0) σ) ∧ ((σ 19 o0 x2) < (σ 19 o0 x1) → Q (0, 1) σ))))) ∧ ((σ 17 o0 x1) ≠ (σ 17 o0 x2) → (((σ 17 o0 x1) ≤ (σ 17 o0 x2) → Q (0, 0) σ) ∧ ((σ 17 o0 x2) < (σ 17 o0 x1) → Q (0, 1) σ))))) ∧ (((σ 18 o0 x1) - (σ 17 o0 x1)) ≠ ((σ 18 o0 x2) - (σ 17 o0 x2)) → ((((σ 18 o0 x2) - (σ 17 o0 x2)) ≤ ((σ 18 o0 x1) - (σ 17 o0 x1)) → Q (0, 0) σ) ∧ (((σ 18 o0 x1) - (σ 17 o0 x1)) < ((σ 18 o0 x2) - (σ 17 o0 x2)) → Q (0, 1) σ))))) ∧ ((σ 16 o0 x1) ≠ (σ 16 o0 x2) → (0 ≤ (σ 16 o0 x1) ∧ (σ 16 o0 x1) < 8) ∧ (0 ≤ (σ 16 o0 x2) ∧ (σ 16 o0 x2) < 8) ∧ (((σ 13 o0 (σ 16 o0 x1)) = (σ 13 o0 (σ 16 o0 x2)) → (((σ 16 o0 x2) ≤ (σ 16 o0 x1) → Q (0, 0) σ) ∧ ((σ 16 o0 x1) < (σ 16 o0 x2) → Q (0, 1) σ))) ∧ ((σ 13 o0 (σ 16 o0 x1)) ≠ (σ 13 o0 (σ 16 o0 x2)) → (((σ 13 o0 (σ 16 o0 x1)) ≤ (σ 13 o0 (σ 16 o0 x2)) → Q (0, 0) σ) ∧ ((σ 13 o0 (σ 16 o0 x2)) < (σ 13 o0 (σ 16 o0 x1)) → Q (0, 1) σ))))))) : fx_Ca 37 [(11, o0), (0, x1), (0, x2)] σ Q := by
  show fx_Wp 37 0 [(11, o0), (0, x1), (0, x2), (3, 0), (3, 0), (3, 0), (3, 0)] [] σ Q
  refine wi_aload_n (pc' := 1) hm37 rfl rfl rfl (by decide) ?_
  refine wi_getR (pc' := 4) (x := o0) hm37 rfl rfl rfl (by omega) ?_
  refine wi_iload_n (pc' := 5) hm37 rfl rfl rfl ?_
  obtain ⟨g1, h⟩ := h
  refine wi_iaload (pc' := 6) hm37 rfl rfl rfl rfl (N := 60) rfl g1 ?_
  refine wi_istore_n (pc' := 7) (L' := [(11, o0), (0, x1), (0, x2), (0, (σ 16 o0 x1)), (3, 0), (3, 0), (3, 0)]) hm37 rfl rfl rfl ?_
  refine wi_aload_n (pc' := 8) hm37 rfl rfl rfl (by decide) ?_
  refine wi_getR (pc' := 11) (x := o0) hm37 rfl rfl rfl (by omega) ?_
  refine wi_iload_n (pc' := 12) hm37 rfl rfl rfl ?_
  obtain ⟨g2, h⟩ := h
  refine wi_iaload (pc' := 13) hm37 rfl rfl rfl rfl (N := 60) rfl g2 ?_
  refine wi_istore (pc' := 15) (L' := [(11, o0), (0, x1), (0, x2), (0, (σ 16 o0 x1)), (0, (σ 16 o0 x2)), (3, 0), (3, 0)]) hm37 rfl rfl rfl ?_
  refine wi_iload_n (pc' := 16) hm37 rfl rfl rfl ?_
  refine wi_iload (pc' := 18) hm37 rfl rfl rfl ?_
  refine wi_ic_eq (pc' := 21) (t := 73) hm37 rfl rfl rfl (fun hc => ?_) (fun hc => ?_)
  · replace h := h.1 hc
    refine wi_aload_n (pc' := 74) hm37 rfl rfl rfl (by decide) ?_
    refine wi_getR (pc' := 77) (x := o0) hm37 rfl rfl rfl (by omega) ?_
    refine wi_iload_n (pc' := 78) hm37 rfl rfl rfl ?_
    refine wi_iaload (pc' := 79) hm37 rfl rfl rfl rfl (N := 60) rfl g1 ?_
    refine wi_aload_n (pc' := 80) hm37 rfl rfl rfl (by decide) ?_
    refine wi_getR (pc' := 83) (x := o0) hm37 rfl rfl rfl (by omega) ?_
    refine wi_iload_n (pc' := 84) hm37 rfl rfl rfl ?_
    refine wi_iaload (pc' := 85) hm37 rfl rfl rfl rfl (N := 60) rfl g1 ?_
    obtain ⟨g3, h⟩ := h
    refine wi_isub (pc' := 86) hm37 rfl rfl g3 ?_
    refine wi_istore (pc' := 88) (L' := [(11, o0), (0, x1), (0, x2), (0, (σ 16 o0 x1)), (0, (σ 16 o0 x2)), (0, ((σ 18 o0 x1) - (σ 17 o0 x1))), (3, 0)]) hm37 rfl rfl rfl ?_
    refine wi_aload_n (pc' := 89) hm37 rfl rfl rfl (by decide) ?_
    refine wi_getR (pc' := 92) (x := o0) hm37 rfl rfl rfl (by omega) ?_
    refine wi_iload_n (pc' := 93) hm37 rfl rfl rfl ?_
    refine wi_iaload (pc' := 94) hm37 rfl rfl rfl rfl (N := 60) rfl g2 ?_
    refine wi_aload_n (pc' := 95) hm37 rfl rfl rfl (by decide) ?_
    refine wi_getR (pc' := 98) (x := o0) hm37 rfl rfl rfl (by omega) ?_
    refine wi_iload_n (pc' := 99) hm37 rfl rfl rfl ?_
    refine wi_iaload (pc' := 100) hm37 rfl rfl rfl rfl (N := 60) rfl g2 ?_
    obtain ⟨g4, h⟩ := h
    refine wi_isub (pc' := 101) hm37 rfl rfl g4 ?_
    refine wi_istore (pc' := 103) (L' := [(11, o0), (0, x1), (0, x2), (0, (σ 16 o0 x1)), (0, (σ 16 o0 x2)), (0, ((σ 18 o0 x1) - (σ 17 o0 x1))), (0, ((σ 18 o0 x2) - (σ 17 o0 x2)))]) hm37 rfl rfl rfl ?_
    refine wi_iload (pc' := 105) hm37 rfl rfl rfl ?_
    refine wi_iload (pc' := 107) hm37 rfl rfl rfl ?_
    refine wi_ic_eq (pc' := 110) (t := 123) hm37 rfl rfl rfl (fun hc => ?_) (fun hc => ?_)
    · replace h := h.1 hc
      refine wi_aload_n (pc' := 124) hm37 rfl rfl rfl (by decide) ?_
      refine wi_getR (pc' := 127) (x := o0) hm37 rfl rfl rfl (by omega) ?_
      refine wi_iload_n (pc' := 128) hm37 rfl rfl rfl ?_
      refine wi_iaload (pc' := 129) hm37 rfl rfl rfl rfl (N := 60) rfl g1 ?_
      refine wi_aload_n (pc' := 130) hm37 rfl rfl rfl (by decide) ?_
      refine wi_getR (pc' := 133) (x := o0) hm37 rfl rfl rfl (by omega) ?_
      refine wi_iload_n (pc' := 134) hm37 rfl rfl rfl ?_
      refine wi_iaload (pc' := 135) hm37 rfl rfl rfl rfl (N := 60) rfl g2 ?_
      refine wi_ic_eq (pc' := 138) (t := 159) hm37 rfl rfl rfl (fun hc => ?_) (fun hc => ?_)
      · replace h := h.1 hc
        refine wi_aload_n (pc' := 160) hm37 rfl rfl rfl (by decide) ?_
        refine wi_getR (pc' := 163) (x := o0) hm37 rfl rfl rfl (by omega) ?_
        refine wi_iload_n (pc' := 164) hm37 rfl rfl rfl ?_
        refine wi_iaload (pc' := 165) hm37 rfl rfl rfl rfl (N := 60) rfl g1 ?_
        refine wi_aload_n (pc' := 166) hm37 rfl rfl rfl (by decide) ?_
        refine wi_getR (pc' := 169) (x := o0) hm37 rfl rfl rfl (by omega) ?_
        refine wi_iload_n (pc' := 170) hm37 rfl rfl rfl ?_
        refine wi_iaload (pc' := 171) hm37 rfl rfl rfl rfl (N := 60) rfl g2 ?_
        refine wi_ic_eq (pc' := 174) (t := 197) hm37 rfl rfl rfl (fun hc => ?_) (fun hc => ?_)
        · replace h := h.1 hc
          refine wi_iload_n (pc' := 198) hm37 rfl rfl rfl ?_
          refine wi_iload_n (pc' := 199) hm37 rfl rfl rfl ?_
          refine wi_ic_ge (pc' := 202) (t := 206) hm37 rfl rfl rfl (fun hc => ?_) (fun hc => ?_)
          · replace h := h.1 hc
            refine wi_iconst (pc' := 207) (v := 0) hm37 rfl rfl rfl ?_
            exact wi_zret hm37 rfl (by decide) h
          · replace h := h.2 hc
            refine wi_iconst (pc' := 203) (v := 1) hm37 rfl rfl rfl ?_
            refine wi_goto (t := 207) hm37 rfl rfl ?_
            exact wi_zret hm37 rfl (by decide) h
        · replace h := h.2 hc
          refine wi_aload_n (pc' := 175) hm37 rfl rfl rfl (by decide) ?_
          refine wi_getR (pc' := 178) (x := o0) hm37 rfl rfl rfl (by omega) ?_
          refine wi_iload_n (pc' := 179) hm37 rfl rfl rfl ?_
          refine wi_iaload (pc' := 180) hm37 rfl rfl rfl rfl (N := 60) rfl g1 ?_
          refine wi_aload_n (pc' := 181) hm37 rfl rfl rfl (by decide) ?_
          refine wi_getR (pc' := 184) (x := o0) hm37 rfl rfl rfl (by omega) ?_
          refine wi_iload_n (pc' := 185) hm37 rfl rfl rfl ?_
          refine wi_iaload (pc' := 186) hm37 rfl rfl rfl rfl (N := 60) rfl g2 ?_
          refine wi_ic_le (pc' := 189) (t := 193) hm37 rfl rfl rfl (fun hc => ?_) (fun hc => ?_)
          · replace h := h.1 hc
            refine wi_iconst (pc' := 194) (v := 0) hm37 rfl rfl rfl ?_
            refine wi_goto (t := 207) hm37 rfl rfl ?_
            exact wi_zret hm37 rfl (by decide) h
          · replace h := h.2 hc
            refine wi_iconst (pc' := 190) (v := 1) hm37 rfl rfl rfl ?_
            refine wi_goto (t := 207) hm37 rfl rfl ?_
            exact wi_zret hm37 rfl (by decide) h
      · replace h := h.2 hc
        refine wi_aload_n (pc' := 139) hm37 rfl rfl rfl (by decide) ?_
        refine wi_getR (pc' := 142) (x := o0) hm37 rfl rfl rfl (by omega) ?_
        refine wi_iload_n (pc' := 143) hm37 rfl rfl rfl ?_
        refine wi_iaload (pc' := 144) hm37 rfl rfl rfl rfl (N := 60) rfl g1 ?_
        refine wi_aload_n (pc' := 145) hm37 rfl rfl rfl (by decide) ?_
        refine wi_getR (pc' := 148) (x := o0) hm37 rfl rfl rfl (by omega) ?_
        refine wi_iload_n (pc' := 149) hm37 rfl rfl rfl ?_
        refine wi_iaload (pc' := 150) hm37 rfl rfl rfl rfl (N := 60) rfl g2 ?_
        refine wi_ic_le (pc' := 153) (t := 157) hm37 rfl rfl rfl (fun hc => ?_) (fun hc => ?_)
        · replace h := h.1 hc
          refine wi_iconst (pc' := 158) (v := 0) hm37 rfl rfl rfl ?_
          exact wi_zret hm37 rfl (by decide) h
        · replace h := h.2 hc
          refine wi_iconst (pc' := 154) (v := 1) hm37 rfl rfl rfl ?_
          refine wi_goto (t := 158) hm37 rfl rfl ?_
          exact wi_zret hm37 rfl (by decide) h
    · replace h := h.2 hc
      refine wi_iload (pc' := 112) hm37 rfl rfl rfl ?_
      refine wi_iload (pc' := 114) hm37 rfl rfl rfl ?_
      refine wi_ic_ge (pc' := 117) (t := 121) hm37 rfl rfl rfl (fun hc => ?_) (fun hc => ?_)
      · replace h := h.1 hc
        refine wi_iconst (pc' := 122) (v := 0) hm37 rfl rfl rfl ?_
        exact wi_zret hm37 rfl (by decide) h
      · replace h := h.2 hc
        refine wi_iconst (pc' := 118) (v := 1) hm37 rfl rfl rfl ?_
        refine wi_goto (t := 122) hm37 rfl rfl ?_
        exact wi_zret hm37 rfl (by decide) h
  · replace h := h.2 hc
    refine wi_aload_n (pc' := 22) hm37 rfl rfl rfl (by decide) ?_
    refine wi_getR (pc' := 25) (x := o0) hm37 rfl rfl rfl (by omega) ?_
    refine wi_iload_n (pc' := 26) hm37 rfl rfl rfl ?_
    obtain ⟨g3, h⟩ := h
    refine wi_iaload (pc' := 27) hm37 rfl rfl rfl rfl (N := 8) rfl g3 ?_
    refine wi_aload_n (pc' := 28) hm37 rfl rfl rfl (by decide) ?_
    refine wi_getR (pc' := 31) (x := o0) hm37 rfl rfl rfl (by omega) ?_
    refine wi_iload (pc' := 33) hm37 rfl rfl rfl ?_
    obtain ⟨g4, h⟩ := h
    refine wi_iaload (pc' := 34) hm37 rfl rfl rfl rfl (N := 8) rfl g4 ?_
    refine wi_ic_eq (pc' := 37) (t := 61) hm37 rfl rfl rfl (fun hc => ?_) (fun hc => ?_)
    · replace h := h.1 hc
      refine wi_iload_n (pc' := 62) hm37 rfl rfl rfl ?_
      refine wi_iload (pc' := 64) hm37 rfl rfl rfl ?_
      refine wi_ic_ge (pc' := 67) (t := 71) hm37 rfl rfl rfl (fun hc => ?_) (fun hc => ?_)
      · replace h := h.1 hc
        refine wi_iconst (pc' := 72) (v := 0) hm37 rfl rfl rfl ?_
        exact wi_zret hm37 rfl (by decide) h
      · replace h := h.2 hc
        refine wi_iconst (pc' := 68) (v := 1) hm37 rfl rfl rfl ?_
        refine wi_goto (t := 72) hm37 rfl rfl ?_
        exact wi_zret hm37 rfl (by decide) h
    · replace h := h.2 hc
      refine wi_aload_n (pc' := 38) hm37 rfl rfl rfl (by decide) ?_
      refine wi_getR (pc' := 41) (x := o0) hm37 rfl rfl rfl (by omega) ?_
      refine wi_iload_n (pc' := 42) hm37 rfl rfl rfl ?_
      refine wi_iaload (pc' := 43) hm37 rfl rfl rfl rfl (N := 8) rfl g3 ?_
      refine wi_aload_n (pc' := 44) hm37 rfl rfl rfl (by decide) ?_
      refine wi_getR (pc' := 47) (x := o0) hm37 rfl rfl rfl (by omega) ?_
      refine wi_iload (pc' := 49) hm37 rfl rfl rfl ?_
      refine wi_iaload (pc' := 50) hm37 rfl rfl rfl rfl (N := 8) rfl g4 ?_
      refine wi_ic_le (pc' := 53) (t := 57) hm37 rfl rfl rfl (fun hc => ?_) (fun hc => ?_)
      · replace h := h.1 hc
        refine wi_iconst (pc' := 58) (v := 0) hm37 rfl rfl rfl ?_
        refine wi_goto (t := 72) hm37 rfl rfl ?_
        exact wi_zret hm37 rfl (by decide) h
      · replace h := h.2 hc
        refine wi_iconst (pc' := 54) (v := 1) hm37 rfl rfl rfl ?_
        refine wi_goto (t := 72) hm37 rfl rfl ?_
        exact wi_zret hm37 rfl (by decide) h
theorem hm38 : fx_code 38 = fx_c38 := rfl
theorem t38_0 {o0 x1 x2 : Int} {σ : fx_S} {Q : fx_V → fx_S → Prop} (h : fx_Wp 38 5 [(11, o0), (0, x1), (0, x2), (0, 0), (0, 0)] [] σ Q) : fx_Ca 38 [(11, o0), (0, x1), (0, x2)] σ Q := by
  show fx_Wp 38 0 [(11, o0), (0, x1), (0, x2), (3, 0), (3, 0)] [] σ Q
  refine wi_iconst (pc' := 1) (v := 0) hm38 rfl rfl rfl ?_
  refine wi_istore_n (pc' := 2) (L' := [(11, o0), (0, x1), (0, x2), (0, 0), (3, 0)]) hm38 rfl rfl rfl ?_
  refine wi_iconst (pc' := 3) (v := 0) hm38 rfl rfl rfl ?_
  refine wi_istore (pc' := 5) (L' := [(11, o0), (0, x1), (0, x2), (0, 0), (0, 0)]) hm38 rfl rfl rfl ?_
  exact h
theorem t38_5 {o0 x1 x2 x3 x4 : Int} {σ : fx_S} {Q : fx_V → fx_S → Prop} (h : (((σ 11 o0 10) ≤ x4 → Q (0, x3) σ) ∧ (x4 < (σ 11 o0 10) → fx_CI 36 [(11, o0), (0, x4), (0, x1), (0, x2)] σ Q (fun y1 σ1 => ((y1 = 0 → (fx_rg (x4 + 1)) ∧ fx_Wp 38 5 [(11, o0), (0, x1), (0, x2), (0, x3), (0, (x4 + 1))] [] σ1 Q) ∧ (y1 ≠ 0 → (fx_rg (x3 + 1)) ∧ (fx_rg (x4 + 1)) ∧ fx_Wp 38 5 [(11, o0), (0, x1), (0, x2), (0, (x3 + 1)), (0, (x4 + 1))] [] σ1 Q)))))) : fx_Wp 38 5 [(11, o0), (0, x1), (0, x2), (0, x3), (0, x4)] [] σ Q := by
  refine wi_iload (pc' := 7) hm38 rfl rfl rfl ?_
  refine wi_aload_n (pc' := 8) hm38 rfl rfl rfl (by decide) ?_
  refine wi_getI (pc' := 11) hm38 rfl rfl (P := 10) rfl ?_
  refine wi_ic_ge (pc' := 14) (t := 34) hm38 rfl rfl rfl (fun hc => ?_) (fun hc => ?_)
  · replace h := h.1 hc
    refine wi_iload_n (pc' := 35) hm38 rfl rfl rfl ?_
    exact wi_iret hm38 rfl h
  · replace h := h.2 hc
    refine wi_aload_n (pc' := 15) hm38 rfl rfl rfl (by decide) ?_
    refine wi_iload (pc' := 17) hm38 rfl rfl rfl ?_
    refine wi_iload_n (pc' := 18) hm38 rfl rfl rfl ?_
    refine wi_iload_n (pc' := 19) hm38 rfl rfl rfl ?_
    refine wc_I (pc' := 22) (by decide) rfl (by decide) ((fx_wE hm38 rfl).trans (fx_exV (mj := 36) (as := [(0, x4), (0, x1), (0, x2)]) (rest := []) rfl rk36 rfl rfl rfl rfl rfl)) h (fun y1 σ1 h => ?_)
    refine wi_if_eq (pc' := 25) (t := 28) hm38 rfl rfl rfl (fun hc => ?_) (fun hc => ?_)
    · replace h := h.1 hc
      obtain ⟨g1, h⟩ := h
      refine wi_iinc (pc' := 31) (L' := [(11, o0), (0, x1), (0, x2), (0, x3), (0, (x4 + 1))]) hm38 rfl rfl rfl g1 rfl ?_
      refine wi_goto (t := 5) hm38 rfl rfl ?_
      exact h
    · replace h := h.2 hc
      obtain ⟨g1, h⟩ := h
      refine wi_iinc (pc' := 28) (L' := [(11, o0), (0, x1), (0, x2), (0, (x3 + 1)), (0, x4)]) hm38 rfl rfl rfl g1 rfl ?_
      obtain ⟨g2, h⟩ := h
      refine wi_iinc (pc' := 31) (L' := [(11, o0), (0, x1), (0, x2), (0, (x3 + 1)), (0, (x4 + 1))]) hm38 rfl rfl rfl g2 rfl ?_
      refine wi_goto (t := 5) hm38 rfl rfl ?_
      exact h
theorem hm39 : fx_code 39 = fx_c39 := rfl
theorem t39_0 {o0 x1 x2 x3 : Int} {σ : fx_S} {Q : fx_V → fx_S → Prop} (h : fx_Wp 39 3 [(11, o0), (0, x1), (0, x2), (0, x3), (0, 0)] [] σ Q) : fx_Ca 39 [(11, o0), (0, x1), (0, x2), (0, x3)] σ Q := by
  show fx_Wp 39 0 [(11, o0), (0, x1), (0, x2), (0, x3), (3, 0)] [] σ Q
  refine wi_iconst (pc' := 1) (v := 0) hm39 rfl rfl rfl ?_
  refine wi_istore (pc' := 3) (L' := [(11, o0), (0, x1), (0, x2), (0, x3), (0, 0)]) hm39 rfl rfl rfl ?_
  exact h
theorem t39_3 {o0 x1 x2 x3 x4 : Int} {σ : fx_S} {Q : fx_V → fx_S → Prop} (h : (((σ 11 o0 10) ≤ x4 → Q (0, (-1)) σ) ∧ (x4 < (σ 11 o0 10) → fx_CI 36 [(11, o0), (0, x4), (0, x1), (0, x2)] σ Q (fun y1 σ1 => ((y1 = 0 → (fx_rg (x4 + 1)) ∧ fx_Wp 39 3 [(11, o0), (0, x1), (0, x2), (0, x3), (0, (x4 + 1))] [] σ1 Q) ∧ (y1 ≠ 0 → fx_CI 40 [(11, o0), (0, x4), (0, x2)] σ1 Q (fun y2 σ2 => ((y2 ≠ x3 → (fx_rg (x4 + 1)) ∧ fx_Wp 39 3 [(11, o0), (0, x1), (0, x2), (0, x3), (0, (x4 + 1))] [] σ2 Q) ∧ (y2 = x3 → Q (0, x4) σ2))))))))) : fx_Wp 39 3 [(11, o0), (0, x1), (0, x2), (0, x3), (0, x4)] [] σ Q := by
  refine wi_iload (pc' := 5) hm39 rfl rfl rfl ?_
  refine wi_aload_n (pc' := 6) hm39 rfl rfl rfl (by decide) ?_
  refine wi_getI (pc' := 9) hm39 rfl rfl (P := 10) rfl ?_
  refine wi_ic_ge (pc' := 12) (t := 43) hm39 rfl rfl rfl (fun hc => ?_) (fun hc => ?_)
  · replace h := h.1 hc
    refine wi_iconst (pc' := 44) (v := (-1)) hm39 rfl rfl rfl ?_
    exact wi_iret hm39 rfl h
  · replace h := h.2 hc
    refine wi_aload_n (pc' := 13) hm39 rfl rfl rfl (by decide) ?_
    refine wi_iload (pc' := 15) hm39 rfl rfl rfl ?_
    refine wi_iload_n (pc' := 16) hm39 rfl rfl rfl ?_
    refine wi_iload_n (pc' := 17) hm39 rfl rfl rfl ?_
    refine wc_I (pc' := 20) (by decide) rfl (by decide) ((fx_wE hm39 rfl).trans (fx_exV (mj := 36) (as := [(0, x4), (0, x1), (0, x2)]) (rest := []) rfl rk36 rfl rfl rfl rfl rfl)) h (fun y1 σ1 h => ?_)
    refine wi_if_eq (pc' := 23) (t := 37) hm39 rfl rfl rfl (fun hc => ?_) (fun hc => ?_)
    · replace h := h.1 hc
      obtain ⟨g1, h⟩ := h
      refine wi_iinc (pc' := 40) (L' := [(11, o0), (0, x1), (0, x2), (0, x3), (0, (x4 + 1))]) hm39 rfl rfl rfl g1 rfl ?_
      refine wi_goto (t := 3) hm39 rfl rfl ?_
      exact h
    · replace h := h.2 hc
      refine wi_aload_n (pc' := 24) hm39 rfl rfl rfl (by decide) ?_
      refine wi_iload (pc' := 26) hm39 rfl rfl rfl ?_
      refine wi_iload_n (pc' := 27) hm39 rfl rfl rfl ?_
      refine wc_I (pc' := 30) (by decide) rfl (by decide) ((fx_wE hm39 rfl).trans (fx_exV (mj := 40) (as := [(0, x4), (0, x2)]) (rest := []) rfl rk40 rfl rfl rfl rfl rfl)) h (fun y2 σ2 h => ?_)
      refine wi_iload_n (pc' := 31) hm39 rfl rfl rfl ?_
      refine wi_ic_ne (pc' := 34) (t := 37) hm39 rfl rfl rfl (fun hc => ?_) (fun hc => ?_)
      · replace h := h.1 hc
        obtain ⟨g1, h⟩ := h
        refine wi_iinc (pc' := 40) (L' := [(11, o0), (0, x1), (0, x2), (0, x3), (0, (x4 + 1))]) hm39 rfl rfl rfl g1 rfl ?_
        refine wi_goto (t := 3) hm39 rfl rfl ?_
        exact h
      · replace h := h.2 hc
        refine wi_iload (pc' := 36) hm39 rfl rfl rfl ?_
        exact wi_iret hm39 rfl h
theorem hm40 : fx_code 40 = fx_c40 := rfl
theorem t40_0 {o0 x1 x2 : Int} {σ : fx_S} {Q : fx_V → fx_S → Prop} (h : fx_Wp 40 5 [(11, o0), (0, x1), (0, x2), (0, 0), (0, 0)] [] σ Q) : fx_Ca 40 [(11, o0), (0, x1), (0, x2)] σ Q := by
  show fx_Wp 40 0 [(11, o0), (0, x1), (0, x2), (3, 0), (3, 0)] [] σ Q
  refine wi_iconst (pc' := 1) (v := 0) hm40 rfl rfl rfl ?_
  refine wi_istore_n (pc' := 2) (L' := [(11, o0), (0, x1), (0, x2), (0, 0), (3, 0)]) hm40 rfl rfl rfl ?_
  refine wi_iconst (pc' := 3) (v := 0) hm40 rfl rfl rfl ?_
  refine wi_istore (pc' := 5) (L' := [(11, o0), (0, x1), (0, x2), (0, 0), (0, 0)]) hm40 rfl rfl rfl ?_
  exact h
theorem t40_5 {o0 x1 x2 x3 x4 : Int} {σ : fx_S} {Q : fx_V → fx_S → Prop} (h : (((σ 11 o0 10) ≤ x4 → Q (0, x3) σ) ∧ (x4 < (σ 11 o0 10) → (0 ≤ x1 ∧ x1 < 60) ∧ fx_CI 36 [(11, o0), (0, x4), (0, (σ 15 o0 x1)), (0, x2)] σ Q (fun y1 σ1 => ((y1 = 0 → (fx_rg (x4 + 1)) ∧ fx_Wp 40 5 [(11, o0), (0, x1), (0, x2), (0, x3), (0, (x4 + 1))] [] σ1 Q) ∧ (y1 ≠ 0 → fx_CI 37 [(11, o0), (0, x4), (0, x1)] σ1 Q (fun y2 σ2 => ((y2 = 0 → (fx_rg (x4 + 1)) ∧ fx_Wp 40 5 [(11, o0), (0, x1), (0, x2), (0, x3), (0, (x4 + 1))] [] σ2 Q) ∧ (y2 ≠ 0 → (fx_rg (x3 + 1)) ∧ (fx_rg (x4 + 1)) ∧ fx_Wp 40 5 [(11, o0), (0, x1), (0, x2), (0, (x3 + 1)), (0, (x4 + 1))] [] σ2 Q))))))))) : fx_Wp 40 5 [(11, o0), (0, x1), (0, x2), (0, x3), (0, x4)] [] σ Q := by
  refine wi_iload (pc' := 7) hm40 rfl rfl rfl ?_
  refine wi_aload_n (pc' := 8) hm40 rfl rfl rfl (by decide) ?_
  refine wi_getI (pc' := 11) hm40 rfl rfl (P := 10) rfl ?_
  refine wi_ic_ge (pc' := 14) (t := 49) hm40 rfl rfl rfl (fun hc => ?_) (fun hc => ?_)
  · replace h := h.1 hc
    refine wi_iload_n (pc' := 50) hm40 rfl rfl rfl ?_
    exact wi_iret hm40 rfl h
  · replace h := h.2 hc
    refine wi_aload_n (pc' := 15) hm40 rfl rfl rfl (by decide) ?_
    refine wi_iload (pc' := 17) hm40 rfl rfl rfl ?_
    refine wi_aload_n (pc' := 18) hm40 rfl rfl rfl (by decide) ?_
    refine wi_getR (pc' := 21) (x := o0) hm40 rfl rfl rfl (by omega) ?_
    refine wi_iload_n (pc' := 22) hm40 rfl rfl rfl ?_
    obtain ⟨g1, h⟩ := h
    refine wi_iaload (pc' := 23) hm40 rfl rfl rfl rfl (N := 60) rfl g1 ?_
    refine wi_iload_n (pc' := 24) hm40 rfl rfl rfl ?_
    refine wc_I (pc' := 27) (by decide) rfl (by decide) ((fx_wE hm40 rfl).trans (fx_exV (mj := 36) (as := [(0, x4), (0, (σ 15 o0 x1)), (0, x2)]) (rest := []) rfl rk36 rfl rfl rfl rfl rfl)) h (fun y1 σ1 h => ?_)
    refine wi_if_eq (pc' := 30) (t := 43) hm40 rfl rfl rfl (fun hc => ?_) (fun hc => ?_)
    · replace h := h.1 hc
      obtain ⟨g2, h⟩ := h
      refine wi_iinc (pc' := 46) (L' := [(11, o0), (0, x1), (0, x2), (0, x3), (0, (x4 + 1))]) hm40 rfl rfl rfl g2 rfl ?_
      refine wi_goto (t := 5) hm40 rfl rfl ?_
      exact h
    · replace h := h.2 hc
      refine wi_aload_n (pc' := 31) hm40 rfl rfl rfl (by decide) ?_
      refine wi_iload (pc' := 33) hm40 rfl rfl rfl ?_
      refine wi_iload_n (pc' := 34) hm40 rfl rfl rfl ?_
      refine wc_I (pc' := 37) (by decide) rfl (by decide) ((fx_wE hm40 rfl).trans (fx_exV (mj := 37) (as := [(0, x4), (0, x1)]) (rest := []) rfl rk37 rfl rfl rfl rfl rfl)) h (fun y2 σ2 h => ?_)
      refine wi_if_eq (pc' := 40) (t := 43) hm40 rfl rfl rfl (fun hc => ?_) (fun hc => ?_)
      · replace h := h.1 hc
        obtain ⟨g2, h⟩ := h
        refine wi_iinc (pc' := 46) (L' := [(11, o0), (0, x1), (0, x2), (0, x3), (0, (x4 + 1))]) hm40 rfl rfl rfl g2 rfl ?_
        refine wi_goto (t := 5) hm40 rfl rfl ?_
        exact h
      · replace h := h.2 hc
        obtain ⟨g2, h⟩ := h
        refine wi_iinc (pc' := 43) (L' := [(11, o0), (0, x1), (0, x2), (0, (x3 + 1)), (0, x4)]) hm40 rfl rfl rfl g2 rfl ?_
        obtain ⟨g3, h⟩ := h
        refine wi_iinc (pc' := 46) (L' := [(11, o0), (0, x1), (0, x2), (0, (x3 + 1)), (0, (x4 + 1))]) hm40 rfl rfl rfl g3 rfl ?_
        refine wi_goto (t := 5) hm40 rfl rfl ?_
        exact h
