/-! words (written by gen/words.py) -/
def wd0 (b : Int → Int) (s e : Int) : Int := if e - s = 4 then (if b (s + 0) = 115 then (if b (s + 1) = 105 then (if b (s + 2) = 100 then (if b (s + 3) = 101 then 1 else 0) else 0) else 0) else 0) else 0
def wd1 (b : Int → Int) (s e : Int) : Int := if e - s = 3 then (if b (s + 0) = 98 then (if b (s + 1) = 111 then (if b (s + 2) = 103 then 1 else 0) else 0) else 0) else 0
def wd2 (b : Int → Int) (s e : Int) : Int := if e - s = 3 then (if b (s + 0) = 100 then (if b (s + 1) = 114 then (if b (s + 2) = 121 then 1 else 0) else 0) else 0) else 0
def wd3 (b : Int → Int) (s e : Int) : Int := if e - s = 4 then (if b (s + 0) = 104 then (if b (s + 1) = 111 then (if b (s + 2) = 109 then (if b (s + 3) = 101 then 1 else 0) else 0) else 0) else 0) else 0
def wd4 (b : Int → Int) (s e : Int) : Int := if e - s = 4 then (if b (s + 0) = 112 then (if b (s + 1) = 111 then (if b (s + 2) = 115 then (if b (s + 3) = 116 then 1 else 0) else 0) else 0) else 0) else 0
def wd5 (b : Int → Int) (s e : Int) : Int := if e - s = 6 then (if b (s + 0) = 119 then (if b (s + 1) = 97 then (if b (s + 2) = 108 then (if b (s + 3) = 107 then (if b (s + 4) = 101 then (if b (s + 5) = 114 then 1 else 0) else 0) else 0) else 0) else 0) else 0) else 0
section WB
variable {w : jW} {Q : jV → jW → Prop}
theorem sJ_len0 : AW mJ_length 0 [jR 110] [] w Q = Q (jI 4) w := by
  rw [bJ_length_r110_0, bJ_coder_r110_0, if_neg (by omega), if_pos (by omega), bJ_length_r110_9, show jshr 4 0 = 4 by decide]
theorem sJ_chr0_0 : AW mJ_charAt 0 [jR 110, jI 0] [] w Q = Q (jI 115) w := by
  have e0 : jel w 130 0 = 115 := rfl
  rw [bJ_charAt_r110_0, bJ_isLatin1_r110_0, if_neg (by omega), if_pos rfl, bJ_charAt_r110_4, if_neg (by omega), bJ_charAt2_r130_0, bJ_checkIndex_0, bJ_checkIndex2_r102_0, if_neg (by omega), if_pos (by omega), bJ_checkIndex_8, bJ_charAt2_r130_6, if_pos (by omega), e0, show jand 115 255 % 65536 = 115 by decide, if_pos (by omega), bJ_charAt_r110_15, if_pos (by omega)]
theorem sJ_chr0_1 : AW mJ_charAt 0 [jR 110, jI 1] [] w Q = Q (jI 105) w := by
  have e0 : jel w 130 1 = 105 := rfl
  rw [bJ_charAt_r110_0, bJ_isLatin1_r110_0, if_neg (by omega), if_pos rfl, bJ_charAt_r110_4, if_neg (by omega), bJ_charAt2_r130_0, bJ_checkIndex_0, bJ_checkIndex2_r102_0, if_neg (by omega), if_pos (by omega), bJ_checkIndex_8, bJ_charAt2_r130_6, if_pos (by omega), e0, show jand 105 255 % 65536 = 105 by decide, if_pos (by omega), bJ_charAt_r110_15, if_pos (by omega)]
theorem sJ_chr0_2 : AW mJ_charAt 0 [jR 110, jI 2] [] w Q = Q (jI 100) w := by
  have e0 : jel w 130 2 = 100 := rfl
  rw [bJ_charAt_r110_0, bJ_isLatin1_r110_0, if_neg (by omega), if_pos rfl, bJ_charAt_r110_4, if_neg (by omega), bJ_charAt2_r130_0, bJ_checkIndex_0, bJ_checkIndex2_r102_0, if_neg (by omega), if_pos (by omega), bJ_checkIndex_8, bJ_charAt2_r130_6, if_pos (by omega), e0, show jand 100 255 % 65536 = 100 by decide, if_pos (by omega), bJ_charAt_r110_15, if_pos (by omega)]
theorem sJ_chr0_3 : AW mJ_charAt 0 [jR 110, jI 3] [] w Q = Q (jI 101) w := by
  have e0 : jel w 130 3 = 101 := rfl
  rw [bJ_charAt_r110_0, bJ_isLatin1_r110_0, if_neg (by omega), if_pos rfl, bJ_charAt_r110_4, if_neg (by omega), bJ_charAt2_r130_0, bJ_checkIndex_0, bJ_checkIndex2_r102_0, if_neg (by omega), if_pos (by omega), bJ_checkIndex_8, bJ_charAt2_r130_6, if_pos (by omega), e0, show jand 101 255 % 65536 = 101 by decide, if_pos (by omega), bJ_charAt_r110_15, if_pos (by omega)]
theorem sT_word0 (h : w 26 0 ≤ 250) (hs : (0 ≤ w 26 1 ∧ w 26 1 ≤ w 26 2) ∧ w 26 2 ≤ w 26 0) : AW mT_isWord 0 [jR 26, jR 110, jX] [] w Q = Q (jI (wd0 (w 27) (w 26 1) (w 26 2))) w := by
  unfold wd0
  rw [bT_isWord_r110_0, sJ_len0, bT_isWord_r110_13, n32s (x := w 26 2 - w 26 1) (by omega) (by omega)]
  by_cases z : w 26 2 - w 26 1 = 4
  · rw [if_pos z, if_pos z]
    rw [bT_isWord_r110_20, sJ_len0, bT_isWord_r110_25, if_pos (by omega), n32s (x := w 26 1 + 0) (by omega) (by omega), sT_byteAt h, bT_isWord_r110_38, sJ_chr0_0, bT_isWord_r110_43, if_pos (by omega : 0 ≤ w 26 1 + 0 ∧ w 26 1 + 0 < w 26 0), show n32 (0 + 1) = 1 by decide]
    by_cases c0 : w 27 (w 26 1 + 0) = 115
    case neg => rw [if_neg c0, if_neg c0]
    rw [if_pos c0, if_pos c0]
    rw [bT_isWord_r110_20, sJ_len0, bT_isWord_r110_25, if_pos (by omega), n32s (x := w 26 1 + 1) (by omega) (by omega), sT_byteAt h, bT_isWord_r110_38, sJ_chr0_1, bT_isWord_r110_43, if_pos (by omega : 0 ≤ w 26 1 + 1 ∧ w 26 1 + 1 < w 26 0), show n32 (1 + 1) = 2 by decide]
    by_cases c1 : w 27 (w 26 1 + 1) = 105
    case neg => rw [if_neg c1, if_neg c1]
    rw [if_pos c1, if_pos c1]
    rw [bT_isWord_r110_20, sJ_len0, bT_isWord_r110_25, if_pos (by omega), n32s (x := w 26 1 + 2) (by omega) (by omega), sT_byteAt h, bT_isWord_r110_38, sJ_chr0_2, bT_isWord_r110_43, if_pos (by omega : 0 ≤ w 26 1 + 2 ∧ w 26 1 + 2 < w 26 0), show n32 (2 + 1) = 3 by decide]
    by_cases c2 : w 27 (w 26 1 + 2) = 100
    case neg => rw [if_neg c2, if_neg c2]
    rw [if_pos c2, if_pos c2]
    rw [bT_isWord_r110_20, sJ_len0, bT_isWord_r110_25, if_pos (by omega), n32s (x := w 26 1 + 3) (by omega) (by omega), sT_byteAt h, bT_isWord_r110_38, sJ_chr0_3, bT_isWord_r110_43, if_pos (by omega : 0 ≤ w 26 1 + 3 ∧ w 26 1 + 3 < w 26 0), show n32 (3 + 1) = 4 by decide]
    by_cases c3 : w 27 (w 26 1 + 3) = 101
    case neg => rw [if_neg c3, if_neg c3]
    rw [if_pos c3, if_pos c3]
    rw [bT_isWord_r110_20, sJ_len0, bT_isWord_r110_25, if_neg (by omega)]
  · rw [if_neg z, if_neg z]
theorem sM_word0 (hs : (0 ≤ w 45 13 ∧ w 45 13 ≤ w 45 14) ∧ w 45 14 ≤ 250) : AW mM_isWord 0 [jR 45, jR 110, jX] [] w Q = Q (jI (if w 45 15 = 119 then wd0 (w 52) (w 45 13) (w 45 14) else 0)) w := by
  unfold wd0
  rw [bM_isWord_r110_0]
  by_cases t : w 45 15 = 119
  case neg => rw [if_neg t, if_neg t]
  rw [if_pos t, if_pos t, sJ_len0, bM_isWord_r110_22, n32s (x := w 45 14 - w 45 13) (by omega) (by omega)]
  by_cases z : w 45 14 - w 45 13 = 4
  · rw [if_pos z, if_pos z]
    rw [bM_isWord_r110_29, sJ_len0, bM_isWord_r110_34, if_pos (by omega), n32s (x := w 45 13 + 0) (by omega) (by omega), if_pos (by omega), sJ_chr0_0, bM_isWord_r110_53, show n32 (0 + 1) = 1 by decide]
    by_cases c0 : w 52 (w 45 13 + 0) = 115
    case neg => rw [if_neg c0, if_neg c0]
    rw [if_pos c0, if_pos c0]
    rw [bM_isWord_r110_29, sJ_len0, bM_isWord_r110_34, if_pos (by omega), n32s (x := w 45 13 + 1) (by omega) (by omega), if_pos (by omega), sJ_chr0_1, bM_isWord_r110_53, show n32 (1 + 1) = 2 by decide]
    by_cases c1 : w 52 (w 45 13 + 1) = 105
    case neg => rw [if_neg c1, if_neg c1]
    rw [if_pos c1, if_pos c1]
    rw [bM_isWord_r110_29, sJ_len0, bM_isWord_r110_34, if_pos (by omega), n32s (x := w 45 13 + 2) (by omega) (by omega), if_pos (by omega), sJ_chr0_2, bM_isWord_r110_53, show n32 (2 + 1) = 3 by decide]
    by_cases c2 : w 52 (w 45 13 + 2) = 100
    case neg => rw [if_neg c2, if_neg c2]
    rw [if_pos c2, if_pos c2]
    rw [bM_isWord_r110_29, sJ_len0, bM_isWord_r110_34, if_pos (by omega), n32s (x := w 45 13 + 3) (by omega) (by omega), if_pos (by omega), sJ_chr0_3, bM_isWord_r110_53, show n32 (3 + 1) = 4 by decide]
    by_cases c3 : w 52 (w 45 13 + 3) = 101
    case neg => rw [if_neg c3, if_neg c3]
    rw [if_pos c3, if_pos c3]
    rw [bM_isWord_r110_29, sJ_len0, bM_isWord_r110_34, if_neg (by omega)]
  · rw [if_neg z, if_neg z]
theorem sJ_len1 : AW mJ_length 0 [jR 111] [] w Q = Q (jI 3) w := by
  rw [bJ_length_r111_0, bJ_coder_r111_0, if_neg (by omega), if_pos (by omega), bJ_length_r111_9, show jshr 3 0 = 3 by decide]
theorem sJ_chr1_0 : AW mJ_charAt 0 [jR 111, jI 0] [] w Q = Q (jI 98) w := by
  have e0 : jel w 131 0 = 98 := rfl
  rw [bJ_charAt_r111_0, bJ_isLatin1_r111_0, if_neg (by omega), if_pos rfl, bJ_charAt_r111_4, if_neg (by omega), bJ_charAt2_r131_0, bJ_checkIndex_0, bJ_checkIndex2_r102_0, if_neg (by omega), if_pos (by omega), bJ_checkIndex_8, bJ_charAt2_r131_6, if_pos (by omega), e0, show jand 98 255 % 65536 = 98 by decide, if_pos (by omega), bJ_charAt_r111_15, if_pos (by omega)]
theorem sJ_chr1_1 : AW mJ_charAt 0 [jR 111, jI 1] [] w Q = Q (jI 111) w := by
  have e0 : jel w 131 1 = 111 := rfl
  rw [bJ_charAt_r111_0, bJ_isLatin1_r111_0, if_neg (by omega), if_pos rfl, bJ_charAt_r111_4, if_neg (by omega), bJ_charAt2_r131_0, bJ_checkIndex_0, bJ_checkIndex2_r102_0, if_neg (by omega), if_pos (by omega), bJ_checkIndex_8, bJ_charAt2_r131_6, if_pos (by omega), e0, show jand 111 255 % 65536 = 111 by decide, if_pos (by omega), bJ_charAt_r111_15, if_pos (by omega)]
theorem sJ_chr1_2 : AW mJ_charAt 0 [jR 111, jI 2] [] w Q = Q (jI 103) w := by
  have e0 : jel w 131 2 = 103 := rfl
  rw [bJ_charAt_r111_0, bJ_isLatin1_r111_0, if_neg (by omega), if_pos rfl, bJ_charAt_r111_4, if_neg (by omega), bJ_charAt2_r131_0, bJ_checkIndex_0, bJ_checkIndex2_r102_0, if_neg (by omega), if_pos (by omega), bJ_checkIndex_8, bJ_charAt2_r131_6, if_pos (by omega), e0, show jand 103 255 % 65536 = 103 by decide, if_pos (by omega), bJ_charAt_r111_15, if_pos (by omega)]
theorem sT_word1 (h : w 26 0 ≤ 250) (hs : (0 ≤ w 26 1 ∧ w 26 1 ≤ w 26 2) ∧ w 26 2 ≤ w 26 0) : AW mT_isWord 0 [jR 26, jR 111, jX] [] w Q = Q (jI (wd1 (w 27) (w 26 1) (w 26 2))) w := by
  unfold wd1
  rw [bT_isWord_r111_0, sJ_len1, bT_isWord_r111_13, n32s (x := w 26 2 - w 26 1) (by omega) (by omega)]
  by_cases z : w 26 2 - w 26 1 = 3
  · rw [if_pos z, if_pos z]
    rw [bT_isWord_r111_20, sJ_len1, bT_isWord_r111_25, if_pos (by omega), n32s (x := w 26 1 + 0) (by omega) (by omega), sT_byteAt h, bT_isWord_r111_38, sJ_chr1_0, bT_isWord_r111_43, if_pos (by omega : 0 ≤ w 26 1 + 0 ∧ w 26 1 + 0 < w 26 0), show n32 (0 + 1) = 1 by decide]
    by_cases c0 : w 27 (w 26 1 + 0) = 98
    case neg => rw [if_neg c0, if_neg c0]
    rw [if_pos c0, if_pos c0]
    rw [bT_isWord_r111_20, sJ_len1, bT_isWord_r111_25, if_pos (by omega), n32s (x := w 26 1 + 1) (by omega) (by omega), sT_byteAt h, bT_isWord_r111_38, sJ_chr1_1, bT_isWord_r111_43, if_pos (by omega : 0 ≤ w 26 1 + 1 ∧ w 26 1 + 1 < w 26 0), show n32 (1 + 1) = 2 by decide]
    by_cases c1 : w 27 (w 26 1 + 1) = 111
    case neg => rw [if_neg c1, if_neg c1]
    rw [if_pos c1, if_pos c1]
    rw [bT_isWord_r111_20, sJ_len1, bT_isWord_r111_25, if_pos (by omega), n32s (x := w 26 1 + 2) (by omega) (by omega), sT_byteAt h, bT_isWord_r111_38, sJ_chr1_2, bT_isWord_r111_43, if_pos (by omega : 0 ≤ w 26 1 + 2 ∧ w 26 1 + 2 < w 26 0), show n32 (2 + 1) = 3 by decide]
    by_cases c2 : w 27 (w 26 1 + 2) = 103
    case neg => rw [if_neg c2, if_neg c2]
    rw [if_pos c2, if_pos c2]
    rw [bT_isWord_r111_20, sJ_len1, bT_isWord_r111_25, if_neg (by omega)]
  · rw [if_neg z, if_neg z]
theorem sM_word1 (hs : (0 ≤ w 45 13 ∧ w 45 13 ≤ w 45 14) ∧ w 45 14 ≤ 250) : AW mM_isWord 0 [jR 45, jR 111, jX] [] w Q = Q (jI (if w 45 15 = 119 then wd1 (w 52) (w 45 13) (w 45 14) else 0)) w := by
  unfold wd1
  rw [bM_isWord_r111_0]
  by_cases t : w 45 15 = 119
  case neg => rw [if_neg t, if_neg t]
  rw [if_pos t, if_pos t, sJ_len1, bM_isWord_r111_22, n32s (x := w 45 14 - w 45 13) (by omega) (by omega)]
  by_cases z : w 45 14 - w 45 13 = 3
  · rw [if_pos z, if_pos z]
    rw [bM_isWord_r111_29, sJ_len1, bM_isWord_r111_34, if_pos (by omega), n32s (x := w 45 13 + 0) (by omega) (by omega), if_pos (by omega), sJ_chr1_0, bM_isWord_r111_53, show n32 (0 + 1) = 1 by decide]
    by_cases c0 : w 52 (w 45 13 + 0) = 98
    case neg => rw [if_neg c0, if_neg c0]
    rw [if_pos c0, if_pos c0]
    rw [bM_isWord_r111_29, sJ_len1, bM_isWord_r111_34, if_pos (by omega), n32s (x := w 45 13 + 1) (by omega) (by omega), if_pos (by omega), sJ_chr1_1, bM_isWord_r111_53, show n32 (1 + 1) = 2 by decide]
    by_cases c1 : w 52 (w 45 13 + 1) = 111
    case neg => rw [if_neg c1, if_neg c1]
    rw [if_pos c1, if_pos c1]
    rw [bM_isWord_r111_29, sJ_len1, bM_isWord_r111_34, if_pos (by omega), n32s (x := w 45 13 + 2) (by omega) (by omega), if_pos (by omega), sJ_chr1_2, bM_isWord_r111_53, show n32 (2 + 1) = 3 by decide]
    by_cases c2 : w 52 (w 45 13 + 2) = 103
    case neg => rw [if_neg c2, if_neg c2]
    rw [if_pos c2, if_pos c2]
    rw [bM_isWord_r111_29, sJ_len1, bM_isWord_r111_34, if_neg (by omega)]
  · rw [if_neg z, if_neg z]
theorem sJ_len2 : AW mJ_length 0 [jR 112] [] w Q = Q (jI 3) w := by
  rw [bJ_length_r112_0, bJ_coder_r112_0, if_neg (by omega), if_pos (by omega), bJ_length_r112_9, show jshr 3 0 = 3 by decide]
theorem sJ_chr2_0 : AW mJ_charAt 0 [jR 112, jI 0] [] w Q = Q (jI 100) w := by
  have e0 : jel w 132 0 = 100 := rfl
  rw [bJ_charAt_r112_0, bJ_isLatin1_r112_0, if_neg (by omega), if_pos rfl, bJ_charAt_r112_4, if_neg (by omega), bJ_charAt2_r132_0, bJ_checkIndex_0, bJ_checkIndex2_r102_0, if_neg (by omega), if_pos (by omega), bJ_checkIndex_8, bJ_charAt2_r132_6, if_pos (by omega), e0, show jand 100 255 % 65536 = 100 by decide, if_pos (by omega), bJ_charAt_r112_15, if_pos (by omega)]
theorem sJ_chr2_1 : AW mJ_charAt 0 [jR 112, jI 1] [] w Q = Q (jI 114) w := by
  have e0 : jel w 132 1 = 114 := rfl
  rw [bJ_charAt_r112_0, bJ_isLatin1_r112_0, if_neg (by omega), if_pos rfl, bJ_charAt_r112_4, if_neg (by omega), bJ_charAt2_r132_0, bJ_checkIndex_0, bJ_checkIndex2_r102_0, if_neg (by omega), if_pos (by omega), bJ_checkIndex_8, bJ_charAt2_r132_6, if_pos (by omega), e0, show jand 114 255 % 65536 = 114 by decide, if_pos (by omega), bJ_charAt_r112_15, if_pos (by omega)]
theorem sJ_chr2_2 : AW mJ_charAt 0 [jR 112, jI 2] [] w Q = Q (jI 121) w := by
  have e0 : jel w 132 2 = 121 := rfl
  rw [bJ_charAt_r112_0, bJ_isLatin1_r112_0, if_neg (by omega), if_pos rfl, bJ_charAt_r112_4, if_neg (by omega), bJ_charAt2_r132_0, bJ_checkIndex_0, bJ_checkIndex2_r102_0, if_neg (by omega), if_pos (by omega), bJ_checkIndex_8, bJ_charAt2_r132_6, if_pos (by omega), e0, show jand 121 255 % 65536 = 121 by decide, if_pos (by omega), bJ_charAt_r112_15, if_pos (by omega)]
theorem sT_word2 (h : w 26 0 ≤ 250) (hs : (0 ≤ w 26 1 ∧ w 26 1 ≤ w 26 2) ∧ w 26 2 ≤ w 26 0) : AW mT_isWord 0 [jR 26, jR 112, jX] [] w Q = Q (jI (wd2 (w 27) (w 26 1) (w 26 2))) w := by
  unfold wd2
  rw [bT_isWord_r112_0, sJ_len2, bT_isWord_r112_13, n32s (x := w 26 2 - w 26 1) (by omega) (by omega)]
  by_cases z : w 26 2 - w 26 1 = 3
  · rw [if_pos z, if_pos z]
    rw [bT_isWord_r112_20, sJ_len2, bT_isWord_r112_25, if_pos (by omega), n32s (x := w 26 1 + 0) (by omega) (by omega), sT_byteAt h, bT_isWord_r112_38, sJ_chr2_0, bT_isWord_r112_43, if_pos (by omega : 0 ≤ w 26 1 + 0 ∧ w 26 1 + 0 < w 26 0), show n32 (0 + 1) = 1 by decide]
    by_cases c0 : w 27 (w 26 1 + 0) = 100
    case neg => rw [if_neg c0, if_neg c0]
    rw [if_pos c0, if_pos c0]
    rw [bT_isWord_r112_20, sJ_len2, bT_isWord_r112_25, if_pos (by omega), n32s (x := w 26 1 + 1) (by omega) (by omega), sT_byteAt h, bT_isWord_r112_38, sJ_chr2_1, bT_isWord_r112_43, if_pos (by omega : 0 ≤ w 26 1 + 1 ∧ w 26 1 + 1 < w 26 0), show n32 (1 + 1) = 2 by decide]
    by_cases c1 : w 27 (w 26 1 + 1) = 114
    case neg => rw [if_neg c1, if_neg c1]
    rw [if_pos c1, if_pos c1]
    rw [bT_isWord_r112_20, sJ_len2, bT_isWord_r112_25, if_pos (by omega), n32s (x := w 26 1 + 2) (by omega) (by omega), sT_byteAt h, bT_isWord_r112_38, sJ_chr2_2, bT_isWord_r112_43, if_pos (by omega : 0 ≤ w 26 1 + 2 ∧ w 26 1 + 2 < w 26 0), show n32 (2 + 1) = 3 by decide]
    by_cases c2 : w 27 (w 26 1 + 2) = 121
    case neg => rw [if_neg c2, if_neg c2]
    rw [if_pos c2, if_pos c2]
    rw [bT_isWord_r112_20, sJ_len2, bT_isWord_r112_25, if_neg (by omega)]
  · rw [if_neg z, if_neg z]
theorem sM_word2 (hs : (0 ≤ w 45 13 ∧ w 45 13 ≤ w 45 14) ∧ w 45 14 ≤ 250) : AW mM_isWord 0 [jR 45, jR 112, jX] [] w Q = Q (jI (if w 45 15 = 119 then wd2 (w 52) (w 45 13) (w 45 14) else 0)) w := by
  unfold wd2
  rw [bM_isWord_r112_0]
  by_cases t : w 45 15 = 119
  case neg => rw [if_neg t, if_neg t]
  rw [if_pos t, if_pos t, sJ_len2, bM_isWord_r112_22, n32s (x := w 45 14 - w 45 13) (by omega) (by omega)]
  by_cases z : w 45 14 - w 45 13 = 3
  · rw [if_pos z, if_pos z]
    rw [bM_isWord_r112_29, sJ_len2, bM_isWord_r112_34, if_pos (by omega), n32s (x := w 45 13 + 0) (by omega) (by omega), if_pos (by omega), sJ_chr2_0, bM_isWord_r112_53, show n32 (0 + 1) = 1 by decide]
    by_cases c0 : w 52 (w 45 13 + 0) = 100
    case neg => rw [if_neg c0, if_neg c0]
    rw [if_pos c0, if_pos c0]
    rw [bM_isWord_r112_29, sJ_len2, bM_isWord_r112_34, if_pos (by omega), n32s (x := w 45 13 + 1) (by omega) (by omega), if_pos (by omega), sJ_chr2_1, bM_isWord_r112_53, show n32 (1 + 1) = 2 by decide]
    by_cases c1 : w 52 (w 45 13 + 1) = 114
    case neg => rw [if_neg c1, if_neg c1]
    rw [if_pos c1, if_pos c1]
    rw [bM_isWord_r112_29, sJ_len2, bM_isWord_r112_34, if_pos (by omega), n32s (x := w 45 13 + 2) (by omega) (by omega), if_pos (by omega), sJ_chr2_2, bM_isWord_r112_53, show n32 (2 + 1) = 3 by decide]
    by_cases c2 : w 52 (w 45 13 + 2) = 121
    case neg => rw [if_neg c2, if_neg c2]
    rw [if_pos c2, if_pos c2]
    rw [bM_isWord_r112_29, sJ_len2, bM_isWord_r112_34, if_neg (by omega)]
  · rw [if_neg z, if_neg z]
theorem sJ_len3 : AW mJ_length 0 [jR 113] [] w Q = Q (jI 4) w := by
  rw [bJ_length_r113_0, bJ_coder_r113_0, if_neg (by omega), if_pos (by omega), bJ_length_r113_9, show jshr 4 0 = 4 by decide]
theorem sJ_chr3_0 : AW mJ_charAt 0 [jR 113, jI 0] [] w Q = Q (jI 104) w := by
  have e0 : jel w 133 0 = 104 := rfl
  rw [bJ_charAt_r113_0, bJ_isLatin1_r113_0, if_neg (by omega), if_pos rfl, bJ_charAt_r113_4, if_neg (by omega), bJ_charAt2_r133_0, bJ_checkIndex_0, bJ_checkIndex2_r102_0, if_neg (by omega), if_pos (by omega), bJ_checkIndex_8, bJ_charAt2_r133_6, if_pos (by omega), e0, show jand 104 255 % 65536 = 104 by decide, if_pos (by omega), bJ_charAt_r113_15, if_pos (by omega)]
theorem sJ_chr3_1 : AW mJ_charAt 0 [jR 113, jI 1] [] w Q = Q (jI 111) w := by
  have e0 : jel w 133 1 = 111 := rfl
  rw [bJ_charAt_r113_0, bJ_isLatin1_r113_0, if_neg (by omega), if_pos rfl, bJ_charAt_r113_4, if_neg (by omega), bJ_charAt2_r133_0, bJ_checkIndex_0, bJ_checkIndex2_r102_0, if_neg (by omega), if_pos (by omega), bJ_checkIndex_8, bJ_charAt2_r133_6, if_pos (by omega), e0, show jand 111 255 % 65536 = 111 by decide, if_pos (by omega), bJ_charAt_r113_15, if_pos (by omega)]
theorem sJ_chr3_2 : AW mJ_charAt 0 [jR 113, jI 2] [] w Q = Q (jI 109) w := by
  have e0 : jel w 133 2 = 109 := rfl
  rw [bJ_charAt_r113_0, bJ_isLatin1_r113_0, if_neg (by omega), if_pos rfl, bJ_charAt_r113_4, if_neg (by omega), bJ_charAt2_r133_0, bJ_checkIndex_0, bJ_checkIndex2_r102_0, if_neg (by omega), if_pos (by omega), bJ_checkIndex_8, bJ_charAt2_r133_6, if_pos (by omega), e0, show jand 109 255 % 65536 = 109 by decide, if_pos (by omega), bJ_charAt_r113_15, if_pos (by omega)]
theorem sJ_chr3_3 : AW mJ_charAt 0 [jR 113, jI 3] [] w Q = Q (jI 101) w := by
  have e0 : jel w 133 3 = 101 := rfl
  rw [bJ_charAt_r113_0, bJ_isLatin1_r113_0, if_neg (by omega), if_pos rfl, bJ_charAt_r113_4, if_neg (by omega), bJ_charAt2_r133_0, bJ_checkIndex_0, bJ_checkIndex2_r102_0, if_neg (by omega), if_pos (by omega), bJ_checkIndex_8, bJ_charAt2_r133_6, if_pos (by omega), e0, show jand 101 255 % 65536 = 101 by decide, if_pos (by omega), bJ_charAt_r113_15, if_pos (by omega)]
theorem sT_word3 (h : w 26 0 ≤ 250) (hs : (0 ≤ w 26 1 ∧ w 26 1 ≤ w 26 2) ∧ w 26 2 ≤ w 26 0) : AW mT_isWord 0 [jR 26, jR 113, jX] [] w Q = Q (jI (wd3 (w 27) (w 26 1) (w 26 2))) w := by
  unfold wd3
  rw [bT_isWord_r113_0, sJ_len3, bT_isWord_r113_13, n32s (x := w 26 2 - w 26 1) (by omega) (by omega)]
  by_cases z : w 26 2 - w 26 1 = 4
  · rw [if_pos z, if_pos z]
    rw [bT_isWord_r113_20, sJ_len3, bT_isWord_r113_25, if_pos (by omega), n32s (x := w 26 1 + 0) (by omega) (by omega), sT_byteAt h, bT_isWord_r113_38, sJ_chr3_0, bT_isWord_r113_43, if_pos (by omega : 0 ≤ w 26 1 + 0 ∧ w 26 1 + 0 < w 26 0), show n32 (0 + 1) = 1 by decide]
    by_cases c0 : w 27 (w 26 1 + 0) = 104
    case neg => rw [if_neg c0, if_neg c0]
    rw [if_pos c0, if_pos c0]
    rw [bT_isWord_r113_20, sJ_len3, bT_isWord_r113_25, if_pos (by omega), n32s (x := w 26 1 + 1) (by omega) (by omega), sT_byteAt h, bT_isWord_r113_38, sJ_chr3_1, bT_isWord_r113_43, if_pos (by omega : 0 ≤ w 26 1 + 1 ∧ w 26 1 + 1 < w 26 0), show n32 (1 + 1) = 2 by decide]
    by_cases c1 : w 27 (w 26 1 + 1) = 111
    case neg => rw [if_neg c1, if_neg c1]
    rw [if_pos c1, if_pos c1]
    rw [bT_isWord_r113_20, sJ_len3, bT_isWord_r113_25, if_pos (by omega), n32s (x := w 26 1 + 2) (by omega) (by omega), sT_byteAt h, bT_isWord_r113_38, sJ_chr3_2, bT_isWord_r113_43, if_pos (by omega : 0 ≤ w 26 1 + 2 ∧ w 26 1 + 2 < w 26 0), show n32 (2 + 1) = 3 by decide]
    by_cases c2 : w 27 (w 26 1 + 2) = 109
    case neg => rw [if_neg c2, if_neg c2]
    rw [if_pos c2, if_pos c2]
    rw [bT_isWord_r113_20, sJ_len3, bT_isWord_r113_25, if_pos (by omega), n32s (x := w 26 1 + 3) (by omega) (by omega), sT_byteAt h, bT_isWord_r113_38, sJ_chr3_3, bT_isWord_r113_43, if_pos (by omega : 0 ≤ w 26 1 + 3 ∧ w 26 1 + 3 < w 26 0), show n32 (3 + 1) = 4 by decide]
    by_cases c3 : w 27 (w 26 1 + 3) = 101
    case neg => rw [if_neg c3, if_neg c3]
    rw [if_pos c3, if_pos c3]
    rw [bT_isWord_r113_20, sJ_len3, bT_isWord_r113_25, if_neg (by omega)]
  · rw [if_neg z, if_neg z]
theorem sM_word3 (hs : (0 ≤ w 45 13 ∧ w 45 13 ≤ w 45 14) ∧ w 45 14 ≤ 250) : AW mM_isWord 0 [jR 45, jR 113, jX] [] w Q = Q (jI (if w 45 15 = 119 then wd3 (w 52) (w 45 13) (w 45 14) else 0)) w := by
  unfold wd3
  rw [bM_isWord_r113_0]
  by_cases t : w 45 15 = 119
  case neg => rw [if_neg t, if_neg t]
  rw [if_pos t, if_pos t, sJ_len3, bM_isWord_r113_22, n32s (x := w 45 14 - w 45 13) (by omega) (by omega)]
  by_cases z : w 45 14 - w 45 13 = 4
  · rw [if_pos z, if_pos z]
    rw [bM_isWord_r113_29, sJ_len3, bM_isWord_r113_34, if_pos (by omega), n32s (x := w 45 13 + 0) (by omega) (by omega), if_pos (by omega), sJ_chr3_0, bM_isWord_r113_53, show n32 (0 + 1) = 1 by decide]
    by_cases c0 : w 52 (w 45 13 + 0) = 104
    case neg => rw [if_neg c0, if_neg c0]
    rw [if_pos c0, if_pos c0]
    rw [bM_isWord_r113_29, sJ_len3, bM_isWord_r113_34, if_pos (by omega), n32s (x := w 45 13 + 1) (by omega) (by omega), if_pos (by omega), sJ_chr3_1, bM_isWord_r113_53, show n32 (1 + 1) = 2 by decide]
    by_cases c1 : w 52 (w 45 13 + 1) = 111
    case neg => rw [if_neg c1, if_neg c1]
    rw [if_pos c1, if_pos c1]
    rw [bM_isWord_r113_29, sJ_len3, bM_isWord_r113_34, if_pos (by omega), n32s (x := w 45 13 + 2) (by omega) (by omega), if_pos (by omega), sJ_chr3_2, bM_isWord_r113_53, show n32 (2 + 1) = 3 by decide]
    by_cases c2 : w 52 (w 45 13 + 2) = 109
    case neg => rw [if_neg c2, if_neg c2]
    rw [if_pos c2, if_pos c2]
    rw [bM_isWord_r113_29, sJ_len3, bM_isWord_r113_34, if_pos (by omega), n32s (x := w 45 13 + 3) (by omega) (by omega), if_pos (by omega), sJ_chr3_3, bM_isWord_r113_53, show n32 (3 + 1) = 4 by decide]
    by_cases c3 : w 52 (w 45 13 + 3) = 101
    case neg => rw [if_neg c3, if_neg c3]
    rw [if_pos c3, if_pos c3]
    rw [bM_isWord_r113_29, sJ_len3, bM_isWord_r113_34, if_neg (by omega)]
  · rw [if_neg z, if_neg z]
theorem sJ_len4 : AW mJ_length 0 [jR 114] [] w Q = Q (jI 4) w := by
  rw [bJ_length_r114_0, bJ_coder_r114_0, if_neg (by omega), if_pos (by omega), bJ_length_r114_9, show jshr 4 0 = 4 by decide]
theorem sJ_chr4_0 : AW mJ_charAt 0 [jR 114, jI 0] [] w Q = Q (jI 112) w := by
  have e0 : jel w 134 0 = 112 := rfl
  rw [bJ_charAt_r114_0, bJ_isLatin1_r114_0, if_neg (by omega), if_pos rfl, bJ_charAt_r114_4, if_neg (by omega), bJ_charAt2_r134_0, bJ_checkIndex_0, bJ_checkIndex2_r102_0, if_neg (by omega), if_pos (by omega), bJ_checkIndex_8, bJ_charAt2_r134_6, if_pos (by omega), e0, show jand 112 255 % 65536 = 112 by decide, if_pos (by omega), bJ_charAt_r114_15, if_pos (by omega)]
theorem sJ_chr4_1 : AW mJ_charAt 0 [jR 114, jI 1] [] w Q = Q (jI 111) w := by
  have e0 : jel w 134 1 = 111 := rfl
  rw [bJ_charAt_r114_0, bJ_isLatin1_r114_0, if_neg (by omega), if_pos rfl, bJ_charAt_r114_4, if_neg (by omega), bJ_charAt2_r134_0, bJ_checkIndex_0, bJ_checkIndex2_r102_0, if_neg (by omega), if_pos (by omega), bJ_checkIndex_8, bJ_charAt2_r134_6, if_pos (by omega), e0, show jand 111 255 % 65536 = 111 by decide, if_pos (by omega), bJ_charAt_r114_15, if_pos (by omega)]
theorem sJ_chr4_2 : AW mJ_charAt 0 [jR 114, jI 2] [] w Q = Q (jI 115) w := by
  have e0 : jel w 134 2 = 115 := rfl
  rw [bJ_charAt_r114_0, bJ_isLatin1_r114_0, if_neg (by omega), if_pos rfl, bJ_charAt_r114_4, if_neg (by omega), bJ_charAt2_r134_0, bJ_checkIndex_0, bJ_checkIndex2_r102_0, if_neg (by omega), if_pos (by omega), bJ_checkIndex_8, bJ_charAt2_r134_6, if_pos (by omega), e0, show jand 115 255 % 65536 = 115 by decide, if_pos (by omega), bJ_charAt_r114_15, if_pos (by omega)]
theorem sJ_chr4_3 : AW mJ_charAt 0 [jR 114, jI 3] [] w Q = Q (jI 116) w := by
  have e0 : jel w 134 3 = 116 := rfl
  rw [bJ_charAt_r114_0, bJ_isLatin1_r114_0, if_neg (by omega), if_pos rfl, bJ_charAt_r114_4, if_neg (by omega), bJ_charAt2_r134_0, bJ_checkIndex_0, bJ_checkIndex2_r102_0, if_neg (by omega), if_pos (by omega), bJ_checkIndex_8, bJ_charAt2_r134_6, if_pos (by omega), e0, show jand 116 255 % 65536 = 116 by decide, if_pos (by omega), bJ_charAt_r114_15, if_pos (by omega)]
theorem sT_word4 (h : w 26 0 ≤ 250) (hs : (0 ≤ w 26 1 ∧ w 26 1 ≤ w 26 2) ∧ w 26 2 ≤ w 26 0) : AW mT_isWord 0 [jR 26, jR 114, jX] [] w Q = Q (jI (wd4 (w 27) (w 26 1) (w 26 2))) w := by
  unfold wd4
  rw [bT_isWord_r114_0, sJ_len4, bT_isWord_r114_13, n32s (x := w 26 2 - w 26 1) (by omega) (by omega)]
  by_cases z : w 26 2 - w 26 1 = 4
  · rw [if_pos z, if_pos z]
    rw [bT_isWord_r114_20, sJ_len4, bT_isWord_r114_25, if_pos (by omega), n32s (x := w 26 1 + 0) (by omega) (by omega), sT_byteAt h, bT_isWord_r114_38, sJ_chr4_0, bT_isWord_r114_43, if_pos (by omega : 0 ≤ w 26 1 + 0 ∧ w 26 1 + 0 < w 26 0), show n32 (0 + 1) = 1 by decide]
    by_cases c0 : w 27 (w 26 1 + 0) = 112
    case neg => rw [if_neg c0, if_neg c0]
    rw [if_pos c0, if_pos c0]
    rw [bT_isWord_r114_20, sJ_len4, bT_isWord_r114_25, if_pos (by omega), n32s (x := w 26 1 + 1) (by omega) (by omega), sT_byteAt h, bT_isWord_r114_38, sJ_chr4_1, bT_isWord_r114_43, if_pos (by omega : 0 ≤ w 26 1 + 1 ∧ w 26 1 + 1 < w 26 0), show n32 (1 + 1) = 2 by decide]
    by_cases c1 : w 27 (w 26 1 + 1) = 111
    case neg => rw [if_neg c1, if_neg c1]
    rw [if_pos c1, if_pos c1]
    rw [bT_isWord_r114_20, sJ_len4, bT_isWord_r114_25, if_pos (by omega), n32s (x := w 26 1 + 2) (by omega) (by omega), sT_byteAt h, bT_isWord_r114_38, sJ_chr4_2, bT_isWord_r114_43, if_pos (by omega : 0 ≤ w 26 1 + 2 ∧ w 26 1 + 2 < w 26 0), show n32 (2 + 1) = 3 by decide]
    by_cases c2 : w 27 (w 26 1 + 2) = 115
    case neg => rw [if_neg c2, if_neg c2]
    rw [if_pos c2, if_pos c2]
    rw [bT_isWord_r114_20, sJ_len4, bT_isWord_r114_25, if_pos (by omega), n32s (x := w 26 1 + 3) (by omega) (by omega), sT_byteAt h, bT_isWord_r114_38, sJ_chr4_3, bT_isWord_r114_43, if_pos (by omega : 0 ≤ w 26 1 + 3 ∧ w 26 1 + 3 < w 26 0), show n32 (3 + 1) = 4 by decide]
    by_cases c3 : w 27 (w 26 1 + 3) = 116
    case neg => rw [if_neg c3, if_neg c3]
    rw [if_pos c3, if_pos c3]
    rw [bT_isWord_r114_20, sJ_len4, bT_isWord_r114_25, if_neg (by omega)]
  · rw [if_neg z, if_neg z]
theorem sM_word4 (hs : (0 ≤ w 45 13 ∧ w 45 13 ≤ w 45 14) ∧ w 45 14 ≤ 250) : AW mM_isWord 0 [jR 45, jR 114, jX] [] w Q = Q (jI (if w 45 15 = 119 then wd4 (w 52) (w 45 13) (w 45 14) else 0)) w := by
  unfold wd4
  rw [bM_isWord_r114_0]
  by_cases t : w 45 15 = 119
  case neg => rw [if_neg t, if_neg t]
  rw [if_pos t, if_pos t, sJ_len4, bM_isWord_r114_22, n32s (x := w 45 14 - w 45 13) (by omega) (by omega)]
  by_cases z : w 45 14 - w 45 13 = 4
  · rw [if_pos z, if_pos z]
    rw [bM_isWord_r114_29, sJ_len4, bM_isWord_r114_34, if_pos (by omega), n32s (x := w 45 13 + 0) (by omega) (by omega), if_pos (by omega), sJ_chr4_0, bM_isWord_r114_53, show n32 (0 + 1) = 1 by decide]
    by_cases c0 : w 52 (w 45 13 + 0) = 112
    case neg => rw [if_neg c0, if_neg c0]
    rw [if_pos c0, if_pos c0]
    rw [bM_isWord_r114_29, sJ_len4, bM_isWord_r114_34, if_pos (by omega), n32s (x := w 45 13 + 1) (by omega) (by omega), if_pos (by omega), sJ_chr4_1, bM_isWord_r114_53, show n32 (1 + 1) = 2 by decide]
    by_cases c1 : w 52 (w 45 13 + 1) = 111
    case neg => rw [if_neg c1, if_neg c1]
    rw [if_pos c1, if_pos c1]
    rw [bM_isWord_r114_29, sJ_len4, bM_isWord_r114_34, if_pos (by omega), n32s (x := w 45 13 + 2) (by omega) (by omega), if_pos (by omega), sJ_chr4_2, bM_isWord_r114_53, show n32 (2 + 1) = 3 by decide]
    by_cases c2 : w 52 (w 45 13 + 2) = 115
    case neg => rw [if_neg c2, if_neg c2]
    rw [if_pos c2, if_pos c2]
    rw [bM_isWord_r114_29, sJ_len4, bM_isWord_r114_34, if_pos (by omega), n32s (x := w 45 13 + 3) (by omega) (by omega), if_pos (by omega), sJ_chr4_3, bM_isWord_r114_53, show n32 (3 + 1) = 4 by decide]
    by_cases c3 : w 52 (w 45 13 + 3) = 116
    case neg => rw [if_neg c3, if_neg c3]
    rw [if_pos c3, if_pos c3]
    rw [bM_isWord_r114_29, sJ_len4, bM_isWord_r114_34, if_neg (by omega)]
  · rw [if_neg z, if_neg z]
theorem sJ_len5 : AW mJ_length 0 [jR 115] [] w Q = Q (jI 6) w := by
  rw [bJ_length_r115_0, bJ_coder_r115_0, if_neg (by omega), if_pos (by omega), bJ_length_r115_9, show jshr 6 0 = 6 by decide]
theorem sJ_chr5_0 : AW mJ_charAt 0 [jR 115, jI 0] [] w Q = Q (jI 119) w := by
  have e0 : jel w 135 0 = 119 := rfl
  rw [bJ_charAt_r115_0, bJ_isLatin1_r115_0, if_neg (by omega), if_pos rfl, bJ_charAt_r115_4, if_neg (by omega), bJ_charAt2_r135_0, bJ_checkIndex_0, bJ_checkIndex2_r102_0, if_neg (by omega), if_pos (by omega), bJ_checkIndex_8, bJ_charAt2_r135_6, if_pos (by omega), e0, show jand 119 255 % 65536 = 119 by decide, if_pos (by omega), bJ_charAt_r115_15, if_pos (by omega)]
theorem sJ_chr5_1 : AW mJ_charAt 0 [jR 115, jI 1] [] w Q = Q (jI 97) w := by
  have e0 : jel w 135 1 = 97 := rfl
  rw [bJ_charAt_r115_0, bJ_isLatin1_r115_0, if_neg (by omega), if_pos rfl, bJ_charAt_r115_4, if_neg (by omega), bJ_charAt2_r135_0, bJ_checkIndex_0, bJ_checkIndex2_r102_0, if_neg (by omega), if_pos (by omega), bJ_checkIndex_8, bJ_charAt2_r135_6, if_pos (by omega), e0, show jand 97 255 % 65536 = 97 by decide, if_pos (by omega), bJ_charAt_r115_15, if_pos (by omega)]
theorem sJ_chr5_2 : AW mJ_charAt 0 [jR 115, jI 2] [] w Q = Q (jI 108) w := by
  have e0 : jel w 135 2 = 108 := rfl
  rw [bJ_charAt_r115_0, bJ_isLatin1_r115_0, if_neg (by omega), if_pos rfl, bJ_charAt_r115_4, if_neg (by omega), bJ_charAt2_r135_0, bJ_checkIndex_0, bJ_checkIndex2_r102_0, if_neg (by omega), if_pos (by omega), bJ_checkIndex_8, bJ_charAt2_r135_6, if_pos (by omega), e0, show jand 108 255 % 65536 = 108 by decide, if_pos (by omega), bJ_charAt_r115_15, if_pos (by omega)]
theorem sJ_chr5_3 : AW mJ_charAt 0 [jR 115, jI 3] [] w Q = Q (jI 107) w := by
  have e0 : jel w 135 3 = 107 := rfl
  rw [bJ_charAt_r115_0, bJ_isLatin1_r115_0, if_neg (by omega), if_pos rfl, bJ_charAt_r115_4, if_neg (by omega), bJ_charAt2_r135_0, bJ_checkIndex_0, bJ_checkIndex2_r102_0, if_neg (by omega), if_pos (by omega), bJ_checkIndex_8, bJ_charAt2_r135_6, if_pos (by omega), e0, show jand 107 255 % 65536 = 107 by decide, if_pos (by omega), bJ_charAt_r115_15, if_pos (by omega)]
theorem sJ_chr5_4 : AW mJ_charAt 0 [jR 115, jI 4] [] w Q = Q (jI 101) w := by
  have e0 : jel w 135 4 = 101 := rfl
  rw [bJ_charAt_r115_0, bJ_isLatin1_r115_0, if_neg (by omega), if_pos rfl, bJ_charAt_r115_4, if_neg (by omega), bJ_charAt2_r135_0, bJ_checkIndex_0, bJ_checkIndex2_r102_0, if_neg (by omega), if_pos (by omega), bJ_checkIndex_8, bJ_charAt2_r135_6, if_pos (by omega), e0, show jand 101 255 % 65536 = 101 by decide, if_pos (by omega), bJ_charAt_r115_15, if_pos (by omega)]
theorem sJ_chr5_5 : AW mJ_charAt 0 [jR 115, jI 5] [] w Q = Q (jI 114) w := by
  have e0 : jel w 135 5 = 114 := rfl
  rw [bJ_charAt_r115_0, bJ_isLatin1_r115_0, if_neg (by omega), if_pos rfl, bJ_charAt_r115_4, if_neg (by omega), bJ_charAt2_r135_0, bJ_checkIndex_0, bJ_checkIndex2_r102_0, if_neg (by omega), if_pos (by omega), bJ_checkIndex_8, bJ_charAt2_r135_6, if_pos (by omega), e0, show jand 114 255 % 65536 = 114 by decide, if_pos (by omega), bJ_charAt_r115_15, if_pos (by omega)]
theorem sT_word5 (h : w 26 0 ≤ 250) (hs : (0 ≤ w 26 1 ∧ w 26 1 ≤ w 26 2) ∧ w 26 2 ≤ w 26 0) : AW mT_isWord 0 [jR 26, jR 115, jX] [] w Q = Q (jI (wd5 (w 27) (w 26 1) (w 26 2))) w := by
  unfold wd5
  rw [bT_isWord_r115_0, sJ_len5, bT_isWord_r115_13, n32s (x := w 26 2 - w 26 1) (by omega) (by omega)]
  by_cases z : w 26 2 - w 26 1 = 6
  · rw [if_pos z, if_pos z]
    rw [bT_isWord_r115_20, sJ_len5, bT_isWord_r115_25, if_pos (by omega), n32s (x := w 26 1 + 0) (by omega) (by omega), sT_byteAt h, bT_isWord_r115_38, sJ_chr5_0, bT_isWord_r115_43, if_pos (by omega : 0 ≤ w 26 1 + 0 ∧ w 26 1 + 0 < w 26 0), show n32 (0 + 1) = 1 by decide]
    by_cases c0 : w 27 (w 26 1 + 0) = 119
    case neg => rw [if_neg c0, if_neg c0]
    rw [if_pos c0, if_pos c0]
    rw [bT_isWord_r115_20, sJ_len5, bT_isWord_r115_25, if_pos (by omega), n32s (x := w 26 1 + 1) (by omega) (by omega), sT_byteAt h, bT_isWord_r115_38, sJ_chr5_1, bT_isWord_r115_43, if_pos (by omega : 0 ≤ w 26 1 + 1 ∧ w 26 1 + 1 < w 26 0), show n32 (1 + 1) = 2 by decide]
    by_cases c1 : w 27 (w 26 1 + 1) = 97
    case neg => rw [if_neg c1, if_neg c1]
    rw [if_pos c1, if_pos c1]
    rw [bT_isWord_r115_20, sJ_len5, bT_isWord_r115_25, if_pos (by omega), n32s (x := w 26 1 + 2) (by omega) (by omega), sT_byteAt h, bT_isWord_r115_38, sJ_chr5_2, bT_isWord_r115_43, if_pos (by omega : 0 ≤ w 26 1 + 2 ∧ w 26 1 + 2 < w 26 0), show n32 (2 + 1) = 3 by decide]
    by_cases c2 : w 27 (w 26 1 + 2) = 108
    case neg => rw [if_neg c2, if_neg c2]
    rw [if_pos c2, if_pos c2]
    rw [bT_isWord_r115_20, sJ_len5, bT_isWord_r115_25, if_pos (by omega), n32s (x := w 26 1 + 3) (by omega) (by omega), sT_byteAt h, bT_isWord_r115_38, sJ_chr5_3, bT_isWord_r115_43, if_pos (by omega : 0 ≤ w 26 1 + 3 ∧ w 26 1 + 3 < w 26 0), show n32 (3 + 1) = 4 by decide]
    by_cases c3 : w 27 (w 26 1 + 3) = 107
    case neg => rw [if_neg c3, if_neg c3]
    rw [if_pos c3, if_pos c3]
    rw [bT_isWord_r115_20, sJ_len5, bT_isWord_r115_25, if_pos (by omega), n32s (x := w 26 1 + 4) (by omega) (by omega), sT_byteAt h, bT_isWord_r115_38, sJ_chr5_4, bT_isWord_r115_43, if_pos (by omega : 0 ≤ w 26 1 + 4 ∧ w 26 1 + 4 < w 26 0), show n32 (4 + 1) = 5 by decide]
    by_cases c4 : w 27 (w 26 1 + 4) = 101
    case neg => rw [if_neg c4, if_neg c4]
    rw [if_pos c4, if_pos c4]
    rw [bT_isWord_r115_20, sJ_len5, bT_isWord_r115_25, if_pos (by omega), n32s (x := w 26 1 + 5) (by omega) (by omega), sT_byteAt h, bT_isWord_r115_38, sJ_chr5_5, bT_isWord_r115_43, if_pos (by omega : 0 ≤ w 26 1 + 5 ∧ w 26 1 + 5 < w 26 0), show n32 (5 + 1) = 6 by decide]
    by_cases c5 : w 27 (w 26 1 + 5) = 114
    case neg => rw [if_neg c5, if_neg c5]
    rw [if_pos c5, if_pos c5]
    rw [bT_isWord_r115_20, sJ_len5, bT_isWord_r115_25, if_neg (by omega)]
  · rw [if_neg z, if_neg z]
theorem sM_word5 (hs : (0 ≤ w 45 13 ∧ w 45 13 ≤ w 45 14) ∧ w 45 14 ≤ 250) : AW mM_isWord 0 [jR 45, jR 115, jX] [] w Q = Q (jI (if w 45 15 = 119 then wd5 (w 52) (w 45 13) (w 45 14) else 0)) w := by
  unfold wd5
  rw [bM_isWord_r115_0]
  by_cases t : w 45 15 = 119
  case neg => rw [if_neg t, if_neg t]
  rw [if_pos t, if_pos t, sJ_len5, bM_isWord_r115_22, n32s (x := w 45 14 - w 45 13) (by omega) (by omega)]
  by_cases z : w 45 14 - w 45 13 = 6
  · rw [if_pos z, if_pos z]
    rw [bM_isWord_r115_29, sJ_len5, bM_isWord_r115_34, if_pos (by omega), n32s (x := w 45 13 + 0) (by omega) (by omega), if_pos (by omega), sJ_chr5_0, bM_isWord_r115_53, show n32 (0 + 1) = 1 by decide]
    by_cases c0 : w 52 (w 45 13 + 0) = 119
    case neg => rw [if_neg c0, if_neg c0]
    rw [if_pos c0, if_pos c0]
    rw [bM_isWord_r115_29, sJ_len5, bM_isWord_r115_34, if_pos (by omega), n32s (x := w 45 13 + 1) (by omega) (by omega), if_pos (by omega), sJ_chr5_1, bM_isWord_r115_53, show n32 (1 + 1) = 2 by decide]
    by_cases c1 : w 52 (w 45 13 + 1) = 97
    case neg => rw [if_neg c1, if_neg c1]
    rw [if_pos c1, if_pos c1]
    rw [bM_isWord_r115_29, sJ_len5, bM_isWord_r115_34, if_pos (by omega), n32s (x := w 45 13 + 2) (by omega) (by omega), if_pos (by omega), sJ_chr5_2, bM_isWord_r115_53, show n32 (2 + 1) = 3 by decide]
    by_cases c2 : w 52 (w 45 13 + 2) = 108
    case neg => rw [if_neg c2, if_neg c2]
    rw [if_pos c2, if_pos c2]
    rw [bM_isWord_r115_29, sJ_len5, bM_isWord_r115_34, if_pos (by omega), n32s (x := w 45 13 + 3) (by omega) (by omega), if_pos (by omega), sJ_chr5_3, bM_isWord_r115_53, show n32 (3 + 1) = 4 by decide]
    by_cases c3 : w 52 (w 45 13 + 3) = 107
    case neg => rw [if_neg c3, if_neg c3]
    rw [if_pos c3, if_pos c3]
    rw [bM_isWord_r115_29, sJ_len5, bM_isWord_r115_34, if_pos (by omega), n32s (x := w 45 13 + 4) (by omega) (by omega), if_pos (by omega), sJ_chr5_4, bM_isWord_r115_53, show n32 (4 + 1) = 5 by decide]
    by_cases c4 : w 52 (w 45 13 + 4) = 101
    case neg => rw [if_neg c4, if_neg c4]
    rw [if_pos c4, if_pos c4]
    rw [bM_isWord_r115_29, sJ_len5, bM_isWord_r115_34, if_pos (by omega), n32s (x := w 45 13 + 5) (by omega) (by omega), if_pos (by omega), sJ_chr5_5, bM_isWord_r115_53, show n32 (5 + 1) = 6 by decide]
    by_cases c5 : w 52 (w 45 13 + 5) = 114
    case neg => rw [if_neg c5, if_neg c5]
    rw [if_pos c5, if_pos c5]
    rw [bM_isWord_r115_29, sJ_len5, bM_isWord_r115_34, if_neg (by omega)]
  · rw [if_neg z, if_neg z]
end WB
