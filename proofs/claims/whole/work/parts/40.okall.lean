/-! all methods' rows are as the bytes and the tables have them -/
theorem jok_in {lo n m : Nat} (h : ((List.range n).map (· + lo)).all jokm = true) (h1 : lo ≤ m) (h2 : m < lo + n) : jokm m = true := List.all_eq_true.mp h m (List.mem_map.mpr ⟨m - lo, List.mem_range.mpr (by omega), by omega⟩)
theorem jokm_all {m : Nat} (h : m < 271) : jokm m = true := by
  by_cases h14 : m < 14
  · exact jok_in jok_0 (by omega) (by omega)
  by_cases h28 : m < 28
  · exact jok_in jok_14 (by omega) (by omega)
  by_cases h42 : m < 42
  · exact jok_in jok_28 (by omega) (by omega)
  by_cases h56 : m < 56
  · exact jok_in jok_42 (by omega) (by omega)
  by_cases h70 : m < 70
  · exact jok_in jok_56 (by omega) (by omega)
  by_cases h84 : m < 84
  · exact jok_in jok_70 (by omega) (by omega)
  by_cases h98 : m < 98
  · exact jok_in jok_84 (by omega) (by omega)
  by_cases h112 : m < 112
  · exact jok_in jok_98 (by omega) (by omega)
  by_cases h126 : m < 126
  · exact jok_in jok_112 (by omega) (by omega)
  by_cases h140 : m < 140
  · exact jok_in jok_126 (by omega) (by omega)
  by_cases h154 : m < 154
  · exact jok_in jok_140 (by omega) (by omega)
  by_cases h168 : m < 168
  · exact jok_in jok_154 (by omega) (by omega)
  by_cases h182 : m < 182
  · exact jok_in jok_168 (by omega) (by omega)
  by_cases h196 : m < 196
  · exact jok_in jok_182 (by omega) (by omega)
  by_cases h210 : m < 210
  · exact jok_in jok_196 (by omega) (by omega)
  by_cases h224 : m < 224
  · exact jok_in jok_210 (by omega) (by omega)
  by_cases h238 : m < 238
  · exact jok_in jok_224 (by omega) (by omega)
  by_cases h252 : m < 252
  · exact jok_in jok_238 (by omega) (by omega)
  by_cases h266 : m < 266
  · exact jok_in jok_252 (by omega) (by omega)
  by_cases h271 : m < 271
  · exact jok_in jok_266 (by omega) (by omega)
  omega
theorem jall_cut {α : Type} (p : α → Bool) (n k : Nat) (L : List α) (h1 : ((L.drop k).take n).all p = true) (h2 : (L.drop (k + n)).all p = true) : (L.drop k).all p = true := by
  have h : (((L.drop k).take n) ++ ((L.drop k).drop n)).all p = true := by
    rw [List.all_append, h1, List.drop_drop, h2]; rfl
  rwa [List.take_append_drop] at h
set_option maxRecDepth 100000 in
theorem jokl_end : ((jcode 271).drop 1200).all (fun q => jdk 271 q && jlnk 271 q) = true := by
  rw [List.drop_eq_nil_of_le (by decide +kernel)]; rfl
theorem jokl_all : (jcode 271).all (fun q => jdk 271 q && jlnk 271 q) = true := by
  have h := (jall_cut _ 60 0 _ jokl_0 (jall_cut _ 60 60 _ jokl_60 (jall_cut _ 60 120 _ jokl_120 (jall_cut _ 60 180 _ jokl_180 (jall_cut _ 60 240 _ jokl_240 (jall_cut _ 60 300 _ jokl_300 (jall_cut _ 60 360 _ jokl_360 (jall_cut _ 60 420 _ jokl_420 (jall_cut _ 60 480 _ jokl_480 (jall_cut _ 60 540 _ jokl_540 (jall_cut _ 60 600 _ jokl_600 (jall_cut _ 60 660 _ jokl_660 (jall_cut _ 60 720 _ jokl_720 (jall_cut _ 60 780 _ jokl_780 (jall_cut _ 60 840 _ jokl_840 (jall_cut _ 60 900 _ jokl_900 (jall_cut _ 60 960 _ jokl_960 (jall_cut _ 60 1020 _ jokl_1020 (jall_cut _ 60 1080 _ jokl_1080 (jall_cut _ 60 1140 _ jokl_1140 jokl_end))))))))))))))))))))
  rwa [List.drop_zero] at h
theorem jOk_all (m : Nat) : jOk m := by
  by_cases h : m < 271
  · have h1 := jokm_all h
    unfold jokm at h1
    rw [Bool.and_eq_true] at h1
    exact h1.1
  · by_cases h2 : m = 271
    · subst h2; exact jokl_all
    · unfold jOk jcode
      rw [show Nat.blt m 272 = false from by
        cases hq : Nat.blt m 272
        · rfl
        · exact absurd (Nat.le_of_ble_eq_true hq) (by omega)]
      rfl
theorem jcw_in {is : List Nat} {cs : List (Option Cond)} (h : is.map (fun i => lw_tbl[i]?) = cs) {w : Cond} (hw : some w ∈ cs) : w ∈ lw_tbl := by
  rw [← h] at hw
  obtain ⟨i, -, hi⟩ := List.mem_map.mp hw
  exact List.mem_of_getElem? hi
theorem jcw_tbl {m : Nat} (h : m < 271) : jcw m ∈ lw_tbl := by
  by_cases h20 : m < 20
  · have hm : some (jcw m) ∈ (List.range 20).map (fun j => some (jcw (j + 0))) := List.mem_map.mpr ⟨m - 0, List.mem_range.mpr (by omega), by rw [Nat.sub_add_cancel (by omega)]⟩
    exact jcw_in jcw_0 hm
  by_cases h40 : m < 40
  · have hm : some (jcw m) ∈ (List.range 20).map (fun j => some (jcw (j + 20))) := List.mem_map.mpr ⟨m - 20, List.mem_range.mpr (by omega), by rw [Nat.sub_add_cancel (by omega)]⟩
    exact jcw_in jcw_20 hm
  by_cases h60 : m < 60
  · have hm : some (jcw m) ∈ (List.range 20).map (fun j => some (jcw (j + 40))) := List.mem_map.mpr ⟨m - 40, List.mem_range.mpr (by omega), by rw [Nat.sub_add_cancel (by omega)]⟩
    exact jcw_in jcw_40 hm
  by_cases h80 : m < 80
  · have hm : some (jcw m) ∈ (List.range 20).map (fun j => some (jcw (j + 60))) := List.mem_map.mpr ⟨m - 60, List.mem_range.mpr (by omega), by rw [Nat.sub_add_cancel (by omega)]⟩
    exact jcw_in jcw_60 hm
  by_cases h100 : m < 100
  · have hm : some (jcw m) ∈ (List.range 20).map (fun j => some (jcw (j + 80))) := List.mem_map.mpr ⟨m - 80, List.mem_range.mpr (by omega), by rw [Nat.sub_add_cancel (by omega)]⟩
    exact jcw_in jcw_80 hm
  by_cases h120 : m < 120
  · have hm : some (jcw m) ∈ (List.range 20).map (fun j => some (jcw (j + 100))) := List.mem_map.mpr ⟨m - 100, List.mem_range.mpr (by omega), by rw [Nat.sub_add_cancel (by omega)]⟩
    exact jcw_in jcw_100 hm
  by_cases h140 : m < 140
  · have hm : some (jcw m) ∈ (List.range 20).map (fun j => some (jcw (j + 120))) := List.mem_map.mpr ⟨m - 120, List.mem_range.mpr (by omega), by rw [Nat.sub_add_cancel (by omega)]⟩
    exact jcw_in jcw_120 hm
  by_cases h160 : m < 160
  · have hm : some (jcw m) ∈ (List.range 20).map (fun j => some (jcw (j + 140))) := List.mem_map.mpr ⟨m - 140, List.mem_range.mpr (by omega), by rw [Nat.sub_add_cancel (by omega)]⟩
    exact jcw_in jcw_140 hm
  by_cases h180 : m < 180
  · have hm : some (jcw m) ∈ (List.range 20).map (fun j => some (jcw (j + 160))) := List.mem_map.mpr ⟨m - 160, List.mem_range.mpr (by omega), by rw [Nat.sub_add_cancel (by omega)]⟩
    exact jcw_in jcw_160 hm
  by_cases h200 : m < 200
  · have hm : some (jcw m) ∈ (List.range 20).map (fun j => some (jcw (j + 180))) := List.mem_map.mpr ⟨m - 180, List.mem_range.mpr (by omega), by rw [Nat.sub_add_cancel (by omega)]⟩
    exact jcw_in jcw_180 hm
  by_cases h220 : m < 220
  · have hm : some (jcw m) ∈ (List.range 20).map (fun j => some (jcw (j + 200))) := List.mem_map.mpr ⟨m - 200, List.mem_range.mpr (by omega), by rw [Nat.sub_add_cancel (by omega)]⟩
    exact jcw_in jcw_200 hm
  by_cases h240 : m < 240
  · have hm : some (jcw m) ∈ (List.range 20).map (fun j => some (jcw (j + 220))) := List.mem_map.mpr ⟨m - 220, List.mem_range.mpr (by omega), by rw [Nat.sub_add_cancel (by omega)]⟩
    exact jcw_in jcw_220 hm
  by_cases h260 : m < 260
  · have hm : some (jcw m) ∈ (List.range 20).map (fun j => some (jcw (j + 240))) := List.mem_map.mpr ⟨m - 240, List.mem_range.mpr (by omega), by rw [Nat.sub_add_cancel (by omega)]⟩
    exact jcw_in jcw_240 hm
  by_cases h271 : m < 271
  · have hm : some (jcw m) ∈ (List.range 11).map (fun j => some (jcw (j + 260))) := List.mem_map.mpr ⟨m - 260, List.mem_range.mpr (by omega), by rw [Nat.sub_add_cancel (by omega)]⟩
    exact jcw_in jcw_260 hm
  omega
