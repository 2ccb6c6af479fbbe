/-! THE LAW: its loop, over any relation of the two heaps that every call keeps with like answers -/
theorem cl_law_139 : Cond.constantLong RL 139 4294967295 ∈ bb_good := by decide +kernel
theorem iv_L_13 : bb_iv RL 13 RX7 yX7_man cX7_man 5 (some .int) 2 := by unfold bb_iv; decide +kernel
theorem iv_L_17 : bb_iv RL 17 RX8 yX8_man cX8_man 5 (some .int) 2 := by unfold bb_iv; decide +kernel
theorem iv_L_18 : bb_iv RL 18 RX7 yX7_stood cX7_stood 6 (some .int) 3 := by unfold bb_iv; decide +kernel
theorem iv_L_22 : bb_iv RL 22 RX8 yX8_stood cX8_stood 5 (some .int) 3 := by unfold bb_iv; decide +kernel
theorem iv_L_23 : bb_iv RL 23 RX7 yX7_of cX7_of 5 (some .int) 2 := by unfold bb_iv; decide +kernel
theorem iv_L_26 : bb_iv RL 26 RX8 yX8_of cX8_of 3 (some .int) 2 := by unfold bb_iv; decide +kernel
theorem iv_L_27 : bb_iv RL 27 RX7 yX7_seat cX7_seat 2 (some .int) 1 := by unfold bb_iv; decide +kernel
theorem iv_L_31 : bb_iv RL 31 RX8 yX8_seat cX8_seat 2 (some .int) 1 := by unfold bb_iv; decide +kernel
theorem iv_L_32 : bb_iv RL 32 RX7 yX7_type cX7_type 2 (some .int) 1 := by unfold bb_iv; decide +kernel
theorem iv_L_35 : bb_iv RL 35 RX8 yX8_type cX8_type 2 (some .int) 1 := by unfold bb_iv; decide +kernel
theorem iv_L_36 : bb_iv RL 36 RX7 yX7_read cX7_read 2 (some .int) 0 := by unfold bb_iv; decide +kernel
theorem iv_L_40 : bb_iv RL 40 RX8 yX8_read cX8_read 4 (some .int) 0 := by unfold bb_iv; decide +kernel
theorem iv_L_41 : bb_iv RL 41 RX7 yX7_count cX7_count 3 (some .int) 1 := by unfold bb_iv; decide +kernel
theorem iv_L_44 : bb_iv RL 44 RX8 yX8_count cX8_count 2 (some .int) 1 := by unfold bb_iv; decide +kernel
theorem iv_L_45 : bb_iv RL 45 RX7 yX7_years cX7_years 2 (some .int) 1 := by unfold bb_iv; decide +kernel
theorem iv_L_48 : bb_iv RL 48 RX8 yX8_years cX8_years 3 (some .int) 1 := by unfold bb_iv; decide +kernel
theorem iv_L_49 : bb_iv RL 49 RX7 yX7_move cX7_move 3 (some .int) 1 := by unfold bb_iv; decide +kernel
theorem iv_L_52 : bb_iv RL 52 RX8 yX8_move cX8_move 2 (some .int) 1 := by unfold bb_iv; decide +kernel
theorem iv_L_53 : bb_iv RL 53 RX7 yX7_nurse cX7_nurse 4 (some .int) 2 := by unfold bb_iv; decide +kernel
theorem iv_L_56 : bb_iv RL 56 RX8 yX8_nurse cX8_nurse 4 (some .int) 2 := by unfold bb_iv; decide +kernel
theorem iv_L_57 : bb_iv RL 57 RX7 yX7_drift cX7_drift 2 (some .int) 1 := by unfold bb_iv; decide +kernel
theorem iv_L_60 : bb_iv RL 60 RX8 yX8_drift cX8_drift 3 (some .int) 1 := by unfold bb_iv; decide +kernel
theorem iv_L_61 : bb_iv RL 61 RX7 yX7_undo cX7_undo 1 (some .int) 0 := by unfold bb_iv; decide +kernel
theorem iv_L_64 : bb_iv RL 64 RX8 yX8_undo cX8_undo 2 (some .int) 0 := by unfold bb_iv; decide +kernel
theorem iv_L_65 : bb_iv RL 65 RX7 yX7_seed cX7_seed 3 (some .int) 1 := by unfold bb_iv; decide +kernel
theorem iv_L_68 : bb_iv RL 68 RX8 yX8_seed cX8_seed 3 (some .int) 1 := by unfold bb_iv; decide +kernel
theorem iv_L_69 : bb_iv RL 69 RX7 yX7_ahead cX7_ahead 3 (some .int) 2 := by unfold bb_iv; decide +kernel
theorem iv_L_72 : bb_iv RL 72 RX8 yX8_ahead cX8_ahead 4 (some .int) 2 := by unfold bb_iv; decide +kernel
theorem iv_L_73 : bb_iv RL 73 RX7 yX7_then cX7_then 2 (some .int) 1 := by unfold bb_iv; decide +kernel
theorem iv_L_76 : bb_iv RL 76 RX8 yX8_then cX8_then 3 (some .int) 1 := by unfold bb_iv; decide +kernel
theorem iv_L_77 : bb_iv RL 77 RX7 yX7_ends cX7_ends 3 (some .int) 1 := by unfold bb_iv; decide +kernel
theorem iv_L_80 : bb_iv RL 80 RX8 yX8_ends cX8_ends 3 (some .int) 1 := by unfold bb_iv; decide +kernel
theorem iv_L_81 : bb_iv RL 81 RX7 yX7_lonely cX7_lonely 2 (some .int) 0 := by unfold bb_iv; decide +kernel
theorem iv_L_84 : bb_iv RL 84 RX8 yX8_lonely cX8_lonely 2 (some .int) 0 := by unfold bb_iv; decide +kernel
theorem iv_L_85 : bb_iv RL 85 RX7 yX7_close cX7_close 4 (some .int) 2 := by unfold bb_iv; decide +kernel
theorem iv_L_88 : bb_iv RL 88 RX8 yX8_close cX8_close 4 (some .int) 2 := by unfold bb_iv; decide +kernel
theorem iv_L_89 : bb_iv RL 89 RX7 yX7_swaps cX7_swaps 7 (some .int) 1 := by unfold bb_iv; decide +kernel
theorem iv_L_92 : bb_iv RL 92 RX8 yX8_swaps cX8_swaps 5 (some .int) 1 := by unfold bb_iv; decide +kernel
theorem iv_L_93 : bb_iv RL 93 RX7 yX7_stay cX7_stay 4 (some .int) 2 := by unfold bb_iv; decide +kernel
theorem iv_L_96 : bb_iv RL 96 RX8 yX8_stay cX8_stay 6 (some .int) 2 := by unfold bb_iv; decide +kernel
theorem iv_L_97 : bb_iv RL 97 RX7 yX7_ways cX7_ways 3 (some .int) 0 := by unfold bb_iv; decide +kernel
theorem iv_L_100 : bb_iv RL 100 RX8 yX8_ways cX8_ways 3 (some .int) 0 := by unfold bb_iv; decide +kernel
theorem iv_L_101 : bb_iv RL 101 RX7 yX7_ease cX7_ease 3 (some .int) 1 := by unfold bb_iv; decide +kernel
theorem iv_L_104 : bb_iv RL 104 RX8 yX8_ease cX8_ease 6 (some .int) 1 := by unfold bb_iv; decide +kernel
theorem iv_L_105 : bb_iv RL 105 RX7 yX7_left cX7_left 3 (some .int) 2 := by unfold bb_iv; decide +kernel
theorem iv_L_108 : bb_iv RL 108 RX8 yX8_left cX8_left 9 (some .int) 2 := by unfold bb_iv; decide +kernel
theorem iv_L_109 : bb_iv RL 109 RX7 yX7_winter cX7_winter 7 (some .int) 3 := by unfold bb_iv; decide +kernel
theorem iv_L_112 : bb_iv RL 112 RX8 yX8_winter cX8_winter 11 (some .int) 3 := by unfold bb_iv; decide +kernel
theorem iv_L_113 : bb_iv RL 113 RX7 yX7_image cX7_image 1 (some .int) 0 := by unfold bb_iv; decide +kernel
theorem iv_L_116 : bb_iv RL 116 RX8 yX8_image cX8_image 2 (some .int) 0 := by unfold bb_iv; decide +kernel
theorem iv_L_117 : bb_iv RL 117 RX7 yX7_restore cX7_restore 1 (some .int) 0 := by unfold bb_iv; decide +kernel
theorem iv_L_120 : bb_iv RL 120 RX8 yX8_restore cX8_restore 2 (some .int) 0 := by unfold bb_iv; decide +kernel
theorem iv_L_121 : bb_iv RL 121 RX7 yX7_failed cX7_failed 9 (some .int) 6 := by unfold bb_iv; decide +kernel
theorem iv_L_125 : bb_iv RL 125 RX8 yX8_failed cX8_failed 14 (some .int) 6 := by unfold bb_iv; decide +kernel
theorem iv_L_126 : bb_iv RL 126 RX7 yX7_film cX7_film 9 (some .int) 5 := by unfold bb_iv; decide +kernel
theorem iv_L_130 : bb_iv RL 130 RX8 yX8_film cX8_film 8 (some .int) 5 := by unfold bb_iv; decide +kernel
theorem iv_L_131 : bb_iv RL 131 RX7 yX7_sheet cX7_sheet 4 (some .int) 3 := by unfold bb_iv; decide +kernel
theorem iv_L_134 : bb_iv RL 134 RX8 yX8_sheet cX8_sheet 5 (some .int) 3 := by unfold bb_iv; decide +kernel
theorem iv_L_135 : bb_iv RL 135 RX7 yX7_drop cX7_drop 3 (some .int) 1 := by unfold bb_iv; decide +kernel
theorem iv_L_138 : bb_iv RL 138 RX8 yX8_drop cX8_drop 3 (some .int) 1 := by unfold bb_iv; decide +kernel
theorem iv_L_141 : bb_iv RL 141 RX7 yX7_item cX7_item 7 (some .int) 4 := by unfold bb_iv; decide +kernel
theorem iv_L_145 : bb_iv RL 145 RX8 yX8_item cX8_item 7 (some .int) 4 := by unfold bb_iv; decide +kernel
theorem iv_L_146 : bb_iv RL 146 RX7 yX7_copy cX7_copy 8 (some .int) 5 := by unfold bb_iv; decide +kernel
theorem iv_L_149 : bb_iv RL 149 RX8 yX8_copy cX8_copy 9 (some .int) 5 := by unfold bb_iv; decide +kernel
def sim_man (R : bb_H → bb_H → Prop) : Prop := ∀ (hX hM : bb_H) (a0 : Int32) (a1 : Int32), R hX hM → ∃ (r : Int32) (hX2 hM2 : bb_H), m_X7_man 0 a0 a1 hX = some (r, hX2) ∧ m_X8_man 0 a0 a1 hM = some (r, hM2) ∧ R hX2 hM2
def sim_stood (R : bb_H → bb_H → Prop) : Prop := ∀ (hX hM : bb_H) (a0 : Int32) (a1 : Int32) (a2 : Int32), R hX hM → ∃ (r : Int32) (hX2 hM2 : bb_H), m_X7_stood 0 a0 a1 a2 hX = some (r, hX2) ∧ m_X8_stood 0 a0 a1 a2 hM = some (r, hM2) ∧ R hX2 hM2
def sim_of (R : bb_H → bb_H → Prop) : Prop := ∀ (hX hM : bb_H) (a0 : Int32) (a1 : Int32), R hX hM → ∃ (r : Int32) (hX2 hM2 : bb_H), m_X7_of 0 a0 a1 hX = some (r, hX2) ∧ m_X8_of 0 a0 a1 hM = some (r, hM2) ∧ R hX2 hM2
def sim_seat (R : bb_H → bb_H → Prop) : Prop := ∀ (hX hM : bb_H) (a0 : Int32), R hX hM → ∃ (r : Int32) (hX2 hM2 : bb_H), m_X7_seat 0 a0 hX = some (r, hX2) ∧ m_X8_seat 0 a0 hM = some (r, hM2) ∧ R hX2 hM2
def sim_type (R : bb_H → bb_H → Prop) : Prop := ∀ (hX hM : bb_H) (a0 : Int32), R hX hM → ∃ (r : Int32) (hX2 hM2 : bb_H), m_X7_type 0 a0 hX = some (r, hX2) ∧ m_X8_type 0 a0 hM = some (r, hM2) ∧ R hX2 hM2
def sim_read (R : bb_H → bb_H → Prop) : Prop := ∀ (hX hM : bb_H), R hX hM → ∃ (r : Int32) (hX2 hM2 : bb_H), m_X7_read 0 hX = some (r, hX2) ∧ m_X8_read 0 hM = some (r, hM2) ∧ R hX2 hM2
def sim_count (R : bb_H → bb_H → Prop) : Prop := ∀ (hX hM : bb_H) (a0 : Int32), R hX hM → ∃ (r : Int32) (hX2 hM2 : bb_H), m_X7_count 0 a0 hX = some (r, hX2) ∧ m_X8_count 0 a0 hM = some (r, hM2) ∧ R hX2 hM2
def sim_years (R : bb_H → bb_H → Prop) : Prop := ∀ (hX hM : bb_H) (a0 : Int32), R hX hM → ∃ (r : Int32) (hX2 hM2 : bb_H), m_X7_years 0 a0 hX = some (r, hX2) ∧ m_X8_years 0 a0 hM = some (r, hM2) ∧ R hX2 hM2
def sim_move (R : bb_H → bb_H → Prop) : Prop := ∀ (hX hM : bb_H) (a0 : Int32), R hX hM → ∃ (r : Int32) (hX2 hM2 : bb_H), m_X7_move 0 a0 hX = some (r, hX2) ∧ m_X8_move 0 a0 hM = some (r, hM2) ∧ R hX2 hM2
def sim_nurse (R : bb_H → bb_H → Prop) : Prop := ∀ (hX hM : bb_H) (a0 : Int32) (a1 : Int32), R hX hM → ∃ (r : Int32) (hX2 hM2 : bb_H), m_X7_nurse 0 a0 a1 hX = some (r, hX2) ∧ m_X8_nurse 0 a0 a1 hM = some (r, hM2) ∧ R hX2 hM2
def sim_drift (R : bb_H → bb_H → Prop) : Prop := ∀ (hX hM : bb_H) (a0 : Int32), R hX hM → ∃ (r : Int32) (hX2 hM2 : bb_H), m_X7_drift 0 a0 hX = some (r, hX2) ∧ m_X8_drift 0 a0 hM = some (r, hM2) ∧ R hX2 hM2
def sim_undo (R : bb_H → bb_H → Prop) : Prop := ∀ (hX hM : bb_H), R hX hM → ∃ (r : Int32) (hX2 hM2 : bb_H), m_X7_undo 0 hX = some (r, hX2) ∧ m_X8_undo 0 hM = some (r, hM2) ∧ R hX2 hM2
def sim_seed (R : bb_H → bb_H → Prop) : Prop := ∀ (hX hM : bb_H) (a0 : Int32), R hX hM → ∃ (r : Int32) (hX2 hM2 : bb_H), m_X7_seed 0 a0 hX = some (r, hX2) ∧ m_X8_seed 0 a0 hM = some (r, hM2) ∧ R hX2 hM2
def sim_ahead (R : bb_H → bb_H → Prop) : Prop := ∀ (hX hM : bb_H) (a0 : Int32) (a1 : Int32), R hX hM → ∃ (r : Int32) (hX2 hM2 : bb_H), m_X7_ahead 0 a0 a1 hX = some (r, hX2) ∧ m_X8_ahead 0 a0 a1 hM = some (r, hM2) ∧ R hX2 hM2
def sim_then (R : bb_H → bb_H → Prop) : Prop := ∀ (hX hM : bb_H) (a0 : Int32), R hX hM → ∃ (r : Int32) (hX2 hM2 : bb_H), m_X7_then 0 a0 hX = some (r, hX2) ∧ m_X8_then 0 a0 hM = some (r, hM2) ∧ R hX2 hM2
def sim_ends (R : bb_H → bb_H → Prop) : Prop := ∀ (hX hM : bb_H) (a0 : Int32), R hX hM → ∃ (r : Int32) (hX2 hM2 : bb_H), m_X7_ends 0 a0 hX = some (r, hX2) ∧ m_X8_ends 0 a0 hM = some (r, hM2) ∧ R hX2 hM2
def sim_lonely (R : bb_H → bb_H → Prop) : Prop := ∀ (hX hM : bb_H), R hX hM → ∃ (r : Int32) (hX2 hM2 : bb_H), m_X7_lonely 0 hX = some (r, hX2) ∧ m_X8_lonely 0 hM = some (r, hM2) ∧ R hX2 hM2
def sim_close (R : bb_H → bb_H → Prop) : Prop := ∀ (hX hM : bb_H) (a0 : Int32) (a1 : Int32), R hX hM → ∃ (r : Int32) (hX2 hM2 : bb_H), m_X7_close 0 a0 a1 hX = some (r, hX2) ∧ m_X8_close 0 a0 a1 hM = some (r, hM2) ∧ R hX2 hM2
def sim_swaps (R : bb_H → bb_H → Prop) : Prop := ∀ (hX hM : bb_H) (a0 : Int32), R hX hM → ∃ (r : Int32) (hX2 hM2 : bb_H), m_X7_swaps 0 a0 hX = some (r, hX2) ∧ m_X8_swaps 0 a0 hM = some (r, hM2) ∧ R hX2 hM2
def sim_stay (R : bb_H → bb_H → Prop) : Prop := ∀ (hX hM : bb_H) (a0 : Int32) (a1 : Int32), R hX hM → ∃ (r : Int32) (hX2 hM2 : bb_H), m_X7_stay 0 a0 a1 hX = some (r, hX2) ∧ m_X8_stay 0 a0 a1 hM = some (r, hM2) ∧ R hX2 hM2
def sim_ways (R : bb_H → bb_H → Prop) : Prop := ∀ (hX hM : bb_H), R hX hM → ∃ (r : Int32) (hX2 hM2 : bb_H), m_X7_ways 0 hX = some (r, hX2) ∧ m_X8_ways 0 hM = some (r, hM2) ∧ R hX2 hM2
def sim_ease (R : bb_H → bb_H → Prop) : Prop := ∀ (hX hM : bb_H) (a0 : Int32), R hX hM → ∃ (r : Int32) (hX2 hM2 : bb_H), m_X7_ease 0 a0 hX = some (r, hX2) ∧ m_X8_ease 0 a0 hM = some (r, hM2) ∧ R hX2 hM2
def sim_left (R : bb_H → bb_H → Prop) : Prop := ∀ (hX hM : bb_H) (a0 : Int32) (a1 : Int32), R hX hM → ∃ (r : Int32) (hX2 hM2 : bb_H), m_X7_left 0 a0 a1 hX = some (r, hX2) ∧ m_X8_left 0 a0 a1 hM = some (r, hM2) ∧ R hX2 hM2
def sim_winter (R : bb_H → bb_H → Prop) : Prop := ∀ (hX hM : bb_H) (a0 : Int32) (a1 : Int32) (a2 : Int32), R hX hM → ∃ (r : Int32) (hX2 hM2 : bb_H), m_X7_winter 0 a0 a1 a2 hX = some (r, hX2) ∧ m_X8_winter 0 a0 a1 a2 hM = some (r, hM2) ∧ R hX2 hM2
def sim_image (R : bb_H → bb_H → Prop) : Prop := ∀ (hX hM : bb_H), R hX hM → ∃ (r : Int32) (hX2 hM2 : bb_H), m_X7_image 0 hX = some (r, hX2) ∧ m_X8_image 0 hM = some (r, hM2) ∧ R hX2 hM2
def sim_restore (R : bb_H → bb_H → Prop) : Prop := ∀ (hX hM : bb_H), R hX hM → ∃ (r : Int32) (hX2 hM2 : bb_H), m_X7_restore 0 hX = some (r, hX2) ∧ m_X8_restore 0 hM = some (r, hM2) ∧ R hX2 hM2
def sim_failed (R : bb_H → bb_H → Prop) : Prop := ∀ (hX hM : bb_H) (a0 : Int32) (a1 : Int32) (a2 : Int32) (a3 : Int32) (a4 : Int32) (a5 : Int32), R hX hM → ∃ (r : Int32) (hX2 hM2 : bb_H), m_X7_failed 0 a0 a1 a2 a3 a4 a5 hX = some (r, hX2) ∧ m_X8_failed 0 a0 a1 a2 a3 a4 a5 hM = some (r, hM2) ∧ R hX2 hM2
def sim_film (R : bb_H → bb_H → Prop) : Prop := ∀ (hX hM : bb_H) (a0 : Int32) (a1 : Int32) (a2 : Int32) (a3 : Int32) (a4 : Int32), R hX hM → ∃ (r : Int32) (hX2 hM2 : bb_H), m_X7_film 0 a0 a1 a2 a3 a4 hX = some (r, hX2) ∧ m_X8_film 0 a0 a1 a2 a3 a4 hM = some (r, hM2) ∧ R hX2 hM2
def sim_sheet (R : bb_H → bb_H → Prop) : Prop := ∀ (hX hM : bb_H) (a0 : Int32) (a1 : Int32) (a2 : Int32), R hX hM → ∃ (r : Int32) (hX2 hM2 : bb_H), m_X7_sheet 0 a0 a1 a2 hX = some (r, hX2) ∧ m_X8_sheet 0 a0 a1 a2 hM = some (r, hM2) ∧ R hX2 hM2
def sim_drop (R : bb_H → bb_H → Prop) : Prop := ∀ (hX hM : bb_H) (a0 : Int32), R hX hM → ∃ (r : Int32) (hX2 hM2 : bb_H), m_X7_drop 0 a0 hX = some (r, hX2) ∧ m_X8_drop 0 a0 hM = some (r, hM2) ∧ R hX2 hM2
def sim_item (R : bb_H → bb_H → Prop) : Prop := ∀ (hX hM : bb_H) (a0 : Int32) (a1 : Int32) (a2 : Int32) (a3 : Int64), R hX hM → ∃ (r : Int32) (hX2 hM2 : bb_H), m_X7_item 0 a0 a1 a2 a3 hX = some (r, hX2) ∧ m_X8_item 0 a0 a1 a2 a3 hM = some (r, hM2) ∧ R hX2 hM2
def sim_copy (R : bb_H → bb_H → Prop) : Prop := ∀ (hX hM : bb_H) (a0 : Int32) (a1 : Int32) (a2 : Int32) (a3 : Int32) (a4 : Int32), R hX hM → ∃ (r : Int32) (hX2 hM2 : bb_H), m_X7_copy 0 a0 a1 a2 a3 a4 hX = some (r, hX2) ∧ m_X8_copy 0 a0 a1 a2 a3 a4 hM = some (r, hM2) ∧ R hX2 hM2
def bl_rcv (R : bb_H → bb_H → Prop) : Prop := ∀ hX hM : bb_H, R hX hM → (∃ vs, hX[0]? = some (.inr 7, vs)) ∧ ∃ vs, hM[0]? = some (.inr 8, vs)
set_option maxRecDepth 100000 in
set_option maxHeartbeats 4000000 in
theorem bl_case_0 {R : bb_H → bb_H → Prop} {N : Nat} {xs : Nat → Int32} {u v j : Nat} {i : Int32} {hX hM : bb_H} (hrc : bl_rcv R) (S : sim_man R) (hN : N ≤ 448) (hu : u ≤ 600000) (hv : v ≤ 7302250) (hi : i = nI j) (hj : j + 7 ≤ N) (hR : R hX hM) (k : ∀ hX hM : bb_H, R hX hM → bl_J N xs u v 1174 i [] hX hM) : bl_J N xs u v 176 i [] hX hM := by
  obtain ⟨⟨vX, bX⟩, ⟨vM, bM⟩⟩ := hrc hX hM hR
  obtain ⟨r, hX2, hM2, eX, eM, hR2⟩ := S hX hM (xs (j + 1)) (xs (j + 2)) hR
  refine bl_aload1 dL_law_176 ?_
  refine bl_aload0 dL_law_177 ?_
  refine bl_iload3 dL_law_178 ?_
  refine bl_iconst (w := 1) dL_law_179 (by decide) ?_
  refine bl_iadd dL_law_180 ?_
  rw [show i + 1 = nI (j + 1) by rw [hi]; exact nI_add j 1]
  refine bl_iaload (vp_in_nI (n := j + 1) (by omega) (by omega)) dL_law_181 ?_
  rw [nI_clamp (n := j + 1) (by omega)]
  refine bl_aload0 dL_law_182 ?_
  refine bl_iload3 dL_law_183 ?_
  refine bl_iconst (w := 2) dL_law_184 (by decide) ?_
  refine bl_iadd dL_law_185 ?_
  rw [show i + 2 = nI (j + 2) by rw [hi]; exact nI_add j 2]
  refine bl_iaload (vp_in_nI (n := j + 2) (by omega) (by omega)) dL_law_186 ?_
  rw [nI_clamp (n := j + 2) (by omega)]
  refine bl_callX (as := [.int (xs (j + 1)), .int (xs (j + 2))]) hu hv iv_L_13 (by unfold bb_rr; decide) dL_law_187 rfl rfl ⟨fun _ => rfl, fun _ _ _ => rfl⟩ bX (Nat.le_of_ble_eq_true rfl) (ok_X7_man eX) ?_
  refine bl_aload2 dL_law_190 ?_
  refine bl_aload0 dL_law_191 ?_
  refine bl_iload3 dL_law_192 ?_
  refine bl_iconst (w := 1) dL_law_193 (by decide) ?_
  refine bl_iadd dL_law_194 ?_
  rw [show i + 1 = nI (j + 1) by rw [hi]; exact nI_add j 1]
  refine bl_iaload (vp_in_nI (n := j + 1) (by omega) (by omega)) dL_law_195 ?_
  rw [nI_clamp (n := j + 1) (by omega)]
  refine bl_aload0 dL_law_196 ?_
  refine bl_iload3 dL_law_197 ?_
  refine bl_iconst (w := 2) dL_law_198 (by decide) ?_
  refine bl_iadd dL_law_199 ?_
  rw [show i + 2 = nI (j + 2) by rw [hi]; exact nI_add j 2]
  refine bl_iaload (vp_in_nI (n := j + 2) (by omega) (by omega)) dL_law_200 ?_
  rw [nI_clamp (n := j + 2) (by omega)]
  refine bl_callM (as := [.int (xs (j + 1)), .int (xs (j + 2))]) hu hv iv_L_17 (by unfold bb_rr; decide) dL_law_201 rfl rfl ⟨fun _ => rfl, fun _ _ _ => rfl⟩ bM (Nat.le_of_ble_eq_true rfl) (ok_X8_man eM) ?_
  refine bl_icmp_eq (tgt := 1174) dL_law_204 (by decide) ?_
  exact k hX2 hM2 hR2
set_option maxRecDepth 100000 in
set_option maxHeartbeats 4000000 in
theorem bl_case_1 {R : bb_H → bb_H → Prop} {N : Nat} {xs : Nat → Int32} {u v j : Nat} {i : Int32} {hX hM : bb_H} (hrc : bl_rcv R) (S : sim_stood R) (hN : N ≤ 448) (hu : u ≤ 600000) (hv : v ≤ 7302250) (hi : i = nI j) (hj : j + 7 ≤ N) (hR : R hX hM) (k : ∀ hX hM : bb_H, R hX hM → bl_J N xs u v 1174 i [] hX hM) : bl_J N xs u v 209 i [] hX hM := by
  obtain ⟨⟨vX, bX⟩, ⟨vM, bM⟩⟩ := hrc hX hM hR
  obtain ⟨r, hX2, hM2, eX, eM, hR2⟩ := S hX hM (xs (j + 1)) (xs (j + 2)) (xs (j + 3)) hR
  refine bl_aload1 dL_law_209 ?_
  refine bl_aload0 dL_law_210 ?_
  refine bl_iload3 dL_law_211 ?_
  refine bl_iconst (w := 1) dL_law_212 (by decide) ?_
  refine bl_iadd dL_law_213 ?_
  rw [show i + 1 = nI (j + 1) by rw [hi]; exact nI_add j 1]
  refine bl_iaload (vp_in_nI (n := j + 1) (by omega) (by omega)) dL_law_214 ?_
  rw [nI_clamp (n := j + 1) (by omega)]
  refine bl_aload0 dL_law_215 ?_
  refine bl_iload3 dL_law_216 ?_
  refine bl_iconst (w := 2) dL_law_217 (by decide) ?_
  refine bl_iadd dL_law_218 ?_
  rw [show i + 2 = nI (j + 2) by rw [hi]; exact nI_add j 2]
  refine bl_iaload (vp_in_nI (n := j + 2) (by omega) (by omega)) dL_law_219 ?_
  rw [nI_clamp (n := j + 2) (by omega)]
  refine bl_aload0 dL_law_220 ?_
  refine bl_iload3 dL_law_221 ?_
  refine bl_iconst (w := 3) dL_law_222 (by decide) ?_
  refine bl_iadd dL_law_223 ?_
  rw [show i + 3 = nI (j + 3) by rw [hi]; exact nI_add j 3]
  refine bl_iaload (vp_in_nI (n := j + 3) (by omega) (by omega)) dL_law_224 ?_
  rw [nI_clamp (n := j + 3) (by omega)]
  refine bl_callX (as := [.int (xs (j + 1)), .int (xs (j + 2)), .int (xs (j + 3))]) hu hv iv_L_18 (by unfold bb_rr; decide) dL_law_225 rfl rfl ⟨fun _ => rfl, fun _ _ _ => rfl⟩ bX (Nat.le_of_ble_eq_true rfl) (ok_X7_stood eX) ?_
  refine bl_aload2 dL_law_228 ?_
  refine bl_aload0 dL_law_229 ?_
  refine bl_iload3 dL_law_230 ?_
  refine bl_iconst (w := 1) dL_law_231 (by decide) ?_
  refine bl_iadd dL_law_232 ?_
  rw [show i + 1 = nI (j + 1) by rw [hi]; exact nI_add j 1]
  refine bl_iaload (vp_in_nI (n := j + 1) (by omega) (by omega)) dL_law_233 ?_
  rw [nI_clamp (n := j + 1) (by omega)]
  refine bl_aload0 dL_law_234 ?_
  refine bl_iload3 dL_law_235 ?_
  refine bl_iconst (w := 2) dL_law_236 (by decide) ?_
  refine bl_iadd dL_law_237 ?_
  rw [show i + 2 = nI (j + 2) by rw [hi]; exact nI_add j 2]
  refine bl_iaload (vp_in_nI (n := j + 2) (by omega) (by omega)) dL_law_238 ?_
  rw [nI_clamp (n := j + 2) (by omega)]
  refine bl_aload0 dL_law_239 ?_
  refine bl_iload3 dL_law_240 ?_
  refine bl_iconst (w := 3) dL_law_241 (by decide) ?_
  refine bl_iadd dL_law_242 ?_
  rw [show i + 3 = nI (j + 3) by rw [hi]; exact nI_add j 3]
  refine bl_iaload (vp_in_nI (n := j + 3) (by omega) (by omega)) dL_law_243 ?_
  rw [nI_clamp (n := j + 3) (by omega)]
  refine bl_callM (as := [.int (xs (j + 1)), .int (xs (j + 2)), .int (xs (j + 3))]) hu hv iv_L_22 (by unfold bb_rr; decide) dL_law_244 rfl rfl ⟨fun _ => rfl, fun _ _ _ => rfl⟩ bM (Nat.le_of_ble_eq_true rfl) (ok_X8_stood eM) ?_
  refine bl_icmp_eq (tgt := 1174) dL_law_247 (by decide) ?_
  exact k hX2 hM2 hR2
set_option maxRecDepth 100000 in
set_option maxHeartbeats 4000000 in
theorem bl_case_2 {R : bb_H → bb_H → Prop} {N : Nat} {xs : Nat → Int32} {u v j : Nat} {i : Int32} {hX hM : bb_H} (hrc : bl_rcv R) (S : sim_of R) (hN : N ≤ 448) (hu : u ≤ 600000) (hv : v ≤ 7302250) (hi : i = nI j) (hj : j + 7 ≤ N) (hR : R hX hM) (k : ∀ hX hM : bb_H, R hX hM → bl_J N xs u v 1174 i [] hX hM) : bl_J N xs u v 252 i [] hX hM := by
  obtain ⟨⟨vX, bX⟩, ⟨vM, bM⟩⟩ := hrc hX hM hR
  obtain ⟨r, hX2, hM2, eX, eM, hR2⟩ := S hX hM (xs (j + 1)) (xs (j + 2)) hR
  refine bl_aload1 dL_law_252 ?_
  refine bl_aload0 dL_law_253 ?_
  refine bl_iload3 dL_law_254 ?_
  refine bl_iconst (w := 1) dL_law_255 (by decide) ?_
  refine bl_iadd dL_law_256 ?_
  rw [show i + 1 = nI (j + 1) by rw [hi]; exact nI_add j 1]
  refine bl_iaload (vp_in_nI (n := j + 1) (by omega) (by omega)) dL_law_257 ?_
  rw [nI_clamp (n := j + 1) (by omega)]
  refine bl_aload0 dL_law_258 ?_
  refine bl_iload3 dL_law_259 ?_
  refine bl_iconst (w := 2) dL_law_260 (by decide) ?_
  refine bl_iadd dL_law_261 ?_
  rw [show i + 2 = nI (j + 2) by rw [hi]; exact nI_add j 2]
  refine bl_iaload (vp_in_nI (n := j + 2) (by omega) (by omega)) dL_law_262 ?_
  rw [nI_clamp (n := j + 2) (by omega)]
  refine bl_callX (as := [.int (xs (j + 1)), .int (xs (j + 2))]) hu hv iv_L_23 (by unfold bb_rr; decide) dL_law_263 rfl rfl ⟨fun _ => rfl, fun _ _ _ => rfl⟩ bX (Nat.le_of_ble_eq_true rfl) (ok_X7_of eX) ?_
  refine bl_aload2 dL_law_266 ?_
  refine bl_aload0 dL_law_267 ?_
  refine bl_iload3 dL_law_268 ?_
  refine bl_iconst (w := 1) dL_law_269 (by decide) ?_
  refine bl_iadd dL_law_270 ?_
  rw [show i + 1 = nI (j + 1) by rw [hi]; exact nI_add j 1]
  refine bl_iaload (vp_in_nI (n := j + 1) (by omega) (by omega)) dL_law_271 ?_
  rw [nI_clamp (n := j + 1) (by omega)]
  refine bl_aload0 dL_law_272 ?_
  refine bl_iload3 dL_law_273 ?_
  refine bl_iconst (w := 2) dL_law_274 (by decide) ?_
  refine bl_iadd dL_law_275 ?_
  rw [show i + 2 = nI (j + 2) by rw [hi]; exact nI_add j 2]
  refine bl_iaload (vp_in_nI (n := j + 2) (by omega) (by omega)) dL_law_276 ?_
  rw [nI_clamp (n := j + 2) (by omega)]
  refine bl_callM (as := [.int (xs (j + 1)), .int (xs (j + 2))]) hu hv iv_L_26 (by unfold bb_rr; decide) dL_law_277 rfl rfl ⟨fun _ => rfl, fun _ _ _ => rfl⟩ bM (Nat.le_of_ble_eq_true rfl) (ok_X8_of eM) ?_
  refine bl_icmp_eq (tgt := 1174) dL_law_280 (by decide) ?_
  exact k hX2 hM2 hR2
set_option maxRecDepth 100000 in
set_option maxHeartbeats 4000000 in
theorem bl_case_3 {R : bb_H → bb_H → Prop} {N : Nat} {xs : Nat → Int32} {u v j : Nat} {i : Int32} {hX hM : bb_H} (hrc : bl_rcv R) (S : sim_seat R) (hN : N ≤ 448) (hu : u ≤ 600000) (hv : v ≤ 7302250) (hi : i = nI j) (hj : j + 7 ≤ N) (hR : R hX hM) (k : ∀ hX hM : bb_H, R hX hM → bl_J N xs u v 1174 i [] hX hM) : bl_J N xs u v 285 i [] hX hM := by
  obtain ⟨⟨vX, bX⟩, ⟨vM, bM⟩⟩ := hrc hX hM hR
  obtain ⟨r, hX2, hM2, eX, eM, hR2⟩ := S hX hM (xs (j + 1)) hR
  refine bl_aload1 dL_law_285 ?_
  refine bl_aload0 dL_law_286 ?_
  refine bl_iload3 dL_law_287 ?_
  refine bl_iconst (w := 1) dL_law_288 (by decide) ?_
  refine bl_iadd dL_law_289 ?_
  rw [show i + 1 = nI (j + 1) by rw [hi]; exact nI_add j 1]
  refine bl_iaload (vp_in_nI (n := j + 1) (by omega) (by omega)) dL_law_290 ?_
  rw [nI_clamp (n := j + 1) (by omega)]
  refine bl_callX (as := [.int (xs (j + 1))]) hu hv iv_L_27 (by unfold bb_rr; decide) dL_law_291 rfl rfl ⟨fun _ => rfl, fun _ _ _ => rfl⟩ bX (Nat.le_of_ble_eq_true rfl) (ok_X7_seat eX) ?_
  refine bl_aload2 dL_law_294 ?_
  refine bl_aload0 dL_law_295 ?_
  refine bl_iload3 dL_law_296 ?_
  refine bl_iconst (w := 1) dL_law_297 (by decide) ?_
  refine bl_iadd dL_law_298 ?_
  rw [show i + 1 = nI (j + 1) by rw [hi]; exact nI_add j 1]
  refine bl_iaload (vp_in_nI (n := j + 1) (by omega) (by omega)) dL_law_299 ?_
  rw [nI_clamp (n := j + 1) (by omega)]
  refine bl_callM (as := [.int (xs (j + 1))]) hu hv iv_L_31 (by unfold bb_rr; decide) dL_law_300 rfl rfl ⟨fun _ => rfl, fun _ _ _ => rfl⟩ bM (Nat.le_of_ble_eq_true rfl) (ok_X8_seat eM) ?_
  refine bl_icmp_eq (tgt := 1174) dL_law_303 (by decide) ?_
  exact k hX2 hM2 hR2
set_option maxRecDepth 100000 in
set_option maxHeartbeats 4000000 in
theorem bl_case_4 {R : bb_H → bb_H → Prop} {N : Nat} {xs : Nat → Int32} {u v j : Nat} {i : Int32} {hX hM : bb_H} (hrc : bl_rcv R) (S : sim_type R) (hN : N ≤ 448) (hu : u ≤ 600000) (hv : v ≤ 7302250) (hi : i = nI j) (hj : j + 7 ≤ N) (hR : R hX hM) (k : ∀ hX hM : bb_H, R hX hM → bl_J N xs u v 1174 i [] hX hM) : bl_J N xs u v 308 i [] hX hM := by
  obtain ⟨⟨vX, bX⟩, ⟨vM, bM⟩⟩ := hrc hX hM hR
  obtain ⟨r, hX2, hM2, eX, eM, hR2⟩ := S hX hM (xs (j + 1)) hR
  refine bl_aload1 dL_law_308 ?_
  refine bl_aload0 dL_law_309 ?_
  refine bl_iload3 dL_law_310 ?_
  refine bl_iconst (w := 1) dL_law_311 (by decide) ?_
  refine bl_iadd dL_law_312 ?_
  rw [show i + 1 = nI (j + 1) by rw [hi]; exact nI_add j 1]
  refine bl_iaload (vp_in_nI (n := j + 1) (by omega) (by omega)) dL_law_313 ?_
  rw [nI_clamp (n := j + 1) (by omega)]
  refine bl_callX (as := [.int (xs (j + 1))]) hu hv iv_L_32 (by unfold bb_rr; decide) dL_law_314 rfl rfl ⟨fun _ => rfl, fun _ _ _ => rfl⟩ bX (Nat.le_of_ble_eq_true rfl) (ok_X7_type eX) ?_
  refine bl_aload2 dL_law_317 ?_
  refine bl_aload0 dL_law_318 ?_
  refine bl_iload3 dL_law_319 ?_
  refine bl_iconst (w := 1) dL_law_320 (by decide) ?_
  refine bl_iadd dL_law_321 ?_
  rw [show i + 1 = nI (j + 1) by rw [hi]; exact nI_add j 1]
  refine bl_iaload (vp_in_nI (n := j + 1) (by omega) (by omega)) dL_law_322 ?_
  rw [nI_clamp (n := j + 1) (by omega)]
  refine bl_callM (as := [.int (xs (j + 1))]) hu hv iv_L_35 (by unfold bb_rr; decide) dL_law_323 rfl rfl ⟨fun _ => rfl, fun _ _ _ => rfl⟩ bM (Nat.le_of_ble_eq_true rfl) (ok_X8_type eM) ?_
  refine bl_icmp_eq (tgt := 1174) dL_law_326 (by decide) ?_
  exact k hX2 hM2 hR2
set_option maxRecDepth 100000 in
set_option maxHeartbeats 4000000 in
theorem bl_case_5 {R : bb_H → bb_H → Prop} {N : Nat} {xs : Nat → Int32} {u v j : Nat} {i : Int32} {hX hM : bb_H} (hrc : bl_rcv R) (S : sim_read R) (hN : N ≤ 448) (hu : u ≤ 600000) (hv : v ≤ 7302250) (hi : i = nI j) (hj : j + 7 ≤ N) (hR : R hX hM) (k : ∀ hX hM : bb_H, R hX hM → bl_J N xs u v 1174 i [] hX hM) : bl_J N xs u v 331 i [] hX hM := by
  obtain ⟨⟨vX, bX⟩, ⟨vM, bM⟩⟩ := hrc hX hM hR
  obtain ⟨r, hX2, hM2, eX, eM, hR2⟩ := S hX hM hR
  refine bl_aload1 dL_law_331 ?_
  refine bl_callX (as := []) hu hv iv_L_36 (by unfold bb_rr; decide) dL_law_332 rfl rfl ⟨fun _ => rfl, fun _ _ _ => rfl⟩ bX (Nat.le_of_ble_eq_true rfl) (ok_X7_read eX) ?_
  refine bl_aload2 dL_law_335 ?_
  refine bl_callM (as := []) hu hv iv_L_40 (by unfold bb_rr; decide) dL_law_336 rfl rfl ⟨fun _ => rfl, fun _ _ _ => rfl⟩ bM (Nat.le_of_ble_eq_true rfl) (ok_X8_read eM) ?_
  refine bl_icmp_eq (tgt := 1174) dL_law_339 (by decide) ?_
  exact k hX2 hM2 hR2
set_option maxRecDepth 100000 in
set_option maxHeartbeats 4000000 in
theorem bl_case_6 {R : bb_H → bb_H → Prop} {N : Nat} {xs : Nat → Int32} {u v j : Nat} {i : Int32} {hX hM : bb_H} (hrc : bl_rcv R) (S : sim_count R) (hN : N ≤ 448) (hu : u ≤ 600000) (hv : v ≤ 7302250) (hi : i = nI j) (hj : j + 7 ≤ N) (hR : R hX hM) (k : ∀ hX hM : bb_H, R hX hM → bl_J N xs u v 1174 i [] hX hM) : bl_J N xs u v 344 i [] hX hM := by
  obtain ⟨⟨vX, bX⟩, ⟨vM, bM⟩⟩ := hrc hX hM hR
  obtain ⟨r, hX2, hM2, eX, eM, hR2⟩ := S hX hM (xs (j + 1)) hR
  refine bl_aload1 dL_law_344 ?_
  refine bl_aload0 dL_law_345 ?_
  refine bl_iload3 dL_law_346 ?_
  refine bl_iconst (w := 1) dL_law_347 (by decide) ?_
  refine bl_iadd dL_law_348 ?_
  rw [show i + 1 = nI (j + 1) by rw [hi]; exact nI_add j 1]
  refine bl_iaload (vp_in_nI (n := j + 1) (by omega) (by omega)) dL_law_349 ?_
  rw [nI_clamp (n := j + 1) (by omega)]
  refine bl_callX (as := [.int (xs (j + 1))]) hu hv iv_L_41 (by unfold bb_rr; decide) dL_law_350 rfl rfl ⟨fun _ => rfl, fun _ _ _ => rfl⟩ bX (Nat.le_of_ble_eq_true rfl) (ok_X7_count eX) ?_
  refine bl_aload2 dL_law_353 ?_
  refine bl_aload0 dL_law_354 ?_
  refine bl_iload3 dL_law_355 ?_
  refine bl_iconst (w := 1) dL_law_356 (by decide) ?_
  refine bl_iadd dL_law_357 ?_
  rw [show i + 1 = nI (j + 1) by rw [hi]; exact nI_add j 1]
  refine bl_iaload (vp_in_nI (n := j + 1) (by omega) (by omega)) dL_law_358 ?_
  rw [nI_clamp (n := j + 1) (by omega)]
  refine bl_callM (as := [.int (xs (j + 1))]) hu hv iv_L_44 (by unfold bb_rr; decide) dL_law_359 rfl rfl ⟨fun _ => rfl, fun _ _ _ => rfl⟩ bM (Nat.le_of_ble_eq_true rfl) (ok_X8_count eM) ?_
  refine bl_icmp_eq (tgt := 1174) dL_law_362 (by decide) ?_
  exact k hX2 hM2 hR2
set_option maxRecDepth 100000 in
set_option maxHeartbeats 4000000 in
theorem bl_case_7 {R : bb_H → bb_H → Prop} {N : Nat} {xs : Nat → Int32} {u v j : Nat} {i : Int32} {hX hM : bb_H} (hrc : bl_rcv R) (S : sim_years R) (hN : N ≤ 448) (hu : u ≤ 600000) (hv : v ≤ 7302250) (hi : i = nI j) (hj : j + 7 ≤ N) (hR : R hX hM) (k : ∀ hX hM : bb_H, R hX hM → bl_J N xs u v 1174 i [] hX hM) : bl_J N xs u v 367 i [] hX hM := by
  obtain ⟨⟨vX, bX⟩, ⟨vM, bM⟩⟩ := hrc hX hM hR
  obtain ⟨r, hX2, hM2, eX, eM, hR2⟩ := S hX hM (xs (j + 1)) hR
  refine bl_aload1 dL_law_367 ?_
  refine bl_aload0 dL_law_368 ?_
  refine bl_iload3 dL_law_369 ?_
  refine bl_iconst (w := 1) dL_law_370 (by decide) ?_
  refine bl_iadd dL_law_371 ?_
  rw [show i + 1 = nI (j + 1) by rw [hi]; exact nI_add j 1]
  refine bl_iaload (vp_in_nI (n := j + 1) (by omega) (by omega)) dL_law_372 ?_
  rw [nI_clamp (n := j + 1) (by omega)]
  refine bl_callX (as := [.int (xs (j + 1))]) hu hv iv_L_45 (by unfold bb_rr; decide) dL_law_373 rfl rfl ⟨fun _ => rfl, fun _ _ _ => rfl⟩ bX (Nat.le_of_ble_eq_true rfl) (ok_X7_years eX) ?_
  refine bl_aload2 dL_law_376 ?_
  refine bl_aload0 dL_law_377 ?_
  refine bl_iload3 dL_law_378 ?_
  refine bl_iconst (w := 1) dL_law_379 (by decide) ?_
  refine bl_iadd dL_law_380 ?_
  rw [show i + 1 = nI (j + 1) by rw [hi]; exact nI_add j 1]
  refine bl_iaload (vp_in_nI (n := j + 1) (by omega) (by omega)) dL_law_381 ?_
  rw [nI_clamp (n := j + 1) (by omega)]
  refine bl_callM (as := [.int (xs (j + 1))]) hu hv iv_L_48 (by unfold bb_rr; decide) dL_law_382 rfl rfl ⟨fun _ => rfl, fun _ _ _ => rfl⟩ bM (Nat.le_of_ble_eq_true rfl) (ok_X8_years eM) ?_
  refine bl_icmp_eq (tgt := 1174) dL_law_385 (by decide) ?_
  exact k hX2 hM2 hR2
set_option maxRecDepth 100000 in
set_option maxHeartbeats 4000000 in
theorem bl_case_8 {R : bb_H → bb_H → Prop} {N : Nat} {xs : Nat → Int32} {u v j : Nat} {i : Int32} {hX hM : bb_H} (hrc : bl_rcv R) (S : sim_move R) (hN : N ≤ 448) (hu : u ≤ 600000) (hv : v ≤ 7302250) (hi : i = nI j) (hj : j + 7 ≤ N) (hR : R hX hM) (k : ∀ hX hM : bb_H, R hX hM → bl_J N xs u v 1174 i [] hX hM) : bl_J N xs u v 390 i [] hX hM := by
  obtain ⟨⟨vX, bX⟩, ⟨vM, bM⟩⟩ := hrc hX hM hR
  obtain ⟨r, hX2, hM2, eX, eM, hR2⟩ := S hX hM (xs (j + 1)) hR
  refine bl_aload1 dL_law_390 ?_
  refine bl_aload0 dL_law_391 ?_
  refine bl_iload3 dL_law_392 ?_
  refine bl_iconst (w := 1) dL_law_393 (by decide) ?_
  refine bl_iadd dL_law_394 ?_
  rw [show i + 1 = nI (j + 1) by rw [hi]; exact nI_add j 1]
  refine bl_iaload (vp_in_nI (n := j + 1) (by omega) (by omega)) dL_law_395 ?_
  rw [nI_clamp (n := j + 1) (by omega)]
  refine bl_callX (as := [.int (xs (j + 1))]) hu hv iv_L_49 (by unfold bb_rr; decide) dL_law_396 rfl rfl ⟨fun _ => rfl, fun _ _ _ => rfl⟩ bX (Nat.le_of_ble_eq_true rfl) (ok_X7_move eX) ?_
  refine bl_aload2 dL_law_399 ?_
  refine bl_aload0 dL_law_400 ?_
  refine bl_iload3 dL_law_401 ?_
  refine bl_iconst (w := 1) dL_law_402 (by decide) ?_
  refine bl_iadd dL_law_403 ?_
  rw [show i + 1 = nI (j + 1) by rw [hi]; exact nI_add j 1]
  refine bl_iaload (vp_in_nI (n := j + 1) (by omega) (by omega)) dL_law_404 ?_
  rw [nI_clamp (n := j + 1) (by omega)]
  refine bl_callM (as := [.int (xs (j + 1))]) hu hv iv_L_52 (by unfold bb_rr; decide) dL_law_405 rfl rfl ⟨fun _ => rfl, fun _ _ _ => rfl⟩ bM (Nat.le_of_ble_eq_true rfl) (ok_X8_move eM) ?_
  refine bl_icmp_eq (tgt := 1174) dL_law_408 (by decide) ?_
  exact k hX2 hM2 hR2
set_option maxRecDepth 100000 in
set_option maxHeartbeats 4000000 in
theorem bl_case_9 {R : bb_H → bb_H → Prop} {N : Nat} {xs : Nat → Int32} {u v j : Nat} {i : Int32} {hX hM : bb_H} (hrc : bl_rcv R) (S : sim_nurse R) (hN : N ≤ 448) (hu : u ≤ 600000) (hv : v ≤ 7302250) (hi : i = nI j) (hj : j + 7 ≤ N) (hR : R hX hM) (k : ∀ hX hM : bb_H, R hX hM → bl_J N xs u v 1174 i [] hX hM) : bl_J N xs u v 413 i [] hX hM := by
  obtain ⟨⟨vX, bX⟩, ⟨vM, bM⟩⟩ := hrc hX hM hR
  obtain ⟨r, hX2, hM2, eX, eM, hR2⟩ := S hX hM (xs (j + 1)) (xs (j + 2)) hR
  refine bl_aload1 dL_law_413 ?_
  refine bl_aload0 dL_law_414 ?_
  refine bl_iload3 dL_law_415 ?_
  refine bl_iconst (w := 1) dL_law_416 (by decide) ?_
  refine bl_iadd dL_law_417 ?_
  rw [show i + 1 = nI (j + 1) by rw [hi]; exact nI_add j 1]
  refine bl_iaload (vp_in_nI (n := j + 1) (by omega) (by omega)) dL_law_418 ?_
  rw [nI_clamp (n := j + 1) (by omega)]
  refine bl_aload0 dL_law_419 ?_
  refine bl_iload3 dL_law_420 ?_
  refine bl_iconst (w := 2) dL_law_421 (by decide) ?_
  refine bl_iadd dL_law_422 ?_
  rw [show i + 2 = nI (j + 2) by rw [hi]; exact nI_add j 2]
  refine bl_iaload (vp_in_nI (n := j + 2) (by omega) (by omega)) dL_law_423 ?_
  rw [nI_clamp (n := j + 2) (by omega)]
  refine bl_callX (as := [.int (xs (j + 1)), .int (xs (j + 2))]) hu hv iv_L_53 (by unfold bb_rr; decide) dL_law_424 rfl rfl ⟨fun _ => rfl, fun _ _ _ => rfl⟩ bX (Nat.le_of_ble_eq_true rfl) (ok_X7_nurse eX) ?_
  refine bl_aload2 dL_law_427 ?_
  refine bl_aload0 dL_law_428 ?_
  refine bl_iload3 dL_law_429 ?_
  refine bl_iconst (w := 1) dL_law_430 (by decide) ?_
  refine bl_iadd dL_law_431 ?_
  rw [show i + 1 = nI (j + 1) by rw [hi]; exact nI_add j 1]
  refine bl_iaload (vp_in_nI (n := j + 1) (by omega) (by omega)) dL_law_432 ?_
  rw [nI_clamp (n := j + 1) (by omega)]
  refine bl_aload0 dL_law_433 ?_
  refine bl_iload3 dL_law_434 ?_
  refine bl_iconst (w := 2) dL_law_435 (by decide) ?_
  refine bl_iadd dL_law_436 ?_
  rw [show i + 2 = nI (j + 2) by rw [hi]; exact nI_add j 2]
  refine bl_iaload (vp_in_nI (n := j + 2) (by omega) (by omega)) dL_law_437 ?_
  rw [nI_clamp (n := j + 2) (by omega)]
  refine bl_callM (as := [.int (xs (j + 1)), .int (xs (j + 2))]) hu hv iv_L_56 (by unfold bb_rr; decide) dL_law_438 rfl rfl ⟨fun _ => rfl, fun _ _ _ => rfl⟩ bM (Nat.le_of_ble_eq_true rfl) (ok_X8_nurse eM) ?_
  refine bl_icmp_eq (tgt := 1174) dL_law_441 (by decide) ?_
  exact k hX2 hM2 hR2
set_option maxRecDepth 100000 in
set_option maxHeartbeats 4000000 in
theorem bl_case_10 {R : bb_H → bb_H → Prop} {N : Nat} {xs : Nat → Int32} {u v j : Nat} {i : Int32} {hX hM : bb_H} (hrc : bl_rcv R) (S : sim_drift R) (hN : N ≤ 448) (hu : u ≤ 600000) (hv : v ≤ 7302250) (hi : i = nI j) (hj : j + 7 ≤ N) (hR : R hX hM) (k : ∀ hX hM : bb_H, R hX hM → bl_J N xs u v 1174 i [] hX hM) : bl_J N xs u v 446 i [] hX hM := by
  obtain ⟨⟨vX, bX⟩, ⟨vM, bM⟩⟩ := hrc hX hM hR
  obtain ⟨r, hX2, hM2, eX, eM, hR2⟩ := S hX hM (xs (j + 1)) hR
  refine bl_aload1 dL_law_446 ?_
  refine bl_aload0 dL_law_447 ?_
  refine bl_iload3 dL_law_448 ?_
  refine bl_iconst (w := 1) dL_law_449 (by decide) ?_
  refine bl_iadd dL_law_450 ?_
  rw [show i + 1 = nI (j + 1) by rw [hi]; exact nI_add j 1]
  refine bl_iaload (vp_in_nI (n := j + 1) (by omega) (by omega)) dL_law_451 ?_
  rw [nI_clamp (n := j + 1) (by omega)]
  refine bl_callX (as := [.int (xs (j + 1))]) hu hv iv_L_57 (by unfold bb_rr; decide) dL_law_452 rfl rfl ⟨fun _ => rfl, fun _ _ _ => rfl⟩ bX (Nat.le_of_ble_eq_true rfl) (ok_X7_drift eX) ?_
  refine bl_aload2 dL_law_455 ?_
  refine bl_aload0 dL_law_456 ?_
  refine bl_iload3 dL_law_457 ?_
  refine bl_iconst (w := 1) dL_law_458 (by decide) ?_
  refine bl_iadd dL_law_459 ?_
  rw [show i + 1 = nI (j + 1) by rw [hi]; exact nI_add j 1]
  refine bl_iaload (vp_in_nI (n := j + 1) (by omega) (by omega)) dL_law_460 ?_
  rw [nI_clamp (n := j + 1) (by omega)]
  refine bl_callM (as := [.int (xs (j + 1))]) hu hv iv_L_60 (by unfold bb_rr; decide) dL_law_461 rfl rfl ⟨fun _ => rfl, fun _ _ _ => rfl⟩ bM (Nat.le_of_ble_eq_true rfl) (ok_X8_drift eM) ?_
  refine bl_icmp_eq (tgt := 1174) dL_law_464 (by decide) ?_
  exact k hX2 hM2 hR2
set_option maxRecDepth 100000 in
set_option maxHeartbeats 4000000 in
theorem bl_case_11 {R : bb_H → bb_H → Prop} {N : Nat} {xs : Nat → Int32} {u v j : Nat} {i : Int32} {hX hM : bb_H} (hrc : bl_rcv R) (S : sim_undo R) (hN : N ≤ 448) (hu : u ≤ 600000) (hv : v ≤ 7302250) (hi : i = nI j) (hj : j + 7 ≤ N) (hR : R hX hM) (k : ∀ hX hM : bb_H, R hX hM → bl_J N xs u v 1174 i [] hX hM) : bl_J N xs u v 469 i [] hX hM := by
  obtain ⟨⟨vX, bX⟩, ⟨vM, bM⟩⟩ := hrc hX hM hR
  obtain ⟨r, hX2, hM2, eX, eM, hR2⟩ := S hX hM hR
  refine bl_aload1 dL_law_469 ?_
  refine bl_callX (as := []) hu hv iv_L_61 (by unfold bb_rr; decide) dL_law_470 rfl rfl ⟨fun _ => rfl, fun _ _ _ => rfl⟩ bX (Nat.le_of_ble_eq_true rfl) (ok_X7_undo eX) ?_
  refine bl_aload2 dL_law_473 ?_
  refine bl_callM (as := []) hu hv iv_L_64 (by unfold bb_rr; decide) dL_law_474 rfl rfl ⟨fun _ => rfl, fun _ _ _ => rfl⟩ bM (Nat.le_of_ble_eq_true rfl) (ok_X8_undo eM) ?_
  refine bl_icmp_eq (tgt := 1174) dL_law_477 (by decide) ?_
  exact k hX2 hM2 hR2
set_option maxRecDepth 100000 in
set_option maxHeartbeats 4000000 in
theorem bl_case_12 {R : bb_H → bb_H → Prop} {N : Nat} {xs : Nat → Int32} {u v j : Nat} {i : Int32} {hX hM : bb_H} (hrc : bl_rcv R) (S : sim_seed R) (hN : N ≤ 448) (hu : u ≤ 600000) (hv : v ≤ 7302250) (hi : i = nI j) (hj : j + 7 ≤ N) (hR : R hX hM) (k : ∀ hX hM : bb_H, R hX hM → bl_J N xs u v 1174 i [] hX hM) : bl_J N xs u v 482 i [] hX hM := by
  obtain ⟨⟨vX, bX⟩, ⟨vM, bM⟩⟩ := hrc hX hM hR
  obtain ⟨r, hX2, hM2, eX, eM, hR2⟩ := S hX hM (xs (j + 1)) hR
  refine bl_aload1 dL_law_482 ?_
  refine bl_aload0 dL_law_483 ?_
  refine bl_iload3 dL_law_484 ?_
  refine bl_iconst (w := 1) dL_law_485 (by decide) ?_
  refine bl_iadd dL_law_486 ?_
  rw [show i + 1 = nI (j + 1) by rw [hi]; exact nI_add j 1]
  refine bl_iaload (vp_in_nI (n := j + 1) (by omega) (by omega)) dL_law_487 ?_
  rw [nI_clamp (n := j + 1) (by omega)]
  refine bl_callX (as := [.int (xs (j + 1))]) hu hv iv_L_65 (by unfold bb_rr; decide) dL_law_488 rfl rfl ⟨fun _ => rfl, fun _ _ _ => rfl⟩ bX (Nat.le_of_ble_eq_true rfl) (ok_X7_seed eX) ?_
  refine bl_aload2 dL_law_491 ?_
  refine bl_aload0 dL_law_492 ?_
  refine bl_iload3 dL_law_493 ?_
  refine bl_iconst (w := 1) dL_law_494 (by decide) ?_
  refine bl_iadd dL_law_495 ?_
  rw [show i + 1 = nI (j + 1) by rw [hi]; exact nI_add j 1]
  refine bl_iaload (vp_in_nI (n := j + 1) (by omega) (by omega)) dL_law_496 ?_
  rw [nI_clamp (n := j + 1) (by omega)]
  refine bl_callM (as := [.int (xs (j + 1))]) hu hv iv_L_68 (by unfold bb_rr; decide) dL_law_497 rfl rfl ⟨fun _ => rfl, fun _ _ _ => rfl⟩ bM (Nat.le_of_ble_eq_true rfl) (ok_X8_seed eM) ?_
  refine bl_icmp_eq (tgt := 1174) dL_law_500 (by decide) ?_
  exact k hX2 hM2 hR2
set_option maxRecDepth 100000 in
set_option maxHeartbeats 4000000 in
theorem bl_case_13 {R : bb_H → bb_H → Prop} {N : Nat} {xs : Nat → Int32} {u v j : Nat} {i : Int32} {hX hM : bb_H} (hrc : bl_rcv R) (S : sim_ahead R) (hN : N ≤ 448) (hu : u ≤ 600000) (hv : v ≤ 7302250) (hi : i = nI j) (hj : j + 7 ≤ N) (hR : R hX hM) (k : ∀ hX hM : bb_H, R hX hM → bl_J N xs u v 1174 i [] hX hM) : bl_J N xs u v 505 i [] hX hM := by
  obtain ⟨⟨vX, bX⟩, ⟨vM, bM⟩⟩ := hrc hX hM hR
  obtain ⟨r, hX2, hM2, eX, eM, hR2⟩ := S hX hM (xs (j + 1)) (xs (j + 2)) hR
  refine bl_aload1 dL_law_505 ?_
  refine bl_aload0 dL_law_506 ?_
  refine bl_iload3 dL_law_507 ?_
  refine bl_iconst (w := 1) dL_law_508 (by decide) ?_
  refine bl_iadd dL_law_509 ?_
  rw [show i + 1 = nI (j + 1) by rw [hi]; exact nI_add j 1]
  refine bl_iaload (vp_in_nI (n := j + 1) (by omega) (by omega)) dL_law_510 ?_
  rw [nI_clamp (n := j + 1) (by omega)]
  refine bl_aload0 dL_law_511 ?_
  refine bl_iload3 dL_law_512 ?_
  refine bl_iconst (w := 2) dL_law_513 (by decide) ?_
  refine bl_iadd dL_law_514 ?_
  rw [show i + 2 = nI (j + 2) by rw [hi]; exact nI_add j 2]
  refine bl_iaload (vp_in_nI (n := j + 2) (by omega) (by omega)) dL_law_515 ?_
  rw [nI_clamp (n := j + 2) (by omega)]
  refine bl_callX (as := [.int (xs (j + 1)), .int (xs (j + 2))]) hu hv iv_L_69 (by unfold bb_rr; decide) dL_law_516 rfl rfl ⟨fun _ => rfl, fun _ _ _ => rfl⟩ bX (Nat.le_of_ble_eq_true rfl) (ok_X7_ahead eX) ?_
  refine bl_aload2 dL_law_519 ?_
  refine bl_aload0 dL_law_520 ?_
  refine bl_iload3 dL_law_521 ?_
  refine bl_iconst (w := 1) dL_law_522 (by decide) ?_
  refine bl_iadd dL_law_523 ?_
  rw [show i + 1 = nI (j + 1) by rw [hi]; exact nI_add j 1]
  refine bl_iaload (vp_in_nI (n := j + 1) (by omega) (by omega)) dL_law_524 ?_
  rw [nI_clamp (n := j + 1) (by omega)]
  refine bl_aload0 dL_law_525 ?_
  refine bl_iload3 dL_law_526 ?_
  refine bl_iconst (w := 2) dL_law_527 (by decide) ?_
  refine bl_iadd dL_law_528 ?_
  rw [show i + 2 = nI (j + 2) by rw [hi]; exact nI_add j 2]
  refine bl_iaload (vp_in_nI (n := j + 2) (by omega) (by omega)) dL_law_529 ?_
  rw [nI_clamp (n := j + 2) (by omega)]
  refine bl_callM (as := [.int (xs (j + 1)), .int (xs (j + 2))]) hu hv iv_L_72 (by unfold bb_rr; decide) dL_law_530 rfl rfl ⟨fun _ => rfl, fun _ _ _ => rfl⟩ bM (Nat.le_of_ble_eq_true rfl) (ok_X8_ahead eM) ?_
  refine bl_icmp_eq (tgt := 1174) dL_law_533 (by decide) ?_
  exact k hX2 hM2 hR2
set_option maxRecDepth 100000 in
set_option maxHeartbeats 4000000 in
theorem bl_case_14 {R : bb_H → bb_H → Prop} {N : Nat} {xs : Nat → Int32} {u v j : Nat} {i : Int32} {hX hM : bb_H} (hrc : bl_rcv R) (S : sim_then R) (hN : N ≤ 448) (hu : u ≤ 600000) (hv : v ≤ 7302250) (hi : i = nI j) (hj : j + 7 ≤ N) (hR : R hX hM) (k : ∀ hX hM : bb_H, R hX hM → bl_J N xs u v 1174 i [] hX hM) : bl_J N xs u v 538 i [] hX hM := by
  obtain ⟨⟨vX, bX⟩, ⟨vM, bM⟩⟩ := hrc hX hM hR
  obtain ⟨r, hX2, hM2, eX, eM, hR2⟩ := S hX hM (xs (j + 1)) hR
  refine bl_aload1 dL_law_538 ?_
  refine bl_aload0 dL_law_539 ?_
  refine bl_iload3 dL_law_540 ?_
  refine bl_iconst (w := 1) dL_law_541 (by decide) ?_
  refine bl_iadd dL_law_542 ?_
  rw [show i + 1 = nI (j + 1) by rw [hi]; exact nI_add j 1]
  refine bl_iaload (vp_in_nI (n := j + 1) (by omega) (by omega)) dL_law_543 ?_
  rw [nI_clamp (n := j + 1) (by omega)]
  refine bl_callX (as := [.int (xs (j + 1))]) hu hv iv_L_73 (by unfold bb_rr; decide) dL_law_544 rfl rfl ⟨fun _ => rfl, fun _ _ _ => rfl⟩ bX (Nat.le_of_ble_eq_true rfl) (ok_X7_then eX) ?_
  refine bl_aload2 dL_law_547 ?_
  refine bl_aload0 dL_law_548 ?_
  refine bl_iload3 dL_law_549 ?_
  refine bl_iconst (w := 1) dL_law_550 (by decide) ?_
  refine bl_iadd dL_law_551 ?_
  rw [show i + 1 = nI (j + 1) by rw [hi]; exact nI_add j 1]
  refine bl_iaload (vp_in_nI (n := j + 1) (by omega) (by omega)) dL_law_552 ?_
  rw [nI_clamp (n := j + 1) (by omega)]
  refine bl_callM (as := [.int (xs (j + 1))]) hu hv iv_L_76 (by unfold bb_rr; decide) dL_law_553 rfl rfl ⟨fun _ => rfl, fun _ _ _ => rfl⟩ bM (Nat.le_of_ble_eq_true rfl) (ok_X8_then eM) ?_
  refine bl_icmp_eq (tgt := 1174) dL_law_556 (by decide) ?_
  exact k hX2 hM2 hR2
set_option maxRecDepth 100000 in
set_option maxHeartbeats 4000000 in
theorem bl_case_15 {R : bb_H → bb_H → Prop} {N : Nat} {xs : Nat → Int32} {u v j : Nat} {i : Int32} {hX hM : bb_H} (hrc : bl_rcv R) (S : sim_ends R) (hN : N ≤ 448) (hu : u ≤ 600000) (hv : v ≤ 7302250) (hi : i = nI j) (hj : j + 7 ≤ N) (hR : R hX hM) (k : ∀ hX hM : bb_H, R hX hM → bl_J N xs u v 1174 i [] hX hM) : bl_J N xs u v 561 i [] hX hM := by
  obtain ⟨⟨vX, bX⟩, ⟨vM, bM⟩⟩ := hrc hX hM hR
  obtain ⟨r, hX2, hM2, eX, eM, hR2⟩ := S hX hM (xs (j + 1)) hR
  refine bl_aload1 dL_law_561 ?_
  refine bl_aload0 dL_law_562 ?_
  refine bl_iload3 dL_law_563 ?_
  refine bl_iconst (w := 1) dL_law_564 (by decide) ?_
  refine bl_iadd dL_law_565 ?_
  rw [show i + 1 = nI (j + 1) by rw [hi]; exact nI_add j 1]
  refine bl_iaload (vp_in_nI (n := j + 1) (by omega) (by omega)) dL_law_566 ?_
  rw [nI_clamp (n := j + 1) (by omega)]
  refine bl_callX (as := [.int (xs (j + 1))]) hu hv iv_L_77 (by unfold bb_rr; decide) dL_law_567 rfl rfl ⟨fun _ => rfl, fun _ _ _ => rfl⟩ bX (Nat.le_of_ble_eq_true rfl) (ok_X7_ends eX) ?_
  refine bl_aload2 dL_law_570 ?_
  refine bl_aload0 dL_law_571 ?_
  refine bl_iload3 dL_law_572 ?_
  refine bl_iconst (w := 1) dL_law_573 (by decide) ?_
  refine bl_iadd dL_law_574 ?_
  rw [show i + 1 = nI (j + 1) by rw [hi]; exact nI_add j 1]
  refine bl_iaload (vp_in_nI (n := j + 1) (by omega) (by omega)) dL_law_575 ?_
  rw [nI_clamp (n := j + 1) (by omega)]
  refine bl_callM (as := [.int (xs (j + 1))]) hu hv iv_L_80 (by unfold bb_rr; decide) dL_law_576 rfl rfl ⟨fun _ => rfl, fun _ _ _ => rfl⟩ bM (Nat.le_of_ble_eq_true rfl) (ok_X8_ends eM) ?_
  refine bl_icmp_eq (tgt := 1174) dL_law_579 (by decide) ?_
  exact k hX2 hM2 hR2
set_option maxRecDepth 100000 in
set_option maxHeartbeats 4000000 in
theorem bl_case_16 {R : bb_H → bb_H → Prop} {N : Nat} {xs : Nat → Int32} {u v j : Nat} {i : Int32} {hX hM : bb_H} (hrc : bl_rcv R) (S : sim_lonely R) (hN : N ≤ 448) (hu : u ≤ 600000) (hv : v ≤ 7302250) (hi : i = nI j) (hj : j + 7 ≤ N) (hR : R hX hM) (k : ∀ hX hM : bb_H, R hX hM → bl_J N xs u v 1174 i [] hX hM) : bl_J N xs u v 584 i [] hX hM := by
  obtain ⟨⟨vX, bX⟩, ⟨vM, bM⟩⟩ := hrc hX hM hR
  obtain ⟨r, hX2, hM2, eX, eM, hR2⟩ := S hX hM hR
  refine bl_aload1 dL_law_584 ?_
  refine bl_callX (as := []) hu hv iv_L_81 (by unfold bb_rr; decide) dL_law_585 rfl rfl ⟨fun _ => rfl, fun _ _ _ => rfl⟩ bX (Nat.le_of_ble_eq_true rfl) (ok_X7_lonely eX) ?_
  refine bl_aload2 dL_law_588 ?_
  refine bl_callM (as := []) hu hv iv_L_84 (by unfold bb_rr; decide) dL_law_589 rfl rfl ⟨fun _ => rfl, fun _ _ _ => rfl⟩ bM (Nat.le_of_ble_eq_true rfl) (ok_X8_lonely eM) ?_
  refine bl_icmp_eq (tgt := 1174) dL_law_592 (by decide) ?_
  exact k hX2 hM2 hR2
set_option maxRecDepth 100000 in
set_option maxHeartbeats 4000000 in
theorem bl_case_17 {R : bb_H → bb_H → Prop} {N : Nat} {xs : Nat → Int32} {u v j : Nat} {i : Int32} {hX hM : bb_H} (hrc : bl_rcv R) (S : sim_close R) (hN : N ≤ 448) (hu : u ≤ 600000) (hv : v ≤ 7302250) (hi : i = nI j) (hj : j + 7 ≤ N) (hR : R hX hM) (k : ∀ hX hM : bb_H, R hX hM → bl_J N xs u v 1174 i [] hX hM) : bl_J N xs u v 597 i [] hX hM := by
  obtain ⟨⟨vX, bX⟩, ⟨vM, bM⟩⟩ := hrc hX hM hR
  obtain ⟨r, hX2, hM2, eX, eM, hR2⟩ := S hX hM (xs (j + 1)) (xs (j + 2)) hR
  refine bl_aload1 dL_law_597 ?_
  refine bl_aload0 dL_law_598 ?_
  refine bl_iload3 dL_law_599 ?_
  refine bl_iconst (w := 1) dL_law_600 (by decide) ?_
  refine bl_iadd dL_law_601 ?_
  rw [show i + 1 = nI (j + 1) by rw [hi]; exact nI_add j 1]
  refine bl_iaload (vp_in_nI (n := j + 1) (by omega) (by omega)) dL_law_602 ?_
  rw [nI_clamp (n := j + 1) (by omega)]
  refine bl_aload0 dL_law_603 ?_
  refine bl_iload3 dL_law_604 ?_
  refine bl_iconst (w := 2) dL_law_605 (by decide) ?_
  refine bl_iadd dL_law_606 ?_
  rw [show i + 2 = nI (j + 2) by rw [hi]; exact nI_add j 2]
  refine bl_iaload (vp_in_nI (n := j + 2) (by omega) (by omega)) dL_law_607 ?_
  rw [nI_clamp (n := j + 2) (by omega)]
  refine bl_callX (as := [.int (xs (j + 1)), .int (xs (j + 2))]) hu hv iv_L_85 (by unfold bb_rr; decide) dL_law_608 rfl rfl ⟨fun _ => rfl, fun _ _ _ => rfl⟩ bX (Nat.le_of_ble_eq_true rfl) (ok_X7_close eX) ?_
  refine bl_aload2 dL_law_611 ?_
  refine bl_aload0 dL_law_612 ?_
  refine bl_iload3 dL_law_613 ?_
  refine bl_iconst (w := 1) dL_law_614 (by decide) ?_
  refine bl_iadd dL_law_615 ?_
  rw [show i + 1 = nI (j + 1) by rw [hi]; exact nI_add j 1]
  refine bl_iaload (vp_in_nI (n := j + 1) (by omega) (by omega)) dL_law_616 ?_
  rw [nI_clamp (n := j + 1) (by omega)]
  refine bl_aload0 dL_law_617 ?_
  refine bl_iload3 dL_law_618 ?_
  refine bl_iconst (w := 2) dL_law_619 (by decide) ?_
  refine bl_iadd dL_law_620 ?_
  rw [show i + 2 = nI (j + 2) by rw [hi]; exact nI_add j 2]
  refine bl_iaload (vp_in_nI (n := j + 2) (by omega) (by omega)) dL_law_621 ?_
  rw [nI_clamp (n := j + 2) (by omega)]
  refine bl_callM (as := [.int (xs (j + 1)), .int (xs (j + 2))]) hu hv iv_L_88 (by unfold bb_rr; decide) dL_law_622 rfl rfl ⟨fun _ => rfl, fun _ _ _ => rfl⟩ bM (Nat.le_of_ble_eq_true rfl) (ok_X8_close eM) ?_
  refine bl_icmp_eq (tgt := 1174) dL_law_625 (by decide) ?_
  exact k hX2 hM2 hR2
set_option maxRecDepth 100000 in
set_option maxHeartbeats 4000000 in
theorem bl_case_18 {R : bb_H → bb_H → Prop} {N : Nat} {xs : Nat → Int32} {u v j : Nat} {i : Int32} {hX hM : bb_H} (hrc : bl_rcv R) (S : sim_swaps R) (hN : N ≤ 448) (hu : u ≤ 600000) (hv : v ≤ 7302250) (hi : i = nI j) (hj : j + 7 ≤ N) (hR : R hX hM) (k : ∀ hX hM : bb_H, R hX hM → bl_J N xs u v 1174 i [] hX hM) : bl_J N xs u v 630 i [] hX hM := by
  obtain ⟨⟨vX, bX⟩, ⟨vM, bM⟩⟩ := hrc hX hM hR
  obtain ⟨r, hX2, hM2, eX, eM, hR2⟩ := S hX hM (xs (j + 1)) hR
  refine bl_aload1 dL_law_630 ?_
  refine bl_aload0 dL_law_631 ?_
  refine bl_iload3 dL_law_632 ?_
  refine bl_iconst (w := 1) dL_law_633 (by decide) ?_
  refine bl_iadd dL_law_634 ?_
  rw [show i + 1 = nI (j + 1) by rw [hi]; exact nI_add j 1]
  refine bl_iaload (vp_in_nI (n := j + 1) (by omega) (by omega)) dL_law_635 ?_
  rw [nI_clamp (n := j + 1) (by omega)]
  refine bl_callX (as := [.int (xs (j + 1))]) hu hv iv_L_89 (by unfold bb_rr; decide) dL_law_636 rfl rfl ⟨fun _ => rfl, fun _ _ _ => rfl⟩ bX (Nat.le_of_ble_eq_true rfl) (ok_X7_swaps eX) ?_
  refine bl_aload2 dL_law_639 ?_
  refine bl_aload0 dL_law_640 ?_
  refine bl_iload3 dL_law_641 ?_
  refine bl_iconst (w := 1) dL_law_642 (by decide) ?_
  refine bl_iadd dL_law_643 ?_
  rw [show i + 1 = nI (j + 1) by rw [hi]; exact nI_add j 1]
  refine bl_iaload (vp_in_nI (n := j + 1) (by omega) (by omega)) dL_law_644 ?_
  rw [nI_clamp (n := j + 1) (by omega)]
  refine bl_callM (as := [.int (xs (j + 1))]) hu hv iv_L_92 (by unfold bb_rr; decide) dL_law_645 rfl rfl ⟨fun _ => rfl, fun _ _ _ => rfl⟩ bM (Nat.le_of_ble_eq_true rfl) (ok_X8_swaps eM) ?_
  refine bl_icmp_eq (tgt := 1174) dL_law_648 (by decide) ?_
  exact k hX2 hM2 hR2
set_option maxRecDepth 100000 in
set_option maxHeartbeats 4000000 in
theorem bl_case_19 {R : bb_H → bb_H → Prop} {N : Nat} {xs : Nat → Int32} {u v j : Nat} {i : Int32} {hX hM : bb_H} (hrc : bl_rcv R) (S : sim_stay R) (hN : N ≤ 448) (hu : u ≤ 600000) (hv : v ≤ 7302250) (hi : i = nI j) (hj : j + 7 ≤ N) (hR : R hX hM) (k : ∀ hX hM : bb_H, R hX hM → bl_J N xs u v 1174 i [] hX hM) : bl_J N xs u v 653 i [] hX hM := by
  obtain ⟨⟨vX, bX⟩, ⟨vM, bM⟩⟩ := hrc hX hM hR
  obtain ⟨r, hX2, hM2, eX, eM, hR2⟩ := S hX hM (xs (j + 1)) (xs (j + 2)) hR
  refine bl_aload1 dL_law_653 ?_
  refine bl_aload0 dL_law_654 ?_
  refine bl_iload3 dL_law_655 ?_
  refine bl_iconst (w := 1) dL_law_656 (by decide) ?_
  refine bl_iadd dL_law_657 ?_
  rw [show i + 1 = nI (j + 1) by rw [hi]; exact nI_add j 1]
  refine bl_iaload (vp_in_nI (n := j + 1) (by omega) (by omega)) dL_law_658 ?_
  rw [nI_clamp (n := j + 1) (by omega)]
  refine bl_aload0 dL_law_659 ?_
  refine bl_iload3 dL_law_660 ?_
  refine bl_iconst (w := 2) dL_law_661 (by decide) ?_
  refine bl_iadd dL_law_662 ?_
  rw [show i + 2 = nI (j + 2) by rw [hi]; exact nI_add j 2]
  refine bl_iaload (vp_in_nI (n := j + 2) (by omega) (by omega)) dL_law_663 ?_
  rw [nI_clamp (n := j + 2) (by omega)]
  refine bl_callX (as := [.int (xs (j + 1)), .int (xs (j + 2))]) hu hv iv_L_93 (by unfold bb_rr; decide) dL_law_664 rfl rfl ⟨fun _ => rfl, fun _ _ _ => rfl⟩ bX (Nat.le_of_ble_eq_true rfl) (ok_X7_stay eX) ?_
  refine bl_aload2 dL_law_667 ?_
  refine bl_aload0 dL_law_668 ?_
  refine bl_iload3 dL_law_669 ?_
  refine bl_iconst (w := 1) dL_law_670 (by decide) ?_
  refine bl_iadd dL_law_671 ?_
  rw [show i + 1 = nI (j + 1) by rw [hi]; exact nI_add j 1]
  refine bl_iaload (vp_in_nI (n := j + 1) (by omega) (by omega)) dL_law_672 ?_
  rw [nI_clamp (n := j + 1) (by omega)]
  refine bl_aload0 dL_law_673 ?_
  refine bl_iload3 dL_law_674 ?_
  refine bl_iconst (w := 2) dL_law_675 (by decide) ?_
  refine bl_iadd dL_law_676 ?_
  rw [show i + 2 = nI (j + 2) by rw [hi]; exact nI_add j 2]
  refine bl_iaload (vp_in_nI (n := j + 2) (by omega) (by omega)) dL_law_677 ?_
  rw [nI_clamp (n := j + 2) (by omega)]
  refine bl_callM (as := [.int (xs (j + 1)), .int (xs (j + 2))]) hu hv iv_L_96 (by unfold bb_rr; decide) dL_law_678 rfl rfl ⟨fun _ => rfl, fun _ _ _ => rfl⟩ bM (Nat.le_of_ble_eq_true rfl) (ok_X8_stay eM) ?_
  refine bl_icmp_eq (tgt := 1174) dL_law_681 (by decide) ?_
  exact k hX2 hM2 hR2
set_option maxRecDepth 100000 in
set_option maxHeartbeats 4000000 in
theorem bl_case_20 {R : bb_H → bb_H → Prop} {N : Nat} {xs : Nat → Int32} {u v j : Nat} {i : Int32} {hX hM : bb_H} (hrc : bl_rcv R) (S : sim_ways R) (hN : N ≤ 448) (hu : u ≤ 600000) (hv : v ≤ 7302250) (hi : i = nI j) (hj : j + 7 ≤ N) (hR : R hX hM) (k : ∀ hX hM : bb_H, R hX hM → bl_J N xs u v 1174 i [] hX hM) : bl_J N xs u v 686 i [] hX hM := by
  obtain ⟨⟨vX, bX⟩, ⟨vM, bM⟩⟩ := hrc hX hM hR
  obtain ⟨r, hX2, hM2, eX, eM, hR2⟩ := S hX hM hR
  refine bl_aload1 dL_law_686 ?_
  refine bl_callX (as := []) hu hv iv_L_97 (by unfold bb_rr; decide) dL_law_687 rfl rfl ⟨fun _ => rfl, fun _ _ _ => rfl⟩ bX (Nat.le_of_ble_eq_true rfl) (ok_X7_ways eX) ?_
  refine bl_aload2 dL_law_690 ?_
  refine bl_callM (as := []) hu hv iv_L_100 (by unfold bb_rr; decide) dL_law_691 rfl rfl ⟨fun _ => rfl, fun _ _ _ => rfl⟩ bM (Nat.le_of_ble_eq_true rfl) (ok_X8_ways eM) ?_
  refine bl_icmp_eq (tgt := 1174) dL_law_694 (by decide) ?_
  exact k hX2 hM2 hR2
set_option maxRecDepth 100000 in
set_option maxHeartbeats 4000000 in
theorem bl_case_21 {R : bb_H → bb_H → Prop} {N : Nat} {xs : Nat → Int32} {u v j : Nat} {i : Int32} {hX hM : bb_H} (hrc : bl_rcv R) (S : sim_ease R) (hN : N ≤ 448) (hu : u ≤ 600000) (hv : v ≤ 7302250) (hi : i = nI j) (hj : j + 7 ≤ N) (hR : R hX hM) (k : ∀ hX hM : bb_H, R hX hM → bl_J N xs u v 1174 i [] hX hM) : bl_J N xs u v 699 i [] hX hM := by
  obtain ⟨⟨vX, bX⟩, ⟨vM, bM⟩⟩ := hrc hX hM hR
  obtain ⟨r, hX2, hM2, eX, eM, hR2⟩ := S hX hM (xs (j + 1)) hR
  refine bl_aload1 dL_law_699 ?_
  refine bl_aload0 dL_law_700 ?_
  refine bl_iload3 dL_law_701 ?_
  refine bl_iconst (w := 1) dL_law_702 (by decide) ?_
  refine bl_iadd dL_law_703 ?_
  rw [show i + 1 = nI (j + 1) by rw [hi]; exact nI_add j 1]
  refine bl_iaload (vp_in_nI (n := j + 1) (by omega) (by omega)) dL_law_704 ?_
  rw [nI_clamp (n := j + 1) (by omega)]
  refine bl_callX (as := [.int (xs (j + 1))]) hu hv iv_L_101 (by unfold bb_rr; decide) dL_law_705 rfl rfl ⟨fun _ => rfl, fun _ _ _ => rfl⟩ bX (Nat.le_of_ble_eq_true rfl) (ok_X7_ease eX) ?_
  refine bl_aload2 dL_law_708 ?_
  refine bl_aload0 dL_law_709 ?_
  refine bl_iload3 dL_law_710 ?_
  refine bl_iconst (w := 1) dL_law_711 (by decide) ?_
  refine bl_iadd dL_law_712 ?_
  rw [show i + 1 = nI (j + 1) by rw [hi]; exact nI_add j 1]
  refine bl_iaload (vp_in_nI (n := j + 1) (by omega) (by omega)) dL_law_713 ?_
  rw [nI_clamp (n := j + 1) (by omega)]
  refine bl_callM (as := [.int (xs (j + 1))]) hu hv iv_L_104 (by unfold bb_rr; decide) dL_law_714 rfl rfl ⟨fun _ => rfl, fun _ _ _ => rfl⟩ bM (Nat.le_of_ble_eq_true rfl) (ok_X8_ease eM) ?_
  refine bl_icmp_eq (tgt := 1174) dL_law_717 (by decide) ?_
  exact k hX2 hM2 hR2
set_option maxRecDepth 100000 in
set_option maxHeartbeats 4000000 in
theorem bl_case_22 {R : bb_H → bb_H → Prop} {N : Nat} {xs : Nat → Int32} {u v j : Nat} {i : Int32} {hX hM : bb_H} (hrc : bl_rcv R) (S : sim_left R) (hN : N ≤ 448) (hu : u ≤ 600000) (hv : v ≤ 7302250) (hi : i = nI j) (hj : j + 7 ≤ N) (hR : R hX hM) (k : ∀ hX hM : bb_H, R hX hM → bl_J N xs u v 1174 i [] hX hM) : bl_J N xs u v 722 i [] hX hM := by
  obtain ⟨⟨vX, bX⟩, ⟨vM, bM⟩⟩ := hrc hX hM hR
  obtain ⟨r, hX2, hM2, eX, eM, hR2⟩ := S hX hM (xs (j + 1)) (xs (j + 2)) hR
  refine bl_aload1 dL_law_722 ?_
  refine bl_aload0 dL_law_723 ?_
  refine bl_iload3 dL_law_724 ?_
  refine bl_iconst (w := 1) dL_law_725 (by decide) ?_
  refine bl_iadd dL_law_726 ?_
  rw [show i + 1 = nI (j + 1) by rw [hi]; exact nI_add j 1]
  refine bl_iaload (vp_in_nI (n := j + 1) (by omega) (by omega)) dL_law_727 ?_
  rw [nI_clamp (n := j + 1) (by omega)]
  refine bl_aload0 dL_law_728 ?_
  refine bl_iload3 dL_law_729 ?_
  refine bl_iconst (w := 2) dL_law_730 (by decide) ?_
  refine bl_iadd dL_law_731 ?_
  rw [show i + 2 = nI (j + 2) by rw [hi]; exact nI_add j 2]
  refine bl_iaload (vp_in_nI (n := j + 2) (by omega) (by omega)) dL_law_732 ?_
  rw [nI_clamp (n := j + 2) (by omega)]
  refine bl_callX (as := [.int (xs (j + 1)), .int (xs (j + 2))]) hu hv iv_L_105 (by unfold bb_rr; decide) dL_law_733 rfl rfl ⟨fun _ => rfl, fun _ _ _ => rfl⟩ bX (Nat.le_of_ble_eq_true rfl) (ok_X7_left eX) ?_
  refine bl_aload2 dL_law_736 ?_
  refine bl_aload0 dL_law_737 ?_
  refine bl_iload3 dL_law_738 ?_
  refine bl_iconst (w := 1) dL_law_739 (by decide) ?_
  refine bl_iadd dL_law_740 ?_
  rw [show i + 1 = nI (j + 1) by rw [hi]; exact nI_add j 1]
  refine bl_iaload (vp_in_nI (n := j + 1) (by omega) (by omega)) dL_law_741 ?_
  rw [nI_clamp (n := j + 1) (by omega)]
  refine bl_aload0 dL_law_742 ?_
  refine bl_iload3 dL_law_743 ?_
  refine bl_iconst (w := 2) dL_law_744 (by decide) ?_
  refine bl_iadd dL_law_745 ?_
  rw [show i + 2 = nI (j + 2) by rw [hi]; exact nI_add j 2]
  refine bl_iaload (vp_in_nI (n := j + 2) (by omega) (by omega)) dL_law_746 ?_
  rw [nI_clamp (n := j + 2) (by omega)]
  refine bl_callM (as := [.int (xs (j + 1)), .int (xs (j + 2))]) hu hv iv_L_108 (by unfold bb_rr; decide) dL_law_747 rfl rfl ⟨fun _ => rfl, fun _ _ _ => rfl⟩ bM (Nat.le_of_ble_eq_true rfl) (ok_X8_left eM) ?_
  refine bl_icmp_eq (tgt := 1174) dL_law_750 (by decide) ?_
  exact k hX2 hM2 hR2
set_option maxRecDepth 100000 in
set_option maxHeartbeats 4000000 in
theorem bl_case_23 {R : bb_H → bb_H → Prop} {N : Nat} {xs : Nat → Int32} {u v j : Nat} {i : Int32} {hX hM : bb_H} (hrc : bl_rcv R) (S : sim_winter R) (hN : N ≤ 448) (hu : u ≤ 600000) (hv : v ≤ 7302250) (hi : i = nI j) (hj : j + 7 ≤ N) (hR : R hX hM) (k : ∀ hX hM : bb_H, R hX hM → bl_J N xs u v 1174 i [] hX hM) : bl_J N xs u v 755 i [] hX hM := by
  obtain ⟨⟨vX, bX⟩, ⟨vM, bM⟩⟩ := hrc hX hM hR
  obtain ⟨r, hX2, hM2, eX, eM, hR2⟩ := S hX hM (xs (j + 1)) (xs (j + 2)) (xs (j + 3)) hR
  refine bl_aload1 dL_law_755 ?_
  refine bl_aload0 dL_law_756 ?_
  refine bl_iload3 dL_law_757 ?_
  refine bl_iconst (w := 1) dL_law_758 (by decide) ?_
  refine bl_iadd dL_law_759 ?_
  rw [show i + 1 = nI (j + 1) by rw [hi]; exact nI_add j 1]
  refine bl_iaload (vp_in_nI (n := j + 1) (by omega) (by omega)) dL_law_760 ?_
  rw [nI_clamp (n := j + 1) (by omega)]
  refine bl_aload0 dL_law_761 ?_
  refine bl_iload3 dL_law_762 ?_
  refine bl_iconst (w := 2) dL_law_763 (by decide) ?_
  refine bl_iadd dL_law_764 ?_
  rw [show i + 2 = nI (j + 2) by rw [hi]; exact nI_add j 2]
  refine bl_iaload (vp_in_nI (n := j + 2) (by omega) (by omega)) dL_law_765 ?_
  rw [nI_clamp (n := j + 2) (by omega)]
  refine bl_aload0 dL_law_766 ?_
  refine bl_iload3 dL_law_767 ?_
  refine bl_iconst (w := 3) dL_law_768 (by decide) ?_
  refine bl_iadd dL_law_769 ?_
  rw [show i + 3 = nI (j + 3) by rw [hi]; exact nI_add j 3]
  refine bl_iaload (vp_in_nI (n := j + 3) (by omega) (by omega)) dL_law_770 ?_
  rw [nI_clamp (n := j + 3) (by omega)]
  refine bl_callX (as := [.int (xs (j + 1)), .int (xs (j + 2)), .int (xs (j + 3))]) hu hv iv_L_109 (by unfold bb_rr; decide) dL_law_771 rfl rfl ⟨fun _ => rfl, fun _ _ _ => rfl⟩ bX (Nat.le_of_ble_eq_true rfl) (ok_X7_winter eX) ?_
  refine bl_aload2 dL_law_774 ?_
  refine bl_aload0 dL_law_775 ?_
  refine bl_iload3 dL_law_776 ?_
  refine bl_iconst (w := 1) dL_law_777 (by decide) ?_
  refine bl_iadd dL_law_778 ?_
  rw [show i + 1 = nI (j + 1) by rw [hi]; exact nI_add j 1]
  refine bl_iaload (vp_in_nI (n := j + 1) (by omega) (by omega)) dL_law_779 ?_
  rw [nI_clamp (n := j + 1) (by omega)]
  refine bl_aload0 dL_law_780 ?_
  refine bl_iload3 dL_law_781 ?_
  refine bl_iconst (w := 2) dL_law_782 (by decide) ?_
  refine bl_iadd dL_law_783 ?_
  rw [show i + 2 = nI (j + 2) by rw [hi]; exact nI_add j 2]
  refine bl_iaload (vp_in_nI (n := j + 2) (by omega) (by omega)) dL_law_784 ?_
  rw [nI_clamp (n := j + 2) (by omega)]
  refine bl_aload0 dL_law_785 ?_
  refine bl_iload3 dL_law_786 ?_
  refine bl_iconst (w := 3) dL_law_787 (by decide) ?_
  refine bl_iadd dL_law_788 ?_
  rw [show i + 3 = nI (j + 3) by rw [hi]; exact nI_add j 3]
  refine bl_iaload (vp_in_nI (n := j + 3) (by omega) (by omega)) dL_law_789 ?_
  rw [nI_clamp (n := j + 3) (by omega)]
  refine bl_callM (as := [.int (xs (j + 1)), .int (xs (j + 2)), .int (xs (j + 3))]) hu hv iv_L_112 (by unfold bb_rr; decide) dL_law_790 rfl rfl ⟨fun _ => rfl, fun _ _ _ => rfl⟩ bM (Nat.le_of_ble_eq_true rfl) (ok_X8_winter eM) ?_
  refine bl_icmp_eq (tgt := 1174) dL_law_793 (by decide) ?_
  exact k hX2 hM2 hR2
set_option maxRecDepth 100000 in
set_option maxHeartbeats 4000000 in
theorem bl_case_24 {R : bb_H → bb_H → Prop} {N : Nat} {xs : Nat → Int32} {u v j : Nat} {i : Int32} {hX hM : bb_H} (hrc : bl_rcv R) (S : sim_image R) (hN : N ≤ 448) (hu : u ≤ 600000) (hv : v ≤ 7302250) (hi : i = nI j) (hj : j + 7 ≤ N) (hR : R hX hM) (k : ∀ hX hM : bb_H, R hX hM → bl_J N xs u v 1174 i [] hX hM) : bl_J N xs u v 798 i [] hX hM := by
  obtain ⟨⟨vX, bX⟩, ⟨vM, bM⟩⟩ := hrc hX hM hR
  obtain ⟨r, hX2, hM2, eX, eM, hR2⟩ := S hX hM hR
  refine bl_aload1 dL_law_798 ?_
  refine bl_callX (as := []) hu hv iv_L_113 (by unfold bb_rr; decide) dL_law_799 rfl rfl ⟨fun _ => rfl, fun _ _ _ => rfl⟩ bX (Nat.le_of_ble_eq_true rfl) (ok_X7_image eX) ?_
  refine bl_aload2 dL_law_802 ?_
  refine bl_callM (as := []) hu hv iv_L_116 (by unfold bb_rr; decide) dL_law_803 rfl rfl ⟨fun _ => rfl, fun _ _ _ => rfl⟩ bM (Nat.le_of_ble_eq_true rfl) (ok_X8_image eM) ?_
  refine bl_icmp_eq (tgt := 1174) dL_law_806 (by decide) ?_
  exact k hX2 hM2 hR2
set_option maxRecDepth 100000 in
set_option maxHeartbeats 4000000 in
theorem bl_case_25 {R : bb_H → bb_H → Prop} {N : Nat} {xs : Nat → Int32} {u v j : Nat} {i : Int32} {hX hM : bb_H} (hrc : bl_rcv R) (S : sim_restore R) (hN : N ≤ 448) (hu : u ≤ 600000) (hv : v ≤ 7302250) (hi : i = nI j) (hj : j + 7 ≤ N) (hR : R hX hM) (k : ∀ hX hM : bb_H, R hX hM → bl_J N xs u v 1174 i [] hX hM) : bl_J N xs u v 811 i [] hX hM := by
  obtain ⟨⟨vX, bX⟩, ⟨vM, bM⟩⟩ := hrc hX hM hR
  obtain ⟨r, hX2, hM2, eX, eM, hR2⟩ := S hX hM hR
  refine bl_aload1 dL_law_811 ?_
  refine bl_callX (as := []) hu hv iv_L_117 (by unfold bb_rr; decide) dL_law_812 rfl rfl ⟨fun _ => rfl, fun _ _ _ => rfl⟩ bX (Nat.le_of_ble_eq_true rfl) (ok_X7_restore eX) ?_
  refine bl_aload2 dL_law_815 ?_
  refine bl_callM (as := []) hu hv iv_L_120 (by unfold bb_rr; decide) dL_law_816 rfl rfl ⟨fun _ => rfl, fun _ _ _ => rfl⟩ bM (Nat.le_of_ble_eq_true rfl) (ok_X8_restore eM) ?_
  refine bl_icmp_eq (tgt := 1174) dL_law_819 (by decide) ?_
  exact k hX2 hM2 hR2
set_option maxRecDepth 100000 in
set_option maxHeartbeats 4000000 in
theorem bl_case_26 {R : bb_H → bb_H → Prop} {N : Nat} {xs : Nat → Int32} {u v j : Nat} {i : Int32} {hX hM : bb_H} (hrc : bl_rcv R) (S : sim_failed R) (hN : N ≤ 448) (hu : u ≤ 600000) (hv : v ≤ 7302250) (hi : i = nI j) (hj : j + 7 ≤ N) (hR : R hX hM) (k : ∀ hX hM : bb_H, R hX hM → bl_J N xs u v 1174 i [] hX hM) : bl_J N xs u v 824 i [] hX hM := by
  obtain ⟨⟨vX, bX⟩, ⟨vM, bM⟩⟩ := hrc hX hM hR
  obtain ⟨r, hX2, hM2, eX, eM, hR2⟩ := S hX hM (xs (j + 1)) (xs (j + 2)) (xs (j + 3)) (xs (j + 4)) (xs (j + 5)) (xs (j + 6)) hR
  refine bl_aload1 dL_law_824 ?_
  refine bl_aload0 dL_law_825 ?_
  refine bl_iload3 dL_law_826 ?_
  refine bl_iconst (w := 1) dL_law_827 (by decide) ?_
  refine bl_iadd dL_law_828 ?_
  rw [show i + 1 = nI (j + 1) by rw [hi]; exact nI_add j 1]
  refine bl_iaload (vp_in_nI (n := j + 1) (by omega) (by omega)) dL_law_829 ?_
  rw [nI_clamp (n := j + 1) (by omega)]
  refine bl_aload0 dL_law_830 ?_
  refine bl_iload3 dL_law_831 ?_
  refine bl_iconst (w := 2) dL_law_832 (by decide) ?_
  refine bl_iadd dL_law_833 ?_
  rw [show i + 2 = nI (j + 2) by rw [hi]; exact nI_add j 2]
  refine bl_iaload (vp_in_nI (n := j + 2) (by omega) (by omega)) dL_law_834 ?_
  rw [nI_clamp (n := j + 2) (by omega)]
  refine bl_aload0 dL_law_835 ?_
  refine bl_iload3 dL_law_836 ?_
  refine bl_iconst (w := 3) dL_law_837 (by decide) ?_
  refine bl_iadd dL_law_838 ?_
  rw [show i + 3 = nI (j + 3) by rw [hi]; exact nI_add j 3]
  refine bl_iaload (vp_in_nI (n := j + 3) (by omega) (by omega)) dL_law_839 ?_
  rw [nI_clamp (n := j + 3) (by omega)]
  refine bl_aload0 dL_law_840 ?_
  refine bl_iload3 dL_law_841 ?_
  refine bl_iconst (w := 4) dL_law_842 (by decide) ?_
  refine bl_iadd dL_law_843 ?_
  rw [show i + 4 = nI (j + 4) by rw [hi]; exact nI_add j 4]
  refine bl_iaload (vp_in_nI (n := j + 4) (by omega) (by omega)) dL_law_844 ?_
  rw [nI_clamp (n := j + 4) (by omega)]
  refine bl_aload0 dL_law_845 ?_
  refine bl_iload3 dL_law_846 ?_
  refine bl_iconst (w := 5) dL_law_847 (by decide) ?_
  refine bl_iadd dL_law_848 ?_
  rw [show i + 5 = nI (j + 5) by rw [hi]; exact nI_add j 5]
  refine bl_iaload (vp_in_nI (n := j + 5) (by omega) (by omega)) dL_law_849 ?_
  rw [nI_clamp (n := j + 5) (by omega)]
  refine bl_aload0 dL_law_850 ?_
  refine bl_iload3 dL_law_851 ?_
  refine bl_bipush (w := 6) dL_law_852 (by decide) ?_
  refine bl_iadd dL_law_854 ?_
  rw [show i + 6 = nI (j + 6) by rw [hi]; exact nI_add j 6]
  refine bl_iaload (vp_in_nI (n := j + 6) (by omega) (by omega)) dL_law_855 ?_
  rw [nI_clamp (n := j + 6) (by omega)]
  refine bl_callX (as := [.int (xs (j + 1)), .int (xs (j + 2)), .int (xs (j + 3)), .int (xs (j + 4)), .int (xs (j + 5)), .int (xs (j + 6))]) hu hv iv_L_121 (by unfold bb_rr; decide) dL_law_856 rfl rfl ⟨fun _ => rfl, fun _ _ _ => rfl⟩ bX (Nat.le_of_ble_eq_true rfl) (ok_X7_failed eX) ?_
  refine bl_aload2 dL_law_859 ?_
  refine bl_aload0 dL_law_860 ?_
  refine bl_iload3 dL_law_861 ?_
  refine bl_iconst (w := 1) dL_law_862 (by decide) ?_
  refine bl_iadd dL_law_863 ?_
  rw [show i + 1 = nI (j + 1) by rw [hi]; exact nI_add j 1]
  refine bl_iaload (vp_in_nI (n := j + 1) (by omega) (by omega)) dL_law_864 ?_
  rw [nI_clamp (n := j + 1) (by omega)]
  refine bl_aload0 dL_law_865 ?_
  refine bl_iload3 dL_law_866 ?_
  refine bl_iconst (w := 2) dL_law_867 (by decide) ?_
  refine bl_iadd dL_law_868 ?_
  rw [show i + 2 = nI (j + 2) by rw [hi]; exact nI_add j 2]
  refine bl_iaload (vp_in_nI (n := j + 2) (by omega) (by omega)) dL_law_869 ?_
  rw [nI_clamp (n := j + 2) (by omega)]
  refine bl_aload0 dL_law_870 ?_
  refine bl_iload3 dL_law_871 ?_
  refine bl_iconst (w := 3) dL_law_872 (by decide) ?_
  refine bl_iadd dL_law_873 ?_
  rw [show i + 3 = nI (j + 3) by rw [hi]; exact nI_add j 3]
  refine bl_iaload (vp_in_nI (n := j + 3) (by omega) (by omega)) dL_law_874 ?_
  rw [nI_clamp (n := j + 3) (by omega)]
  refine bl_aload0 dL_law_875 ?_
  refine bl_iload3 dL_law_876 ?_
  refine bl_iconst (w := 4) dL_law_877 (by decide) ?_
  refine bl_iadd dL_law_878 ?_
  rw [show i + 4 = nI (j + 4) by rw [hi]; exact nI_add j 4]
  refine bl_iaload (vp_in_nI (n := j + 4) (by omega) (by omega)) dL_law_879 ?_
  rw [nI_clamp (n := j + 4) (by omega)]
  refine bl_aload0 dL_law_880 ?_
  refine bl_iload3 dL_law_881 ?_
  refine bl_iconst (w := 5) dL_law_882 (by decide) ?_
  refine bl_iadd dL_law_883 ?_
  rw [show i + 5 = nI (j + 5) by rw [hi]; exact nI_add j 5]
  refine bl_iaload (vp_in_nI (n := j + 5) (by omega) (by omega)) dL_law_884 ?_
  rw [nI_clamp (n := j + 5) (by omega)]
  refine bl_aload0 dL_law_885 ?_
  refine bl_iload3 dL_law_886 ?_
  refine bl_bipush (w := 6) dL_law_887 (by decide) ?_
  refine bl_iadd dL_law_889 ?_
  rw [show i + 6 = nI (j + 6) by rw [hi]; exact nI_add j 6]
  refine bl_iaload (vp_in_nI (n := j + 6) (by omega) (by omega)) dL_law_890 ?_
  rw [nI_clamp (n := j + 6) (by omega)]
  refine bl_callM (as := [.int (xs (j + 1)), .int (xs (j + 2)), .int (xs (j + 3)), .int (xs (j + 4)), .int (xs (j + 5)), .int (xs (j + 6))]) hu hv iv_L_125 (by unfold bb_rr; decide) dL_law_891 rfl rfl ⟨fun _ => rfl, fun _ _ _ => rfl⟩ bM (Nat.le_of_ble_eq_true rfl) (ok_X8_failed eM) ?_
  refine bl_icmp_eq (tgt := 1174) dL_law_894 (by decide) ?_
  exact k hX2 hM2 hR2
set_option maxRecDepth 100000 in
set_option maxHeartbeats 4000000 in
theorem bl_case_27 {R : bb_H → bb_H → Prop} {N : Nat} {xs : Nat → Int32} {u v j : Nat} {i : Int32} {hX hM : bb_H} (hrc : bl_rcv R) (S : sim_film R) (hN : N ≤ 448) (hu : u ≤ 600000) (hv : v ≤ 7302250) (hi : i = nI j) (hj : j + 7 ≤ N) (hR : R hX hM) (k : ∀ hX hM : bb_H, R hX hM → bl_J N xs u v 1174 i [] hX hM) : bl_J N xs u v 899 i [] hX hM := by
  obtain ⟨⟨vX, bX⟩, ⟨vM, bM⟩⟩ := hrc hX hM hR
  obtain ⟨r, hX2, hM2, eX, eM, hR2⟩ := S hX hM (xs (j + 1)) (xs (j + 2)) (xs (j + 3)) (xs (j + 4)) (xs (j + 5)) hR
  refine bl_aload1 dL_law_899 ?_
  refine bl_aload0 dL_law_900 ?_
  refine bl_iload3 dL_law_901 ?_
  refine bl_iconst (w := 1) dL_law_902 (by decide) ?_
  refine bl_iadd dL_law_903 ?_
  rw [show i + 1 = nI (j + 1) by rw [hi]; exact nI_add j 1]
  refine bl_iaload (vp_in_nI (n := j + 1) (by omega) (by omega)) dL_law_904 ?_
  rw [nI_clamp (n := j + 1) (by omega)]
  refine bl_aload0 dL_law_905 ?_
  refine bl_iload3 dL_law_906 ?_
  refine bl_iconst (w := 2) dL_law_907 (by decide) ?_
  refine bl_iadd dL_law_908 ?_
  rw [show i + 2 = nI (j + 2) by rw [hi]; exact nI_add j 2]
  refine bl_iaload (vp_in_nI (n := j + 2) (by omega) (by omega)) dL_law_909 ?_
  rw [nI_clamp (n := j + 2) (by omega)]
  refine bl_aload0 dL_law_910 ?_
  refine bl_iload3 dL_law_911 ?_
  refine bl_iconst (w := 3) dL_law_912 (by decide) ?_
  refine bl_iadd dL_law_913 ?_
  rw [show i + 3 = nI (j + 3) by rw [hi]; exact nI_add j 3]
  refine bl_iaload (vp_in_nI (n := j + 3) (by omega) (by omega)) dL_law_914 ?_
  rw [nI_clamp (n := j + 3) (by omega)]
  refine bl_aload0 dL_law_915 ?_
  refine bl_iload3 dL_law_916 ?_
  refine bl_iconst (w := 4) dL_law_917 (by decide) ?_
  refine bl_iadd dL_law_918 ?_
  rw [show i + 4 = nI (j + 4) by rw [hi]; exact nI_add j 4]
  refine bl_iaload (vp_in_nI (n := j + 4) (by omega) (by omega)) dL_law_919 ?_
  rw [nI_clamp (n := j + 4) (by omega)]
  refine bl_aload0 dL_law_920 ?_
  refine bl_iload3 dL_law_921 ?_
  refine bl_iconst (w := 5) dL_law_922 (by decide) ?_
  refine bl_iadd dL_law_923 ?_
  rw [show i + 5 = nI (j + 5) by rw [hi]; exact nI_add j 5]
  refine bl_iaload (vp_in_nI (n := j + 5) (by omega) (by omega)) dL_law_924 ?_
  rw [nI_clamp (n := j + 5) (by omega)]
  refine bl_callX (as := [.int (xs (j + 1)), .int (xs (j + 2)), .int (xs (j + 3)), .int (xs (j + 4)), .int (xs (j + 5))]) hu hv iv_L_126 (by unfold bb_rr; decide) dL_law_925 rfl rfl ⟨fun _ => rfl, fun _ _ _ => rfl⟩ bX (Nat.le_of_ble_eq_true rfl) (ok_X7_film eX) ?_
  refine bl_aload2 dL_law_928 ?_
  refine bl_aload0 dL_law_929 ?_
  refine bl_iload3 dL_law_930 ?_
  refine bl_iconst (w := 1) dL_law_931 (by decide) ?_
  refine bl_iadd dL_law_932 ?_
  rw [show i + 1 = nI (j + 1) by rw [hi]; exact nI_add j 1]
  refine bl_iaload (vp_in_nI (n := j + 1) (by omega) (by omega)) dL_law_933 ?_
  rw [nI_clamp (n := j + 1) (by omega)]
  refine bl_aload0 dL_law_934 ?_
  refine bl_iload3 dL_law_935 ?_
  refine bl_iconst (w := 2) dL_law_936 (by decide) ?_
  refine bl_iadd dL_law_937 ?_
  rw [show i + 2 = nI (j + 2) by rw [hi]; exact nI_add j 2]
  refine bl_iaload (vp_in_nI (n := j + 2) (by omega) (by omega)) dL_law_938 ?_
  rw [nI_clamp (n := j + 2) (by omega)]
  refine bl_aload0 dL_law_939 ?_
  refine bl_iload3 dL_law_940 ?_
  refine bl_iconst (w := 3) dL_law_941 (by decide) ?_
  refine bl_iadd dL_law_942 ?_
  rw [show i + 3 = nI (j + 3) by rw [hi]; exact nI_add j 3]
  refine bl_iaload (vp_in_nI (n := j + 3) (by omega) (by omega)) dL_law_943 ?_
  rw [nI_clamp (n := j + 3) (by omega)]
  refine bl_aload0 dL_law_944 ?_
  refine bl_iload3 dL_law_945 ?_
  refine bl_iconst (w := 4) dL_law_946 (by decide) ?_
  refine bl_iadd dL_law_947 ?_
  rw [show i + 4 = nI (j + 4) by rw [hi]; exact nI_add j 4]
  refine bl_iaload (vp_in_nI (n := j + 4) (by omega) (by omega)) dL_law_948 ?_
  rw [nI_clamp (n := j + 4) (by omega)]
  refine bl_aload0 dL_law_949 ?_
  refine bl_iload3 dL_law_950 ?_
  refine bl_iconst (w := 5) dL_law_951 (by decide) ?_
  refine bl_iadd dL_law_952 ?_
  rw [show i + 5 = nI (j + 5) by rw [hi]; exact nI_add j 5]
  refine bl_iaload (vp_in_nI (n := j + 5) (by omega) (by omega)) dL_law_953 ?_
  rw [nI_clamp (n := j + 5) (by omega)]
  refine bl_callM (as := [.int (xs (j + 1)), .int (xs (j + 2)), .int (xs (j + 3)), .int (xs (j + 4)), .int (xs (j + 5))]) hu hv iv_L_130 (by unfold bb_rr; decide) dL_law_954 rfl rfl ⟨fun _ => rfl, fun _ _ _ => rfl⟩ bM (Nat.le_of_ble_eq_true rfl) (ok_X8_film eM) ?_
  refine bl_icmp_eq (tgt := 1174) dL_law_957 (by decide) ?_
  exact k hX2 hM2 hR2
set_option maxRecDepth 100000 in
set_option maxHeartbeats 4000000 in
theorem bl_case_28 {R : bb_H → bb_H → Prop} {N : Nat} {xs : Nat → Int32} {u v j : Nat} {i : Int32} {hX hM : bb_H} (hrc : bl_rcv R) (S : sim_sheet R) (hN : N ≤ 448) (hu : u ≤ 600000) (hv : v ≤ 7302250) (hi : i = nI j) (hj : j + 7 ≤ N) (hR : R hX hM) (k : ∀ hX hM : bb_H, R hX hM → bl_J N xs u v 1174 i [] hX hM) : bl_J N xs u v 962 i [] hX hM := by
  obtain ⟨⟨vX, bX⟩, ⟨vM, bM⟩⟩ := hrc hX hM hR
  obtain ⟨r, hX2, hM2, eX, eM, hR2⟩ := S hX hM (xs (j + 1)) (xs (j + 2)) (xs (j + 3)) hR
  refine bl_aload1 dL_law_962 ?_
  refine bl_aload0 dL_law_963 ?_
  refine bl_iload3 dL_law_964 ?_
  refine bl_iconst (w := 1) dL_law_965 (by decide) ?_
  refine bl_iadd dL_law_966 ?_
  rw [show i + 1 = nI (j + 1) by rw [hi]; exact nI_add j 1]
  refine bl_iaload (vp_in_nI (n := j + 1) (by omega) (by omega)) dL_law_967 ?_
  rw [nI_clamp (n := j + 1) (by omega)]
  refine bl_aload0 dL_law_968 ?_
  refine bl_iload3 dL_law_969 ?_
  refine bl_iconst (w := 2) dL_law_970 (by decide) ?_
  refine bl_iadd dL_law_971 ?_
  rw [show i + 2 = nI (j + 2) by rw [hi]; exact nI_add j 2]
  refine bl_iaload (vp_in_nI (n := j + 2) (by omega) (by omega)) dL_law_972 ?_
  rw [nI_clamp (n := j + 2) (by omega)]
  refine bl_aload0 dL_law_973 ?_
  refine bl_iload3 dL_law_974 ?_
  refine bl_iconst (w := 3) dL_law_975 (by decide) ?_
  refine bl_iadd dL_law_976 ?_
  rw [show i + 3 = nI (j + 3) by rw [hi]; exact nI_add j 3]
  refine bl_iaload (vp_in_nI (n := j + 3) (by omega) (by omega)) dL_law_977 ?_
  rw [nI_clamp (n := j + 3) (by omega)]
  refine bl_callX (as := [.int (xs (j + 1)), .int (xs (j + 2)), .int (xs (j + 3))]) hu hv iv_L_131 (by unfold bb_rr; decide) dL_law_978 rfl rfl ⟨fun _ => rfl, fun _ _ _ => rfl⟩ bX (Nat.le_of_ble_eq_true rfl) (ok_X7_sheet eX) ?_
  refine bl_aload2 dL_law_981 ?_
  refine bl_aload0 dL_law_982 ?_
  refine bl_iload3 dL_law_983 ?_
  refine bl_iconst (w := 1) dL_law_984 (by decide) ?_
  refine bl_iadd dL_law_985 ?_
  rw [show i + 1 = nI (j + 1) by rw [hi]; exact nI_add j 1]
  refine bl_iaload (vp_in_nI (n := j + 1) (by omega) (by omega)) dL_law_986 ?_
  rw [nI_clamp (n := j + 1) (by omega)]
  refine bl_aload0 dL_law_987 ?_
  refine bl_iload3 dL_law_988 ?_
  refine bl_iconst (w := 2) dL_law_989 (by decide) ?_
  refine bl_iadd dL_law_990 ?_
  rw [show i + 2 = nI (j + 2) by rw [hi]; exact nI_add j 2]
  refine bl_iaload (vp_in_nI (n := j + 2) (by omega) (by omega)) dL_law_991 ?_
  rw [nI_clamp (n := j + 2) (by omega)]
  refine bl_aload0 dL_law_992 ?_
  refine bl_iload3 dL_law_993 ?_
  refine bl_iconst (w := 3) dL_law_994 (by decide) ?_
  refine bl_iadd dL_law_995 ?_
  rw [show i + 3 = nI (j + 3) by rw [hi]; exact nI_add j 3]
  refine bl_iaload (vp_in_nI (n := j + 3) (by omega) (by omega)) dL_law_996 ?_
  rw [nI_clamp (n := j + 3) (by omega)]
  refine bl_callM (as := [.int (xs (j + 1)), .int (xs (j + 2)), .int (xs (j + 3))]) hu hv iv_L_134 (by unfold bb_rr; decide) dL_law_997 rfl rfl ⟨fun _ => rfl, fun _ _ _ => rfl⟩ bM (Nat.le_of_ble_eq_true rfl) (ok_X8_sheet eM) ?_
  refine bl_icmp_eq (tgt := 1174) dL_law_1000 (by decide) ?_
  exact k hX2 hM2 hR2
set_option maxRecDepth 100000 in
set_option maxHeartbeats 4000000 in
theorem bl_case_29 {R : bb_H → bb_H → Prop} {N : Nat} {xs : Nat → Int32} {u v j : Nat} {i : Int32} {hX hM : bb_H} (hrc : bl_rcv R) (S : sim_drop R) (hN : N ≤ 448) (hu : u ≤ 600000) (hv : v ≤ 7302250) (hi : i = nI j) (hj : j + 7 ≤ N) (hR : R hX hM) (k : ∀ hX hM : bb_H, R hX hM → bl_J N xs u v 1174 i [] hX hM) : bl_J N xs u v 1005 i [] hX hM := by
  obtain ⟨⟨vX, bX⟩, ⟨vM, bM⟩⟩ := hrc hX hM hR
  obtain ⟨r, hX2, hM2, eX, eM, hR2⟩ := S hX hM (xs (j + 1)) hR
  refine bl_aload1 dL_law_1005 ?_
  refine bl_aload0 dL_law_1006 ?_
  refine bl_iload3 dL_law_1007 ?_
  refine bl_iconst (w := 1) dL_law_1008 (by decide) ?_
  refine bl_iadd dL_law_1009 ?_
  rw [show i + 1 = nI (j + 1) by rw [hi]; exact nI_add j 1]
  refine bl_iaload (vp_in_nI (n := j + 1) (by omega) (by omega)) dL_law_1010 ?_
  rw [nI_clamp (n := j + 1) (by omega)]
  refine bl_callX (as := [.int (xs (j + 1))]) hu hv iv_L_135 (by unfold bb_rr; decide) dL_law_1011 rfl rfl ⟨fun _ => rfl, fun _ _ _ => rfl⟩ bX (Nat.le_of_ble_eq_true rfl) (ok_X7_drop eX) ?_
  refine bl_aload2 dL_law_1014 ?_
  refine bl_aload0 dL_law_1015 ?_
  refine bl_iload3 dL_law_1016 ?_
  refine bl_iconst (w := 1) dL_law_1017 (by decide) ?_
  refine bl_iadd dL_law_1018 ?_
  rw [show i + 1 = nI (j + 1) by rw [hi]; exact nI_add j 1]
  refine bl_iaload (vp_in_nI (n := j + 1) (by omega) (by omega)) dL_law_1019 ?_
  rw [nI_clamp (n := j + 1) (by omega)]
  refine bl_callM (as := [.int (xs (j + 1))]) hu hv iv_L_138 (by unfold bb_rr; decide) dL_law_1020 rfl rfl ⟨fun _ => rfl, fun _ _ _ => rfl⟩ bM (Nat.le_of_ble_eq_true rfl) (ok_X8_drop eM) ?_
  refine bl_icmp_eq (tgt := 1174) dL_law_1023 (by decide) ?_
  exact k hX2 hM2 hR2
set_option maxRecDepth 100000 in
set_option maxHeartbeats 4000000 in
theorem bl_case_30 {R : bb_H → bb_H → Prop} {N : Nat} {xs : Nat → Int32} {u v j : Nat} {i : Int32} {hX hM : bb_H} (hrc : bl_rcv R) (S : sim_item R) (hN : N ≤ 448) (hu : u ≤ 600000) (hv : v ≤ 7302250) (hi : i = nI j) (hj : j + 7 ≤ N) (hR : R hX hM) (k : ∀ hX hM : bb_H, R hX hM → bl_J N xs u v 1174 i [] hX hM) : bl_J N xs u v 1028 i [] hX hM := by
  obtain ⟨⟨vX, bX⟩, ⟨vM, bM⟩⟩ := hrc hX hM hR
  obtain ⟨r, hX2, hM2, eX, eM, hR2⟩ := S hX hM (xs (j + 1)) (xs (j + 2)) (xs (j + 3)) (((xs (j + 4)).toInt64 <<< ((32 : Int32).toInt64 &&& 63)) ||| ((xs (j + 5)).toInt64 &&& (4294967295 : Int64))) hR
  refine bl_aload1 dL_law_1028 ?_
  refine bl_aload0 dL_law_1029 ?_
  refine bl_iload3 dL_law_1030 ?_
  refine bl_iconst (w := 1) dL_law_1031 (by decide) ?_
  refine bl_iadd dL_law_1032 ?_
  rw [show i + 1 = nI (j + 1) by rw [hi]; exact nI_add j 1]
  refine bl_iaload (vp_in_nI (n := j + 1) (by omega) (by omega)) dL_law_1033 ?_
  rw [nI_clamp (n := j + 1) (by omega)]
  refine bl_aload0 dL_law_1034 ?_
  refine bl_iload3 dL_law_1035 ?_
  refine bl_iconst (w := 2) dL_law_1036 (by decide) ?_
  refine bl_iadd dL_law_1037 ?_
  rw [show i + 2 = nI (j + 2) by rw [hi]; exact nI_add j 2]
  refine bl_iaload (vp_in_nI (n := j + 2) (by omega) (by omega)) dL_law_1038 ?_
  rw [nI_clamp (n := j + 2) (by omega)]
  refine bl_aload0 dL_law_1039 ?_
  refine bl_iload3 dL_law_1040 ?_
  refine bl_iconst (w := 3) dL_law_1041 (by decide) ?_
  refine bl_iadd dL_law_1042 ?_
  rw [show i + 3 = nI (j + 3) by rw [hi]; exact nI_add j 3]
  refine bl_iaload (vp_in_nI (n := j + 3) (by omega) (by omega)) dL_law_1043 ?_
  rw [nI_clamp (n := j + 3) (by omega)]
  refine bl_aload0 dL_law_1044 ?_
  refine bl_iload3 dL_law_1045 ?_
  refine bl_iconst (w := 4) dL_law_1046 (by decide) ?_
  refine bl_iadd dL_law_1047 ?_
  rw [show i + 4 = nI (j + 4) by rw [hi]; exact nI_add j 4]
  refine bl_iaload (vp_in_nI (n := j + 4) (by omega) (by omega)) dL_law_1048 ?_
  rw [nI_clamp (n := j + 4) (by omega)]
  refine bl_i2l dL_law_1049 ?_
  refine bl_bipush (w := 32) dL_law_1050 (by decide) ?_
  refine bl_lshl dL_law_1052 ?_
  refine bl_aload0 dL_law_1053 ?_
  refine bl_iload3 dL_law_1054 ?_
  refine bl_iconst (w := 5) dL_law_1055 (by decide) ?_
  refine bl_iadd dL_law_1056 ?_
  rw [show i + 5 = nI (j + 5) by rw [hi]; exact nI_add j 5]
  refine bl_iaload (vp_in_nI (n := j + 5) (by omega) (by omega)) dL_law_1057 ?_
  rw [nI_clamp (n := j + 5) (by omega)]
  refine bl_i2l dL_law_1058 ?_
  refine bl_ldc2 (w := 4294967295) cl_law_139 dL_law_1059 ?_
  refine bl_land dL_law_1062 ?_
  refine bl_lor dL_law_1063 ?_
  refine bl_callX (as := [.int (xs (j + 1)), .int (xs (j + 2)), .int (xs (j + 3)), .long (((xs (j + 4)).toInt64 <<< ((32 : Int32).toInt64 &&& 63)) ||| ((xs (j + 5)).toInt64 &&& (4294967295 : Int64)))]) hu hv iv_L_141 (by unfold bb_rr; decide) dL_law_1064 rfl rfl ⟨fun _ => rfl, fun _ _ _ => rfl⟩ bX (Nat.le_of_ble_eq_true rfl) (ok_X7_item eX) ?_
  refine bl_aload2 dL_law_1067 ?_
  refine bl_aload0 dL_law_1068 ?_
  refine bl_iload3 dL_law_1069 ?_
  refine bl_iconst (w := 1) dL_law_1070 (by decide) ?_
  refine bl_iadd dL_law_1071 ?_
  rw [show i + 1 = nI (j + 1) by rw [hi]; exact nI_add j 1]
  refine bl_iaload (vp_in_nI (n := j + 1) (by omega) (by omega)) dL_law_1072 ?_
  rw [nI_clamp (n := j + 1) (by omega)]
  refine bl_aload0 dL_law_1073 ?_
  refine bl_iload3 dL_law_1074 ?_
  refine bl_iconst (w := 2) dL_law_1075 (by decide) ?_
  refine bl_iadd dL_law_1076 ?_
  rw [show i + 2 = nI (j + 2) by rw [hi]; exact nI_add j 2]
  refine bl_iaload (vp_in_nI (n := j + 2) (by omega) (by omega)) dL_law_1077 ?_
  rw [nI_clamp (n := j + 2) (by omega)]
  refine bl_aload0 dL_law_1078 ?_
  refine bl_iload3 dL_law_1079 ?_
  refine bl_iconst (w := 3) dL_law_1080 (by decide) ?_
  refine bl_iadd dL_law_1081 ?_
  rw [show i + 3 = nI (j + 3) by rw [hi]; exact nI_add j 3]
  refine bl_iaload (vp_in_nI (n := j + 3) (by omega) (by omega)) dL_law_1082 ?_
  rw [nI_clamp (n := j + 3) (by omega)]
  refine bl_aload0 dL_law_1083 ?_
  refine bl_iload3 dL_law_1084 ?_
  refine bl_iconst (w := 4) dL_law_1085 (by decide) ?_
  refine bl_iadd dL_law_1086 ?_
  rw [show i + 4 = nI (j + 4) by rw [hi]; exact nI_add j 4]
  refine bl_iaload (vp_in_nI (n := j + 4) (by omega) (by omega)) dL_law_1087 ?_
  rw [nI_clamp (n := j + 4) (by omega)]
  refine bl_i2l dL_law_1088 ?_
  refine bl_bipush (w := 32) dL_law_1089 (by decide) ?_
  refine bl_lshl dL_law_1091 ?_
  refine bl_aload0 dL_law_1092 ?_
  refine bl_iload3 dL_law_1093 ?_
  refine bl_iconst (w := 5) dL_law_1094 (by decide) ?_
  refine bl_iadd dL_law_1095 ?_
  rw [show i + 5 = nI (j + 5) by rw [hi]; exact nI_add j 5]
  refine bl_iaload (vp_in_nI (n := j + 5) (by omega) (by omega)) dL_law_1096 ?_
  rw [nI_clamp (n := j + 5) (by omega)]
  refine bl_i2l dL_law_1097 ?_
  refine bl_ldc2 (w := 4294967295) cl_law_139 dL_law_1098 ?_
  refine bl_land dL_law_1101 ?_
  refine bl_lor dL_law_1102 ?_
  refine bl_callM (as := [.int (xs (j + 1)), .int (xs (j + 2)), .int (xs (j + 3)), .long (((xs (j + 4)).toInt64 <<< ((32 : Int32).toInt64 &&& 63)) ||| ((xs (j + 5)).toInt64 &&& (4294967295 : Int64)))]) hu hv iv_L_145 (by unfold bb_rr; decide) dL_law_1103 rfl rfl ⟨fun _ => rfl, fun _ _ _ => rfl⟩ bM (Nat.le_of_ble_eq_true rfl) (ok_X8_item eM) ?_
  refine bl_icmp_eq (tgt := 1174) dL_law_1106 (by decide) ?_
  exact k hX2 hM2 hR2
set_option maxRecDepth 100000 in
set_option maxHeartbeats 4000000 in
theorem bl_case_31 {R : bb_H → bb_H → Prop} {N : Nat} {xs : Nat → Int32} {u v j : Nat} {i : Int32} {hX hM : bb_H} (hrc : bl_rcv R) (S : sim_copy R) (hN : N ≤ 448) (hu : u ≤ 600000) (hv : v ≤ 7302250) (hi : i = nI j) (hj : j + 7 ≤ N) (hR : R hX hM) (k : ∀ hX hM : bb_H, R hX hM → bl_J N xs u v 1174 i [] hX hM) : bl_J N xs u v 1111 i [] hX hM := by
  obtain ⟨⟨vX, bX⟩, ⟨vM, bM⟩⟩ := hrc hX hM hR
  obtain ⟨r, hX2, hM2, eX, eM, hR2⟩ := S hX hM (xs (j + 1)) (xs (j + 2)) (xs (j + 3)) (xs (j + 4)) (xs (j + 5)) hR
  refine bl_aload1 dL_law_1111 ?_
  refine bl_aload0 dL_law_1112 ?_
  refine bl_iload3 dL_law_1113 ?_
  refine bl_iconst (w := 1) dL_law_1114 (by decide) ?_
  refine bl_iadd dL_law_1115 ?_
  rw [show i + 1 = nI (j + 1) by rw [hi]; exact nI_add j 1]
  refine bl_iaload (vp_in_nI (n := j + 1) (by omega) (by omega)) dL_law_1116 ?_
  rw [nI_clamp (n := j + 1) (by omega)]
  refine bl_aload0 dL_law_1117 ?_
  refine bl_iload3 dL_law_1118 ?_
  refine bl_iconst (w := 2) dL_law_1119 (by decide) ?_
  refine bl_iadd dL_law_1120 ?_
  rw [show i + 2 = nI (j + 2) by rw [hi]; exact nI_add j 2]
  refine bl_iaload (vp_in_nI (n := j + 2) (by omega) (by omega)) dL_law_1121 ?_
  rw [nI_clamp (n := j + 2) (by omega)]
  refine bl_aload0 dL_law_1122 ?_
  refine bl_iload3 dL_law_1123 ?_
  refine bl_iconst (w := 3) dL_law_1124 (by decide) ?_
  refine bl_iadd dL_law_1125 ?_
  rw [show i + 3 = nI (j + 3) by rw [hi]; exact nI_add j 3]
  refine bl_iaload (vp_in_nI (n := j + 3) (by omega) (by omega)) dL_law_1126 ?_
  rw [nI_clamp (n := j + 3) (by omega)]
  refine bl_aload0 dL_law_1127 ?_
  refine bl_iload3 dL_law_1128 ?_
  refine bl_iconst (w := 4) dL_law_1129 (by decide) ?_
  refine bl_iadd dL_law_1130 ?_
  rw [show i + 4 = nI (j + 4) by rw [hi]; exact nI_add j 4]
  refine bl_iaload (vp_in_nI (n := j + 4) (by omega) (by omega)) dL_law_1131 ?_
  rw [nI_clamp (n := j + 4) (by omega)]
  refine bl_aload0 dL_law_1132 ?_
  refine bl_iload3 dL_law_1133 ?_
  refine bl_iconst (w := 5) dL_law_1134 (by decide) ?_
  refine bl_iadd dL_law_1135 ?_
  rw [show i + 5 = nI (j + 5) by rw [hi]; exact nI_add j 5]
  refine bl_iaload (vp_in_nI (n := j + 5) (by omega) (by omega)) dL_law_1136 ?_
  rw [nI_clamp (n := j + 5) (by omega)]
  refine bl_callX (as := [.int (xs (j + 1)), .int (xs (j + 2)), .int (xs (j + 3)), .int (xs (j + 4)), .int (xs (j + 5))]) hu hv iv_L_146 (by unfold bb_rr; decide) dL_law_1137 rfl rfl ⟨fun _ => rfl, fun _ _ _ => rfl⟩ bX (Nat.le_of_ble_eq_true rfl) (ok_X7_copy eX) ?_
  refine bl_aload2 dL_law_1140 ?_
  refine bl_aload0 dL_law_1141 ?_
  refine bl_iload3 dL_law_1142 ?_
  refine bl_iconst (w := 1) dL_law_1143 (by decide) ?_
  refine bl_iadd dL_law_1144 ?_
  rw [show i + 1 = nI (j + 1) by rw [hi]; exact nI_add j 1]
  refine bl_iaload (vp_in_nI (n := j + 1) (by omega) (by omega)) dL_law_1145 ?_
  rw [nI_clamp (n := j + 1) (by omega)]
  refine bl_aload0 dL_law_1146 ?_
  refine bl_iload3 dL_law_1147 ?_
  refine bl_iconst (w := 2) dL_law_1148 (by decide) ?_
  refine bl_iadd dL_law_1149 ?_
  rw [show i + 2 = nI (j + 2) by rw [hi]; exact nI_add j 2]
  refine bl_iaload (vp_in_nI (n := j + 2) (by omega) (by omega)) dL_law_1150 ?_
  rw [nI_clamp (n := j + 2) (by omega)]
  refine bl_aload0 dL_law_1151 ?_
  refine bl_iload3 dL_law_1152 ?_
  refine bl_iconst (w := 3) dL_law_1153 (by decide) ?_
  refine bl_iadd dL_law_1154 ?_
  rw [show i + 3 = nI (j + 3) by rw [hi]; exact nI_add j 3]
  refine bl_iaload (vp_in_nI (n := j + 3) (by omega) (by omega)) dL_law_1155 ?_
  rw [nI_clamp (n := j + 3) (by omega)]
  refine bl_aload0 dL_law_1156 ?_
  refine bl_iload3 dL_law_1157 ?_
  refine bl_iconst (w := 4) dL_law_1158 (by decide) ?_
  refine bl_iadd dL_law_1159 ?_
  rw [show i + 4 = nI (j + 4) by rw [hi]; exact nI_add j 4]
  refine bl_iaload (vp_in_nI (n := j + 4) (by omega) (by omega)) dL_law_1160 ?_
  rw [nI_clamp (n := j + 4) (by omega)]
  refine bl_aload0 dL_law_1161 ?_
  refine bl_iload3 dL_law_1162 ?_
  refine bl_iconst (w := 5) dL_law_1163 (by decide) ?_
  refine bl_iadd dL_law_1164 ?_
  rw [show i + 5 = nI (j + 5) by rw [hi]; exact nI_add j 5]
  refine bl_iaload (vp_in_nI (n := j + 5) (by omega) (by omega)) dL_law_1165 ?_
  rw [nI_clamp (n := j + 5) (by omega)]
  refine bl_callM (as := [.int (xs (j + 1)), .int (xs (j + 2)), .int (xs (j + 3)), .int (xs (j + 4)), .int (xs (j + 5))]) hu hv iv_L_149 (by unfold bb_rr; decide) dL_law_1166 rfl rfl ⟨fun _ => rfl, fun _ _ _ => rfl⟩ bM (Nat.le_of_ble_eq_true rfl) (ok_X8_copy eM) ?_
  refine bl_icmp_eq (tgt := 1174) dL_law_1169 (by decide) ?_
  exact k hX2 hM2 hR2
def bl_Sim (R : bb_H → bb_H → Prop) : Prop := bl_rcv R ∧ sim_man R ∧ sim_stood R ∧ sim_of R ∧ sim_seat R ∧ sim_type R ∧ sim_read R ∧ sim_count R ∧ sim_years R ∧ sim_move R ∧ sim_nurse R ∧ sim_drift R ∧ sim_undo R ∧ sim_seed R ∧ sim_ahead R ∧ sim_then R ∧ sim_ends R ∧ sim_lonely R ∧ sim_close R ∧ sim_swaps R ∧ sim_stay R ∧ sim_ways R ∧ sim_ease R ∧ sim_left R ∧ sim_winter R ∧ sim_image R ∧ sim_restore R ∧ sim_failed R ∧ sim_film R ∧ sim_sheet R ∧ sim_drop R ∧ sim_item R ∧ sim_copy R
set_option maxRecDepth 100000 in
set_option maxHeartbeats 4000000 in
theorem bl_loop {R : bb_H → bb_H → Prop} {N : Nat} {xs : Nat → Int32} {u v : Nat} (S : bl_Sim R) (hN : N ≤ 448) (hu : u ≤ 600000) (hv : v ≤ 7302250) : ∀ (n j : Nat) (i : Int32) (hX hM : bb_H), i = nI j → j ≤ N → N < j + n → R hX hM → bl_J N xs u v 18 i [] hX hM := by
  intro n
  induction n with
  | zero =>
    intro j i hX hM h1 h2 h3
    omega
  | succ n ih =>
    intro j i hX hM hi hj hn hR
    refine bl_iload3 dL_law_18 ?_
    refine bl_aload0 dL_law_19 ?_
    refine bl_alen dL_law_20 ?_
    refine bl_bipush (w := 7) dL_law_21 (by decide) ?_
    refine bl_isub dL_law_23 ?_
    have hsub : (nI N - 7).toInt = (N : Int) - 7 := pk_sub_toInt (a := N) (b := 7) (by omega) (by decide)
    have hij : i.toInt = (j : Int) := by rw [hi]; exact nI_toInt (by omega)
    refine bl_icmp_gt (tgt := 1180) dL_law_24 (by decide) (fun q => ?_) (fun q => ?_)
    · refine bl_iconst (w := 1) dL_law_1180 (by decide) ?_
      exact bl_ret hu hv dL_law_1181
    · have hj7 : j + 7 ≤ N := by
        have q2 : ¬ (nI N - 7).toInt < i.toInt := fun z => q (Int32.lt_iff_toInt_lt.mpr z)
        omega
      refine bl_aload0 dL_law_27 ?_
      refine bl_iload3 dL_law_28 ?_
      rw [show ([Value.int i, Value.ref 0] : List Value) = [Value.int (nI j), Value.ref 0] by rw [hi]]
      refine bl_iaload (vp_in_nI (n := j) (by omega) (by omega)) dL_law_29 ?_
      rw [nI_clamp (n := j) (by omega)]
      refine bl_bipush (w := 31) dL_law_30 (by decide) ?_
      refine bl_iand dL_law_32 ?_
      have next : ∀ hX hM : bb_H, R hX hM → bl_J N xs u v 1174 i [] hX hM := fun hX hM hR => by
        refine bl_iinc (w := nI (j + 7)) dL_law_1174 (by rw [hi]; exact nI_add j 7) ?_
        refine bl_goto (tgt := 18) dL_law_1177 (by decide) ?_
        exact ih (j + 7) _ hX hM rfl (by omega) (by omega) hR
      obtain ⟨t, ht, et⟩ := pk_andE (xs j) (m := 31) 5 (by decide)
      rw [et]
      rcases (show t = 0 ∨ t = 1 ∨ t = 2 ∨ t = 3 ∨ t = 4 ∨ t = 5 ∨ t = 6 ∨ t = 7 ∨ t = 8 ∨ t = 9 ∨ t = 10 ∨ t = 11 ∨ t = 12 ∨ t = 13 ∨ t = 14 ∨ t = 15 ∨ t = 16 ∨ t = 17 ∨ t = 18 ∨ t = 19 ∨ t = 20 ∨ t = 21 ∨ t = 22 ∨ t = 23 ∨ t = 24 ∨ t = 25 ∨ t = 26 ∨ t = 27 ∨ t = 28 ∨ t = 29 ∨ t = 30 ∨ t = 31 by omega) with rfl | rfl | rfl | rfl | rfl | rfl | rfl | rfl | rfl | rfl | rfl | rfl | rfl | rfl | rfl | rfl | rfl | rfl | rfl | rfl | rfl | rfl | rfl | rfl | rfl | rfl | rfl | rfl | rfl | rfl | rfl | rfl
      · refine bl_table (tgt := 176) dL_law_33 (by decide) (by decide) (off := 143) (by decide) (by decide) ?_
        exact bl_case_0 S.1 S.2.1 hN hu hv hi hj7 hR next
      · refine bl_table (tgt := 209) dL_law_33 (by decide) (by decide) (off := 176) (by decide) (by decide) ?_
        exact bl_case_1 S.1 S.2.2.1 hN hu hv hi hj7 hR next
      · refine bl_table (tgt := 252) dL_law_33 (by decide) (by decide) (off := 219) (by decide) (by decide) ?_
        exact bl_case_2 S.1 S.2.2.2.1 hN hu hv hi hj7 hR next
      · refine bl_table (tgt := 285) dL_law_33 (by decide) (by decide) (off := 252) (by decide) (by decide) ?_
        exact bl_case_3 S.1 S.2.2.2.2.1 hN hu hv hi hj7 hR next
      · refine bl_table (tgt := 308) dL_law_33 (by decide) (by decide) (off := 275) (by decide) (by decide) ?_
        exact bl_case_4 S.1 S.2.2.2.2.2.1 hN hu hv hi hj7 hR next
      · refine bl_table (tgt := 331) dL_law_33 (by decide) (by decide) (off := 298) (by decide) (by decide) ?_
        exact bl_case_5 S.1 S.2.2.2.2.2.2.1 hN hu hv hi hj7 hR next
      · refine bl_table (tgt := 344) dL_law_33 (by decide) (by decide) (off := 311) (by decide) (by decide) ?_
        exact bl_case_6 S.1 S.2.2.2.2.2.2.2.1 hN hu hv hi hj7 hR next
      · refine bl_table (tgt := 367) dL_law_33 (by decide) (by decide) (off := 334) (by decide) (by decide) ?_
        exact bl_case_7 S.1 S.2.2.2.2.2.2.2.2.1 hN hu hv hi hj7 hR next
      · refine bl_table (tgt := 390) dL_law_33 (by decide) (by decide) (off := 357) (by decide) (by decide) ?_
        exact bl_case_8 S.1 S.2.2.2.2.2.2.2.2.2.1 hN hu hv hi hj7 hR next
      · refine bl_table (tgt := 413) dL_law_33 (by decide) (by decide) (off := 380) (by decide) (by decide) ?_
        exact bl_case_9 S.1 S.2.2.2.2.2.2.2.2.2.2.1 hN hu hv hi hj7 hR next
      · refine bl_table (tgt := 446) dL_law_33 (by decide) (by decide) (off := 413) (by decide) (by decide) ?_
        exact bl_case_10 S.1 S.2.2.2.2.2.2.2.2.2.2.2.1 hN hu hv hi hj7 hR next
      · refine bl_table (tgt := 469) dL_law_33 (by decide) (by decide) (off := 436) (by decide) (by decide) ?_
        exact bl_case_11 S.1 S.2.2.2.2.2.2.2.2.2.2.2.2.1 hN hu hv hi hj7 hR next
      · refine bl_table (tgt := 482) dL_law_33 (by decide) (by decide) (off := 449) (by decide) (by decide) ?_
        exact bl_case_12 S.1 S.2.2.2.2.2.2.2.2.2.2.2.2.2.1 hN hu hv hi hj7 hR next
      · refine bl_table (tgt := 505) dL_law_33 (by decide) (by decide) (off := 472) (by decide) (by decide) ?_
        exact bl_case_13 S.1 S.2.2.2.2.2.2.2.2.2.2.2.2.2.2.1 hN hu hv hi hj7 hR next
      · refine bl_table (tgt := 538) dL_law_33 (by decide) (by decide) (off := 505) (by decide) (by decide) ?_
        exact bl_case_14 S.1 S.2.2.2.2.2.2.2.2.2.2.2.2.2.2.2.1 hN hu hv hi hj7 hR next
      · refine bl_table (tgt := 561) dL_law_33 (by decide) (by decide) (off := 528) (by decide) (by decide) ?_
        exact bl_case_15 S.1 S.2.2.2.2.2.2.2.2.2.2.2.2.2.2.2.2.1 hN hu hv hi hj7 hR next
      · refine bl_table (tgt := 584) dL_law_33 (by decide) (by decide) (off := 551) (by decide) (by decide) ?_
        exact bl_case_16 S.1 S.2.2.2.2.2.2.2.2.2.2.2.2.2.2.2.2.2.1 hN hu hv hi hj7 hR next
      · refine bl_table (tgt := 597) dL_law_33 (by decide) (by decide) (off := 564) (by decide) (by decide) ?_
        exact bl_case_17 S.1 S.2.2.2.2.2.2.2.2.2.2.2.2.2.2.2.2.2.2.1 hN hu hv hi hj7 hR next
      · refine bl_table (tgt := 630) dL_law_33 (by decide) (by decide) (off := 597) (by decide) (by decide) ?_
        exact bl_case_18 S.1 S.2.2.2.2.2.2.2.2.2.2.2.2.2.2.2.2.2.2.2.1 hN hu hv hi hj7 hR next
      · refine bl_table (tgt := 653) dL_law_33 (by decide) (by decide) (off := 620) (by decide) (by decide) ?_
        exact bl_case_19 S.1 S.2.2.2.2.2.2.2.2.2.2.2.2.2.2.2.2.2.2.2.2.1 hN hu hv hi hj7 hR next
      · refine bl_table (tgt := 686) dL_law_33 (by decide) (by decide) (off := 653) (by decide) (by decide) ?_
        exact bl_case_20 S.1 S.2.2.2.2.2.2.2.2.2.2.2.2.2.2.2.2.2.2.2.2.2.1 hN hu hv hi hj7 hR next
      · refine bl_table (tgt := 699) dL_law_33 (by decide) (by decide) (off := 666) (by decide) (by decide) ?_
        exact bl_case_21 S.1 S.2.2.2.2.2.2.2.2.2.2.2.2.2.2.2.2.2.2.2.2.2.2.1 hN hu hv hi hj7 hR next
      · refine bl_table (tgt := 722) dL_law_33 (by decide) (by decide) (off := 689) (by decide) (by decide) ?_
        exact bl_case_22 S.1 S.2.2.2.2.2.2.2.2.2.2.2.2.2.2.2.2.2.2.2.2.2.2.2.1 hN hu hv hi hj7 hR next
      · refine bl_table (tgt := 755) dL_law_33 (by decide) (by decide) (off := 722) (by decide) (by decide) ?_
        exact bl_case_23 S.1 S.2.2.2.2.2.2.2.2.2.2.2.2.2.2.2.2.2.2.2.2.2.2.2.2.1 hN hu hv hi hj7 hR next
      · refine bl_table (tgt := 798) dL_law_33 (by decide) (by decide) (off := 765) (by decide) (by decide) ?_
        exact bl_case_24 S.1 S.2.2.2.2.2.2.2.2.2.2.2.2.2.2.2.2.2.2.2.2.2.2.2.2.2.1 hN hu hv hi hj7 hR next
      · refine bl_table (tgt := 811) dL_law_33 (by decide) (by decide) (off := 778) (by decide) (by decide) ?_
        exact bl_case_25 S.1 S.2.2.2.2.2.2.2.2.2.2.2.2.2.2.2.2.2.2.2.2.2.2.2.2.2.2.1 hN hu hv hi hj7 hR next
      · refine bl_table (tgt := 824) dL_law_33 (by decide) (by decide) (off := 791) (by decide) (by decide) ?_
        exact bl_case_26 S.1 S.2.2.2.2.2.2.2.2.2.2.2.2.2.2.2.2.2.2.2.2.2.2.2.2.2.2.2.1 hN hu hv hi hj7 hR next
      · refine bl_table (tgt := 899) dL_law_33 (by decide) (by decide) (off := 866) (by decide) (by decide) ?_
        exact bl_case_27 S.1 S.2.2.2.2.2.2.2.2.2.2.2.2.2.2.2.2.2.2.2.2.2.2.2.2.2.2.2.2.1 hN hu hv hi hj7 hR next
      · refine bl_table (tgt := 962) dL_law_33 (by decide) (by decide) (off := 929) (by decide) (by decide) ?_
        exact bl_case_28 S.1 S.2.2.2.2.2.2.2.2.2.2.2.2.2.2.2.2.2.2.2.2.2.2.2.2.2.2.2.2.2.1 hN hu hv hi hj7 hR next
      · refine bl_table (tgt := 1005) dL_law_33 (by decide) (by decide) (off := 972) (by decide) (by decide) ?_
        exact bl_case_29 S.1 S.2.2.2.2.2.2.2.2.2.2.2.2.2.2.2.2.2.2.2.2.2.2.2.2.2.2.2.2.2.2.1 hN hu hv hi hj7 hR next
      · refine bl_table (tgt := 1028) dL_law_33 (by decide) (by decide) (off := 995) (by decide) (by decide) ?_
        exact bl_case_30 S.1 S.2.2.2.2.2.2.2.2.2.2.2.2.2.2.2.2.2.2.2.2.2.2.2.2.2.2.2.2.2.2.2.1 hN hu hv hi hj7 hR next
      · refine bl_table (tgt := 1111) dL_law_33 (by decide) (by decide) (off := 1078) (by decide) (by decide) ?_
        exact bl_case_31 S.1 S.2.2.2.2.2.2.2.2.2.2.2.2.2.2.2.2.2.2.2.2.2.2.2.2.2.2.2.2.2.2.2.2 hN hu hv hi hj7 hR next
