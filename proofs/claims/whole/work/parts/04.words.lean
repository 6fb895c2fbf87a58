/-! the words that every method may use -/
def kkeep (w : Cond) : Bool := match w with
  | .arrayClass .. => true
  | .classLink .. => true
  | .code .. => true
  | .constant .. => true
  | .constantLong .. => true
  | .fieldLink .. => true
  | .initialized .. => true
  | .instanceMethod .. => true
  | .instantiable .. => true
  | .lays .. => true
  | .laysFinal .. => true
  | .methodLink .. => true
  | .native .. => true
  | .selects .. => true
  | .static .. => true
  | _ => false
def gtbl : List Cond := lw_tbl.filter kkeep
theorem gtbl_good : gtbl.all goodWord = true := by decide +kernel
theorem gtbl_in {w : Cond} (h : w ∈ gtbl) : w ∈ lw_tbl := (List.mem_filter.mp h).1
theorem gt_at {w : Cond} (i : Nat) (h : gtbl[i]? = some w) : w ∈ gtbl := List.mem_of_getElem? h
theorem gt_goodIn {big : List Cond} {w : Cond} (hw : w ∈ gtbl) (hb : ∀ w ∈ gtbl, w ∈ big) : GoodIn big (w :: gtbl) := by
  intro v hv
  have h1 : v ∈ gtbl := by
    rcases List.mem_cons.mp hv with e | h
    · exact e ▸ hw
    · exact h
  exact ⟨hb v h1, good_of_word (List.all_eq_true.mp gtbl_good v h1)⟩
theorem uws_0 : ∀ w ∈ u_ws RX0 TX0 4, w ∈ gtbl := by
  have h : u_ws RX0 TX0 4 = [287, 288, 289, 290].filterMap (fun i => gtbl[i]?) := by decide +kernel
  intro w hw
  rw [h] at hw
  obtain ⟨i, -, hi⟩ := List.mem_filterMap.mp hw
  exact List.mem_of_getElem? hi
theorem uws_1 : ∀ w ∈ u_ws RX1 TX1 2, w ∈ gtbl := by
  have h : u_ws RX1 TX1 2 = [195, 196].filterMap (fun i => gtbl[i]?) := by decide +kernel
  intro w hw
  rw [h] at hw
  obtain ⟨i, -, hi⟩ := List.mem_filterMap.mp hw
  exact List.mem_of_getElem? hi
theorem uws_2 : ∀ w ∈ u_ws RX2 TX2 7, w ∈ gtbl := by
  have h : u_ws RX2 TX2 7 = [267, 268, 269, 270, 271, 272, 273].filterMap (fun i => gtbl[i]?) := by decide +kernel
  intro w hw
  rw [h] at hw
  obtain ⟨i, -, hi⟩ := List.mem_filterMap.mp hw
  exact List.mem_of_getElem? hi
theorem uws_3 : ∀ w ∈ u_ws RX3 TX3 10, w ∈ gtbl := by
  have h : u_ws RX3 TX3 10 = [140, 141, 142, 143, 144, 145, 146, 147, 148, 149].filterMap (fun i => gtbl[i]?) := by decide +kernel
  intro w hw
  rw [h] at hw
  obtain ⟨i, -, hi⟩ := List.mem_filterMap.mp hw
  exact List.mem_of_getElem? hi
theorem uws_4 : ∀ w ∈ u_ws RX4 TX4 11, w ∈ gtbl := by
  have h : u_ws RX4 TX4 11 = [241, 242, 243, 244, 245, 246, 247, 248, 249, 250, 251].filterMap (fun i => gtbl[i]?) := by decide +kernel
  intro w hw
  rw [h] at hw
  obtain ⟨i, -, hi⟩ := List.mem_filterMap.mp hw
  exact List.mem_of_getElem? hi
theorem uws_5 : ∀ w ∈ u_ws RX5 TX5 8, w ∈ gtbl := by
  have h : u_ws RX5 TX5 8 = [215, 216, 217, 218, 219, 220, 221, 222].filterMap (fun i => gtbl[i]?) := by decide +kernel
  intro w hw
  rw [h] at hw
  obtain ⟨i, -, hi⟩ := List.mem_filterMap.mp hw
  exact List.mem_of_getElem? hi
theorem uws_6 : ∀ w ∈ u_ws RX6 TX6 7, w ∈ gtbl := by
  have h : u_ws RX6 TX6 7 = [180, 181, 182, 183, 184, 185, 186].filterMap (fun i => gtbl[i]?) := by decide +kernel
  intro w hw
  rw [h] at hw
  obtain ⟨i, -, hi⟩ := List.mem_filterMap.mp hw
  exact List.mem_of_getElem? hi
theorem uws_7 : ∀ w ∈ u_ws RX7 TX7 12, w ∈ gtbl := by
  have h : u_ws RX7 TX7 12 = [303, 304, 305, 306, 307, 308, 309, 310, 311, 312, 313, 314].filterMap (fun i => gtbl[i]?) := by decide +kernel
  intro w hw
  rw [h] at hw
  obtain ⟨i, -, hi⟩ := List.mem_filterMap.mp hw
  exact List.mem_of_getElem? hi
theorem uws_8 : ∀ w ∈ u_ws RX8 TX8 51, w ∈ gtbl := by
  have h : u_ws RX8 TX8 51 = [851, 852, 853, 854, 855, 856, 857, 858, 859, 860, 861, 862, 863, 864, 865, 866, 867, 868, 869, 870, 871, 872, 873, 874, 875, 876, 877, 878, 879, 880, 881, 882, 883, 884, 885, 886, 887, 888, 889, 890, 891, 892, 893, 894, 895, 896, 897, 898, 899, 900, 901].filterMap (fun i => gtbl[i]?) := by decide +kernel
  intro w hw
  rw [h] at hw
  obtain ⟨i, -, hi⟩ := List.mem_filterMap.mp hw
  exact List.mem_of_getElem? hi
