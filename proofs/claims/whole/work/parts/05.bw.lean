def BW : List Cond := lw_tbl.filter goodWord
theorem bw_mem {w : Cond} (h : w ∈ lw_tbl) (g : goodWord w = true) : w ∈ BW := List.mem_filter.mpr ⟨h, g⟩
theorem bw_good {y : MethodName} {cc : ByteArray} {n : Nat} {r : Option FieldType} (hc : Cond.code y cc n r ∈ BW) : GoodIn BW (Cond.code y cc n r :: BW) := fun w h => (List.mem_cons.mp h).elim (fun q => ⟨q ▸ hc, good_of_word (by rw [q]; exact (List.mem_filter.mp hc).2)⟩) (fun q => ⟨q, good_of_word (List.mem_filter.mp q).2⟩)
