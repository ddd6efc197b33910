theorem op_moor {VC VM : VV} (h : Rel VC VM) : Both (f_X3_moor VC) (f_X4_moor VM) := sorry
