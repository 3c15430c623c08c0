noncomputable section
theorem tr_19 : lz_D 1432 (lx_Vf 19) lx_O := sorry
end
