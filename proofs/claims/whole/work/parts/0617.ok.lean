theorem am_k16 : (List.range 4).all (fun k => am_okM (196 + k)) = true := by decide +kernel
