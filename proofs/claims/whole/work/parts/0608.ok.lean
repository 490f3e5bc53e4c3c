theorem am_k7 : (List.range 13).all (fun k => am_okM (80 + k)) = true := by decide +kernel
