theorem am_k2 : (List.range 6).all (fun k => am_okM (26 + k)) = true := by decide +kernel
