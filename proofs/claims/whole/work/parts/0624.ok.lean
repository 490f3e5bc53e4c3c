theorem am_k23 : (List.range 7).all (fun k => am_okM (238 + k)) = true := by decide +kernel
