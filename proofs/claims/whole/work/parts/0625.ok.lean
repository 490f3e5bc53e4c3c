theorem am_k24 : (List.range 8).all (fun k => am_okM (245 + k)) = true := by decide +kernel
