/** Makes objects, and looks at all that calls can tell of them, with no more calls than an object is promised for. */
final class Look {
    /** Calls that bring a new object to where a test begins. */
    interface Setup {
        void on(YoungestHouse x);

        default Setup then(Setup more) {
            return x -> {
                on(x);
                more.on(x);
            };
        }
    }

    private Look() {
    }

    static void write(YoungestHouse x, String text) {
        for (int i = 0; i < text.length(); i++) x.write(text.charAt(i));
    }

    static void tell(YoungestHouse x, String text) {
        x.wipe();
        write(x, text);
    }

    static Setup town(String text) {
        return x -> {
            tell(x, text);
            x.town();
        };
    }

    static YoungestHouse made(Setup setup) {
        YoungestHouse x = new YoungestHouse();
        setup.on(x);
        return x;
    }

    /** All that can be asked of houses and children, as one text; not how many ACTS there are. */
    static String state(YoungestHouse x) {
        StringBuilder all = new StringBuilder();
        for (int what = 0; what < 9; what++) if (what != 6) all.append(x.about(what)).append(' ');
        for (int c = 0; c < 7; c++) {
            for (int what = 0; what < 5; what++) all.append(x.child(c, what)).append(' ');
            all.append(x.gets(c)).append(';');
        }
        for (int h = 0; h < 3; h++) {
            for (int side = 0; side < 3; side++) all.append(x.heirs(h, side)).append(' ');
        }
        for (int what = 0; what < 5; what++) all.append(x.sides(what)).append(' ');
        return all.toString();
    }

    static String all(YoungestHouse x) {
        return x.about(6) + " acts; " + state(x);
    }

    /** All that any calls can tell: behind each undo, of each slot, of THE SEED, SEEN and THE TEXT; each on a new object. */
    static String deep(Setup setup) {
        StringBuilder all = new StringBuilder(all(made(setup)));
        int acts = made(setup).about(6);
        for (int undone = 1; undone <= acts; undone++) {
            YoungestHouse x = made(setup);
            for (int i = 0; i < undone; i++) all.append("\nundo ").append(x.undo());
            all.append(' ').append(state(x));
        }
        for (int slot = 0; slot < 2; slot++) {
            YoungestHouse x = made(setup);
            all.append("\nagain ").append(x.again(slot)).append(' ').append(all(x));
        }
        all.append("\nseed ").append(made(setup).seed(0));
        YoungestHouse x = made(setup);
        all.append("\nunsee ").append(x.unsee()).append(" fault ").append(x.fault());
        all.append(" town ").append(x.town()).append(' ').append(state(x));
        return all.append(" wipe ").append(x.wipe()).toString();
    }
}
