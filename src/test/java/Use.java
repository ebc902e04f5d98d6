/** Short forms of long runs of calls. */
final class Use {
    private Use() {
    }

    static ConstraintText withPins(String... names) {
        ConstraintText text = new ConstraintText();
        for (int pin = 0; pin < names.length; pin++) {
            grow(text, pin, names[pin]);
        }
        return text;
    }

    static void grow(ConstraintText text, int pin, String more) {
        for (char c : more.toCharArray()) {
            text.name(pin, c);
        }
    }

    static void put(ConstraintText text, String more) {
        for (int i = 0; i < more.length(); i += 4) {
            int four = 0;
            for (int j = i; j < i + 4; j++) {
                four = four << 8 | (j < more.length() ? more.charAt(j) : 0);
            }
            text.units(four);
        }
    }

    static int read(ConstraintText text, String rows) {
        put(text, rows);
        return text.read();
    }

    static String printed(ConstraintText text) {
        StringBuilder all = new StringBuilder();
        int u = text.write(0);
        while (u != ConstraintText.NONE) {
            all.append((char) u);
            u = text.write(all.length());
        }
        return all.toString();
    }
}
