/** Words and entries told by letters, 'a' being 1; '.' is a separator and '*' a comment. */
final class Letters {
    private Letters() { }

    static int word(String letters) {
        int n = 0;
        for (char letter : letters.toCharArray()) {
            n = n * 27 + (letter - 'a' + 1);
        }
        return n;
    }

    static int entry(String e) {
        return e.equals(".") ? 0 : e.equals("*") ? -1 : word(e);
    }

    static int[] entries(String all) {
        if (all.isEmpty()) {
            return new int[0];
        }
        String[] parts = all.split(" ");
        int[] entries = new int[parts.length];
        for (int i = 0; i < parts.length; i++) {
            entries[i] = entry(parts[i]);
        }
        return entries;
    }

    static String told(int w) {
        if (w == 0 || w == -1) {
            return w == 0 ? "." : "*";
        }
        StringBuilder letters = new StringBuilder();
        for (int rest = w; rest > 0; rest /= 27) {
            letters.append((char) ('a' - 1 + rest % 27));
        }
        return letters.length() == 0 ? "(" + w + ")" : letters.reverse().toString();
    }
}
