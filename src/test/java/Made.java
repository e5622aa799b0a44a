/** Objects for the tests, made from short texts. */
final class Made {
    private Made() {
    }

    static LabelPeople withRows(int count) {
        LabelPeople x = new LabelPeople();
        for (int k = 0; k < count; k++) {
            x.row(k, 0, 0, 0);
        }
        return x;
    }

    /** Each text is what one person says of rows 0, 1, ..: a digit, or a point where it says nothing. */
    static LabelPeople withWords(String... words) {
        int rows = 0;
        for (String word : words) {
            rows = Math.max(rows, word.length());
        }
        LabelPeople x = withRows(rows);
        for (int person = 0; person < words.length; person++) {
            for (int row = 0; row < words[person].length(); row++) {
                char c = words[person].charAt(row);
                if (c != '.') {
                    x.label(person, row, c - '0');
                }
            }
        }
        return x;
    }

    /** One row: the text is what persons 0, 1, .. say of it, a point where one says nothing. */
    static LabelPeople withRow(String word) {
        return withWords(word.split(""));
    }

    /** A person with so many labels on gold rows of which so many are the known ones; the rows are there. */
    static void record(LabelPeople x, int person, int right, int all) {
        for (int row = 0; row < all; row++) {
            x.label(person, row, row < right ? 0 : 1);
            x.gold(row, 0);
        }
    }
}
