/** What many tests lay ready. */
final class Kitchen {
    private Kitchen() {
    }

    /** An object with nobody at the table, by a rule of one's own. */
    static FirstOne by(String takes, String hunger, String worth) {
        FirstOne x = new FirstOne();
        int text = Due.read(x, "takes " + takes + ";hunger " + hunger + ";worth " + worth + ";");
        Due.is("a text of " + takes + ", " + hunger + ", " + worth, text, 1);
        x.force(text);
        return x;
    }

    static void row(FirstOne x, int sheet, int sort, int... items) {
        x.sheet(sheet, sort, items.length);
        for (int i = 0; i < items.length; i++) {
            x.cell(sheet, i, items[i]);
        }
    }
}
