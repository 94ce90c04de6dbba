/** Promise 1, with the beginning as "Terms" says it. */
public final class NewObjectTest {
    public static void main(String[] args) {
        Due due = new Due();
        everyCharacterIsPlain(due);
        objectsAreApart(due);
        due.end("NewObjectTest");
    }

    private static void everyCharacterIsPlain(Due due) {
        for (int c = 0; c < 48; c++) {
            ScriptText x = new ScriptText();
            String about = "of character " + c + " ";
            Given.text(x, 0, c, (c + 1) % 48, c);
            String itself = "3: " + c + " " + (c + 1) % 48 + " " + c;
            for (int how = 0; how < 4; how++) {
                due.is(about + "normal " + how, Given.normal(x, 0, how), itself);
                due.yes(about + "isNormal " + how, x.isNormal(0, how));
                due.is(about + "cased " + how, Given.cased(x, 0, how), itself);
            }
            due.is(about + "breaks(0, 0)", x.breaks(0, 0), 15);
            due.is(about + "breaks(0, 1)", x.breaks(0, 1), 15);
            due.is(about + "levels", Given.levels(x, 0, 0), "000");
            due.is(about + "levels", Given.levels(x, 0, 1), "222");
            due.is(about + "key 1", Given.key(x, 0, 1), (c + 1) + " " + ((c + 1) % 48 + 1) + " " + (c + 1));
            due.is(about + "key 2", Given.key(x, 0, 2), "1 1 1");
            due.is(about + "key 3", Given.key(x, 0, 3), "1 1 1");
        }
    }

    private static void objectsAreApart(Due due) {
        ScriptText x = new ScriptText();
        ScriptText y = new ScriptText();
        Given.described(x, 5, 5, 6, 0);
        Given.text(x, 0, 5);
        due.is("the other object's length", y.cased(0, 0), 0);
        Given.text(y, 0, 5);
        due.is("the other object's lower case", Given.cased(y, 0, 0), "1: 5");
        due.is("its own lower case", Given.cased(x, 0, 0), "1: 6");
    }
}
