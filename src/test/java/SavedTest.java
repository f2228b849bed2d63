/** Promises 39 and 40: saved states. */
public final class SavedTest {
    public static void main(String[] args) {
        slots();
        whatIsSaved();
        whatIsKept();
        Expect.end("SavedTest");
    }

    private static void slots() {
        NewsReel x = new NewsReel();
        Expect.throwsArgument("save(2)", () -> x.save(2));
        Expect.throwsArgument("save(-1)", () -> x.save(-1));
        Expect.throwsArgument("restore(2)", () -> x.restore(2));
        Expect.throwsArgument("restore(-1)", () -> x.restore(-1));
        x.save(1);
        Expect.throwsState("restore(0)", () -> x.restore(0));
        x.setSlack(5);
        x.save(0);
        x.setSlack(6);
        x.restore(1);
        Expect.due("SLACK of slot 1", x.count(7), 0);
        x.restore(0);
        Expect.due("SLACK of slot 0", x.count(7), 5);
        x.setSlack(7);
        x.restore(0);
        Expect.due("SLACK of slot 0 again", x.count(7), 5);
        x.setSlack(8);
        x.save(0);
        x.setSlack(9);
        x.restore(0);
        Expect.due("SLACK of slot 0 replaced", x.count(7), 8);
    }

    private static void whatIsSaved() {
        String library = "shot 3 50;shot 1 20;map rome;ban 1 2 3;week 2;speed 3;pause 4;least 5;slack 6;";
        NewsReel x = Expect.made(library, "shot 0 from 3 to 9;mix 2{map 0 9;};", "rome is. old.");
        x.save(0);
        Expect.load(x, "shot 0 1;map a;map b;");
        Expect.edit(x, "shot 0;");
        Expect.say(x, "a.");
        x.restore(0);
        int[] due = {2, 1, 1, 2, 3, 4, 5, 6, 2, 3, 3, 4, 2, 0};
        for (int what = 0; what < due.length; what++) {
            Expect.due("count " + what, x.count(what), due[what]);
        }
        Expect.due("a shot's LENGTH", x.shot(0, 1), 50);
        Expect.due("a banned shot", x.shot(1, 2), 1);
        Expect.due("a map's NAME", x.map(0, 0), 4);
        Expect.due("a ban", x.ban(0, 2), 3);
        Expect.due("a word's map", x.word(0, 4), 0);
        Expect.due("the voice's end", x.reel(2), 16);
        Expect.due("END", x.reel(1), 16);
        Expect.dueText("the reel", Expect.reelText(x), "shot 0 from 3 to 9;mix 2{map 0 9;};");
        Expect.dueText("the voice", Expect.voiceText(x), "rome is. old.");
        Expect.due("edit with the shots that were saved", Expect.edit(x, "shot 1;"), 1);
    }

    private static void whatIsKept() {
        NewsReel x = Expect.made("shot 0 9;", "shot 0;", "a.");
        x.save(0);
        x.setSlack(3);
        x.writeReel();
        Expect.edit(x, "shot 5;");
        Expect.type(x, "shot 0;shot 0;");
        x.restore(0);
        Expect.due("undo after restore", x.undo(), -1);
        Expect.due("acts that can be undone", x.count(13), 0);
        Expect.due("SLACK", x.count(7), 0);
        Expect.due("acts done", x.account(0), 3);
        Expect.due("refusals", x.account(1), 1);
        Expect.due("errorCode", x.errorCode(), 2);
        Expect.due("errorPosition", x.errorPosition(), 5);
        Expect.dueText("output", Expect.output(x), "shot 0;");
        Expect.due("the text", x.edit(), 2);
        Expect.due("undo of the act after restore", x.undo(), 0);
        Expect.due("pieces", x.reel(0), 1);
        x.setSlack(4);
        x.save(1);
        Expect.due("acts that can be undone after save", x.count(13), 1);
        Expect.due("undo after save", x.undo(), 0);
        x.restore(1);
        Expect.due("SLACK of slot 1", x.count(7), 4);
    }
}
