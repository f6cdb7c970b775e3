import java.util.List;
import java.util.regex.Pattern;

/** Sentences of one part of the document; behind each sentence the runs of calls that would break if it were broken. */
abstract class Sentences {
    static final String FIRST_NAMED = "Of several refusals that a call names the first one named is answered.";
    private static final int MOST_CALLS = 512;
    private static final Pattern MORE = Pattern.compile("#\\+(\\d+)");

    private final Checks checks;
    private final Document document;
    private String section = "";
    private String sentenceSection = "";
    private String sentence = "";
    private boolean isHeld = true;

    Sentences(Checks checks, Document document) {
        this.checks = checks;
        this.document = document;
    }

    abstract void all();

    /** The section, as Document names it, from which the next sentences come. */
    final void section(String name) {
        section = name;
    }

    /** What the next runs hold, in the document's own words. */
    final void sentence(String words) {
        startSentence(section, words);
        checks.part(section + ", \"" + sentence + "\"");
        checks.due("the document says so", document.has(section, sentence), true);
    }

    /** The next runs hold the order of the refusals that the section names. */
    final void firstNamed() {
        startSentence("terms", FIRST_NAMED);
        checks.part(section + ", by terms 4, \"" + sentence + "\"");
    }

    private void startSentence(String fromSection, String words) {
        endSentence();
        sentenceSection = fromSection;
        sentence = words;
        isHeld = false;
    }

    final void endSentence() {
        checks.due("a run holds it", isHeld, true);
    }

    /** Calls on a new object, one behind the other. */
    final void run(String... texts) {
        List<Call> calls = Call.all(String.join(" ", texts));
        checks.due("calls are no more than an object is used for", calls.size() <= MOST_CALLS, true);
        RingPost post = new RingPost();
        long[] answers = new long[calls.size()];
        StringBuilder before = new StringBuilder();
        for (int i = 0; i < answers.length; i++) {
            Call call = calls.get(i);
            answers[i] = call.answerOf(post);
            checks.due(before + call.text, answers[i], call.isDue(answers[i]), call.dueAsText());
            before.append(call.text).append('=').append(answers[i]).append(' ');
        }
        Refused.changesNothing(checks, calls, answers);
        document.hold(sentenceSection, sentence);
        isHeld = true;
    }

    /** The calls once for each number; it stands where # does, and so much more of it where #+ does. */
    static String each(int from, int to, String calls) {
        StringBuilder all = new StringBuilder();
        for (int i = from; i <= to; i++) {
            int number = i;
            String added = MORE.matcher(calls)
                .replaceAll(part -> String.valueOf(number + Integer.parseInt(part.group(1))));
            all.append(added.replace("#", String.valueOf(i))).append(' ');
        }
        return all.toString();
    }

    /** As each(), without one of the numbers. */
    static String eachBut(int without, int from, int to, String calls) {
        return each(from, without - 1, calls) + each(Math.max(from, without + 1), to, calls);
    }

    /** Rings 0 and 1 of so many slots; readers 0 .. 6 of kinds 1 .. 7 in ring 0, with ring 1 (the GATE: reader 1). */
    static String allKinds(int slots) {
        return "ring(" + slots + "*2)=0|1 reader(1..7,0,1)=0..6 ";
    }

    /** A ring of so many slots and readers of these kinds (told as a Call tells them) in it; then the post begins. */
    static String begun(int slots, String kinds) {
        return "ring(" + slots + ")=0 reader(" + kinds + ",0,0) begin()=1 ";
    }

    /** Claims q .. last of a ring, of one stamp and key, each one published. */
    static String post(int ring, int q, int last, long stamp, int key) {
        return each(q, last, "claim(" + ring + "," + stamp + ")=# publish(" + ring + ",#," + key + ",0)=1");
    }
}
