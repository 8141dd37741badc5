import java.io.IOException;
import java.lang.reflect.Constructor;
import java.lang.reflect.Executable;
import java.lang.reflect.Field;
import java.lang.reflect.Method;
import java.lang.reflect.Modifier;
import java.nio.file.Files;
import java.nio.file.Path;
import java.util.ArrayList;
import java.util.List;
import java.util.regex.Matcher;
import java.util.regex.Pattern;

/** The public face, its sections, and what the document says of each call's arguments and answer alone. */
final class FaceEdges {
    private static final Path SOURCE = Path.of("src/main/java/DogBoard.java");
    private static final Pattern HEADING = Pattern.compile("(?m)^`([^`]+)`: ");
    private static final Pattern SECTION = Pattern.compile("Ahead of the calls (`.*`) the interface says: ---- ([a-z, ]+)");
    private static final Pattern NAME = Pattern.compile("`(\\w+)`");

    private FaceEdges() {
    }

    static void run() throws IOException {
        answersOfText();
        answersOfNumbers();
        answersOfActions();
        answersOfWhatWouldBe();
        textSection();
        whatThereIsSection();
        actionsSection();
        wouldBeSection();
        scriptsSection();
        slotsSection();
        if (Document.isThere()) {
            theFaceLineByLine();
            theFaceAndNothingElse();
            eachPromisesSignature();
            sectionsInTheirOrder();
        }
    }

    // ---- what is said of each call alone

    private static void answersOfText() {
        Check.sentence(1, "Creates a board without notices.");
        Check.due("dogs of a new board", Edges.fresh().about(0), 0);
        Check.sentence(2, "Appends a character to the text buffer.");
        DogBoard b = new DogBoard();
        String text = "Mh12";
        for (int i = 0; i < text.length(); i++) {
            int c = text.charAt(i);
            Check.due("append", () -> b.append(c), i + 1);
        }
        Check.due("load of what was appended", () -> b.load(), 0);
        Check.due("its hours", b.about(3), 12);
    }

    private static void answersOfNumbers() {
        Check.sentence(6, "Returns a number.");
        Check.due("the dogs of a busy board", Edges.busy().about(0), 3);
        Check.sentence(6, "Returns that number.");
        Check.due("the sightings", Edges.busy().about(2), 5);
        Check.sentence(7, "Returns a number of a dog.");
        Check.sentence(7, "- `d`: dog");
        Check.due("the marks of the dog 0", Edges.busy().dogOf(0, 0), 15);
        Check.due("the marks of the dog 1", Edges.busy().dogOf(1, 0), 240);
        Check.sentence(7, "Returns that number.");
        Check.due("the pace of the dog 1", Edges.busy().dogOf(1, 1), 2);
        Check.sentence(8, "Returns a number of a sighting.");
        Check.sentence(8, "- `s`: sighting");
        Check.due("the finder of the sighting 0", Edges.busy().sightingOf(0, 0), 1);
        Check.due("the finder of the sighting 4", Edges.busy().sightingOf(4, 0), 5);
        Check.sentence(8, "Returns that number.");
        Check.due("the corner of the sighting 4", Edges.busy().sightingOf(4, 1), 10);
        Check.sentence(9, "- `f`: finder");
        Check.due("who found the dog 2", Edges.busy().purse(7), 7);
        Check.due("who saw it", Edges.busy().purse(5), 7);
        Check.sentence(9, "Returns the coins.");
        Check.due("two finders' coins are what was given", Edges.busy().about(5), 14);
        Check.sentence(10, "Tells how far two corners are apart.");
        Check.sentence(10, "- `a`: corner");
        Check.due("from 4 to 11", Edges.fresh().apart(4, 11, 0), 4);
        Check.due("from 0 to 11", Edges.fresh().apart(0, 11, 0), 5);
        Check.sentence(10, "- `b`: corner");
        Check.due("from 0 to 3", Edges.fresh().apart(0, 3, 1), 3);
        Check.due("from 0 to 7", Edges.fresh().apart(0, 7, 1), 4);
    }

    private static void answersOfActions() {
        DogBoard b = Edges.busy();
        Check.sentence(11, "- `corner`: where");
        b.lose(8, 1, 9, 1);
        Check.due("where it was lost", b.dogOf(3, 2), 9);
        Check.sentence(12, "A finder tells a sighting, at an hour.");
        Check.sentence(12, "- `corner`: where");
        b.sight(6, 3, 90, 31, false);
        Check.due("by the finder 6", b.sightingOf(5, 0), 6);
        Check.due("at the corner 3", b.sightingOf(5, 1), 3);
        Check.due("at the hour 0", b.sightingOf(5, 2), 0);
        Check.sentence(13, "- `d`: dog");
        Check.sentence(13, "- `corner`: where");
        b.find(1, 4, 2);
        Check.due("the dog 1 is found", b.dogOf(1, 5), 0);
        Check.due("the dog 0 is not", b.dogOf(0, 5), 1);
        Check.due("where", b.dogOf(1, 8), 2);
        Check.sentence(14, "- `a`: corner");
        Check.sentence(14, "- `b`: corner");
        b.close(7, 11, true);
        Check.due("the street between 7 and 11", b.apart(7, 11, 0), 3);
        Check.due("the street between 10 and 11", b.apart(10, 11, 0), 1);
        Check.sentence(16, "Changes a setting.");
        b.set(0, 30);
        Check.due("what was set", () -> b.set(0, 31), 30);
        b.set(1, 6);
        Check.due("what else was set", () -> b.set(1, 7), 6);
    }

    private static void answersOfWhatWouldBe() {
        DogBoard b = new DogBoard();
        b.lose(3, 1, 2, 10);
        b.lose(12, 1, 9, 20);
        Check.sentence(18, "Tells where a missing dog can be now.");
        Check.sentence(18, "- `d`: dog");
        Check.due("the dog 0", () -> b.canBe(0), 1 << 2);
        Check.due("the dog 1", () -> b.canBe(1), 1 << 9);
        b.hours(1);
        Check.due("the dog 0 an hour later", () -> b.canBe(0), 1 << 2 | 1 << 1 | 1 << 3 | 1 << 6);
        Check.sentence(19, "Finds the corner to be watched.");
        Check.due("of the greatest reward, the lowest", () -> b.watch(), 5);
        Check.sentence(20, "Tells which dog marks would mean.");
        Check.due("the marks of the dog 0", () -> b.meant(3), 0);
        Check.due("the marks of the dog 1", () -> b.meant(12), 1);
        Check.sentence(21, "Tells what a finder would get.");
        Check.sentence(21, "- `d`: dog");
        Check.due("of the dog 0", () -> b.ifFound(0, 5, 0, 5), 10);
        Check.due("of the dog 1", () -> b.ifFound(1, 5, 0, 5), 20);
        Check.sentence(21, "- `corner`: where");
        b.sight(6, 2, 3, 0, false);
        Check.due("near by: 2 of 5", () -> b.ifFound(0, 5, 2, 6), 4);
        Check.due("far away: 1 of 4", () -> b.ifFound(0, 5, 8, 6), 2);
    }

    // ---- the sections of the interface

    private static void leavesTheState(String what, DogBoard b, Edges.Question question) {
        String before = Check.stateOf(b);
        question.of(b);
        Check.same("behind " + what, Check.stateOf(b), before);
        Check.due("undo behind " + what, () -> b.undo(), 13);
    }

    private static void textSection() {
        Check.sentence(0, "Ahead of the calls `append`, `clearText`, `errorPosition`, `load` the interface says: ---- text.");
        leavesTheState("append", Edges.busy(), b -> b.append('h'));
        leavesTheState("clearText", Edges.busy(), b -> b.clearText());
        leavesTheState("errorPosition", Edges.busy(), b -> b.errorPosition());
        Check.due("load does the commands of the text", () -> Edges.busy().load(), 0);
    }

    private static void whatThereIsSection() {
        Check.sentence(0, "Ahead of the calls `about`, `dogOf`, `sightingOf`, `purse`, `apart` the interface says: "
                + "---- what there is.");
        Edges.onlyTells("about", Edges::busy, b -> b.about(7), 160);
        Edges.onlyTells("dogOf", Edges::busy, b -> b.dogOf(2, 8), 10);
        Edges.onlyTells("sightingOf", Edges::busy, b -> b.sightingOf(1, 2), 10);
        Edges.onlyTells("purse", Edges::busy, b -> b.purse(5), 7);
        Edges.onlyTells("apart", Edges::busy, b -> b.apart(8, 9, 1), 3);
        Edges.onlyTells("apart, by the other way", Edges::busy, b -> b.apart(8, 9, 0), 3);
    }

    private static void actionsSection() {
        Check.sentence(0, "Ahead of the calls `lose`, `sight`, `find`, `close`, `hours`, `set`, `undo` the interface says: "
                + "---- actions.");
        Edges.Question[] actions = {
            b -> b.lose(1, 1, 0, 1), b -> b.sight(0, 0, 0, 0, true), b -> b.find(0, 0, 0), b -> b.close(0, 1, true),
            b -> b.hours(1), b -> b.set(0, 1)};
        for (Edges.Question action : actions) {
            DogBoard b = Edges.lostAt(0, 1, 1);
            action.of(b);
            Check.due("undo of an action", () -> b.undo(), 2);
            Check.due("undo of the hour", () -> b.undo(), 1);
        }
    }

    private static void wouldBeSection() {
        Check.sentence(0, "Ahead of the calls `canBe`, `watch`, `meant`, `ifFound` the interface says: ---- what would be; "
                + "these and all following methods up to the save slots change nothing.");
        Edges.onlyTells("canBe", Edges::busy, b -> b.canBe(1), 0b1111_1111_1111);
        Edges.onlyTells("watch", Edges::busy, b -> b.watch(), 0);
        Edges.onlyTells("meant", Edges::busy, b -> b.meant(240), 1);
        Edges.onlyTells("ifFound", Edges::busy, b -> b.ifFound(0, 1, 5, 1), 78);
    }

    private static void scriptsSection() {
        Check.sentence(0, "Ahead of the calls `runScript`, `simulate` the interface says: ---- scripts, simulations.");
        Edges.onlyTells("runScript", Edges::busy, b -> b.runScript(2, 311050_500000L), -1);
        int simulated = Edges.busy().simulate(12345, 60);
        Edges.onlyTells("simulate", Edges::busy, b -> b.simulate(12345, 60), simulated);
    }

    private static void slotsSection() {
        Check.sentence(0, "Ahead of the calls `save`, `restore` the interface says: ---- save slots.");
        leavesTheState("save", Edges.busy(), b -> b.save(0));
        DogBoard b = Edges.busy();
        Check.due("save", () -> b.save(0), 31);
        Check.due("restore of the other one", () -> b.restore(1), 30);
        Check.due("restore of what was saved", () -> b.restore(0), 31);
    }

    // ---- the face itself

    /** A signature as the document writes it, without the names of its parameters. */
    private static String withoutNames(String signature) {
        return signature.replaceAll("(int|long|boolean) \\w+(?=[,)])", "$1");
    }

    private static String signatureOf(Executable call) {
        List<String> types = new ArrayList<>();
        for (Class<?> type : call.getParameterTypes()) {
            types.add(type.getSimpleName());
        }
        List<String> exceptions = new ArrayList<>();
        for (Class<?> exception : call.getExceptionTypes()) {
            exceptions.add(exception.getSimpleName());
        }
        String answer = call instanceof Method method ? method.getReturnType().getSimpleName() + " " : "";
        String name = call instanceof Method ? call.getName() : call.getDeclaringClass().getSimpleName();
        return answer + name + "(" + String.join(", ", types) + ")"
                + (exceptions.isEmpty() ? "" : " throws " + String.join(", ", exceptions));
    }

    private static List<String> faceOfTheClass() throws ReflectiveOperationException {
        List<String> face = new ArrayList<>();
        face.add(Modifier.toString(DogBoard.class.getModifiers()) + " class " + DogBoard.class.getName() + " {");
        for (Field field : DogBoard.class.getFields()) {
            face.add(Modifier.toString(field.getModifiers()) + " " + field.getType() + " " + field.getName() + " = "
                    + field.get(null) + ";");
        }
        for (Constructor<?> constructor : DogBoard.class.getDeclaredConstructors()) {
            face.add(Modifier.toString(constructor.getModifiers()) + " " + signatureOf(constructor) + ";");
        }
        for (Method method : DogBoard.class.getDeclaredMethods()) {
            if (Modifier.isPublic(method.getModifiers())) {
                face.add(Modifier.toString(method.getModifiers()) + " " + signatureOf(method) + ";");
            }
        }
        return face;
    }

    private static List<String> faceOfTheDocument() throws IOException {
        List<String> face = new ArrayList<>();
        for (String line : Document.theFace().split("\n")) {
            if (!line.isBlank() && !line.equals("}")) {
                face.add(line.trim());
            }
        }
        return face;
    }

    private static List<String> faceOfTheClassOrNone() {
        try {
            return faceOfTheClass();
        } catch (ReflectiveOperationException e) {
            return List.of();
        }
    }

    private static void theFaceLineByLine() throws IOException {
        List<String> face = faceOfTheClassOrNone();
        for (String line : faceOfTheDocument()) {
            Check.sentence(0, line);
            Check.isTrue("the class has this line", face.contains(withoutNames(line)));
        }
    }

    private static void theFaceAndNothingElse() throws IOException {
        Check.due("lines of the face", faceOfTheClassOrNone().size(), faceOfTheDocument().size());
    }

    private static void eachPromisesSignature() throws IOException {
        List<String> face = faceOfTheClassOrNone();
        for (int promise = 1; promise <= Document.PROMISES; promise++) {
            Matcher heading = HEADING.matcher(Document.section(promise));
            Check.isTrue("the promise " + promise + " has a signature", heading.find());
            String signature = heading.group(1);
            Check.sentence(promise, "`" + signature + "`:");
            Check.isTrue("the class has it", face.contains("public " + withoutNames(signature) + ";"));
        }
    }

    /** Each section's calls stand in the class behind the words that the document says, and ahead of the next ones. */
    private static void sectionsInTheirOrder() throws IOException {
        String source = Files.readString(SOURCE);
        Matcher section = SECTION.matcher(Document.section(0));
        int sections = 0;
        for (; section.find(); sections++) {
            String words = "// ---- " + section.group(2);
            Check.sentence(0, section.group());
            int start = source.indexOf(words + "\n");
            int end = source.indexOf("// ---- ", start + 1);
            Check.isTrue("the class has " + words, start >= 0);
            int before = start;
            for (Matcher name = NAME.matcher(section.group(1)); name.find();) {
                int at = source.indexOf("public int " + name.group(1) + "(");
                Check.isTrue(name.group(1) + " stands in its place", at > before && (at < end || end < 0));
                before = at;
            }
        }
        Check.due("sections", sections, 6);
    }
}
