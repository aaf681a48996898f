import java.io.IOException;
import java.lang.management.ManagementFactory;
import java.lang.reflect.Constructor;
import java.lang.reflect.Field;
import java.lang.reflect.Member;
import java.lang.reflect.Method;
import java.lang.reflect.Modifier;
import java.nio.charset.StandardCharsets;
import java.nio.file.Files;
import java.nio.file.Path;
import java.util.ArrayList;
import java.util.Arrays;
import java.util.HashSet;
import java.util.List;
import java.util.Set;
import java.util.regex.Matcher;
import java.util.regex.Pattern;

/** The document's public face and what of the rules of LANGUAGE.md, and of the room, can be seen from outside. */
public final class FaceTest {
    private static final Path SOURCE = Path.of("src/main/java/EscrowLand.java");

    /** The name, then how many ints it takes; odds alone answers a long. */
    private static final String FACE = "row 3 set 3 copy 5 drop 1 feed 1 land 0 fault 0 undo 0 days 1 putBack 1 send 2 "
        + "allow 1 thing 2 holds 1 ahead 2 offAhead 1 lost 1 cheapest 3 match 1 gain 1 seldom 2 round 0 stealth 3 "
        + "who 4 leastMay 1 odds 4 store 1 drawn 3 image 1 restore 1 kind 1 as 2 ask 2 trace 1 count 1 status 0";

    private static final Due d = new Due();

    public static void main(String[] args) throws IOException {
        methodsAreTheDocuments();
        constantsAreTheDocuments();
        nothingElseIsSeen();
        classesInsideAreSmall();
        sourceKeepsToTheLanguage();
        callsMakeNothing();
        d.end();
    }

    private static void methodsAreTheDocuments() {
        Set<String> seen = new HashSet<>();
        Set<String> hidden = new HashSet<>();
        for (Method method : EscrowLand.class.getDeclaredMethods()) {
            boolean ints = Arrays.stream(method.getParameterTypes()).allMatch(type -> type == int.class);
            Class<?> answer = method.getName().equals("odds") ? long.class : int.class;
            if (!Modifier.isPublic(method.getModifiers())) {
                hidden.add(method.getName());
            } else if (ints && method.getReturnType() == answer && !Modifier.isStatic(method.getModifiers())) {
                seen.add(method.getName() + " " + method.getParameterCount());
            } else {
                seen.add("another method: " + method);
            }
        }
        Set<String> want = new HashSet<>();
        Matcher one = Pattern.compile("(\\w+) (\\d)").matcher(FACE);
        while (one.find()) {
            want.add(one.group());
            d.holds("no private method bears the name " + one.group(1), !hidden.contains(one.group(1)));
        }
        d.due("how many methods the document has", want.size(), 36);
        d.holds("the public methods are the document's: " + seen, seen.equals(want));
    }

    private static void constantsAreTheDocuments() {
        d.due("NONE", EscrowLand.NONE, -1000000);
        d.due("BAD", EscrowLand.BAD, -1000001);
        d.due("STATE", EscrowLand.STATE, -1000002);
        d.due("FULL", EscrowLand.FULL, -1000003);
        d.due("public fields", EscrowLand.class.getFields().length, 4);
    }

    private static void nothingElseIsSeen() {
        int modifiers = EscrowLand.class.getModifiers();
        d.holds("public and final", Modifier.isPublic(modifiers) && Modifier.isFinal(modifiers));
        List<Member> members = new ArrayList<>(Arrays.asList(EscrowLand.class.getDeclaredFields()));
        members.addAll(Arrays.asList(EscrowLand.class.getDeclaredMethods()));
        for (Member member : members) {
            int m = member.getModifiers();
            d.holds("public or private: " + member, Modifier.isPublic(m) || Modifier.isPrivate(m));
        }
        Constructor<?>[] constructors = EscrowLand.class.getDeclaredConstructors();
        d.holds("one constructor, public, that takes nothing", constructors.length == 1
            && constructors[0].getParameterCount() == 0 && Modifier.isPublic(constructors[0].getModifiers()));
    }

    private static void classesInsideAreSmall() {
        Class<?>[] inside = EscrowLand.class.getDeclaredClasses();
        d.holds("at most twelve classes", inside.length + 1 <= 12);
        for (Class<?> one : inside) {
            d.holds("static: " + one, Modifier.isStatic(one.getModifiers()));
            int fields = 0;
            for (Field field : one.getDeclaredFields()) {
                boolean constant = Modifier.isStatic(field.getModifiers());
                d.holds("final, if static: " + field, !constant || Modifier.isFinal(field.getModifiers()));
                fields += constant ? 0 : 1;
            }
            d.holds("at most twenty fields: " + one, fields <= 20);
            for (Method method : one.getDeclaredMethods()) {
                d.holds("at most seven parameters: " + method, method.getParameterCount() <= 7);
            }
        }
    }

    private static void sourceKeepsToTheLanguage() throws IOException {
        String source = Files.readString(SOURCE, StandardCharsets.UTF_8);
        String code = source.replaceAll("(?s)/\\*.*?\\*/", "").replaceAll("//[^\n]*", "");
        for (String word : new String[] {"import", "package", "throw", "throws", "try", "catch", "finally",
            "synchronized", "assert", "protected", "double", "float", "native", "volatile", "transient"}) {
            d.holds("no " + word, !Pattern.compile("\\b" + word + "\\b").matcher(code).find());
        }
        for (String sign : new String[] {"->", "::", "@", "Exact", "\""}) {
            d.holds("no " + sign, !code.contains(sign));
        }
        d.holds("no sign beyond 127", source.chars().allMatch(c -> c < 128));
        methodsAreShort(code);
    }

    /** A method begins at a line that ends with an opening brace behind a parenthesis, and ends at its indent. */
    private static void methodsAreShort(String code) {
        String[] lines = code.split("\n");
        Pattern head = Pattern.compile("^( {4}| {8})(?:public |private |static )*[\\w\\[\\]]+ ?\\w*\\(.*\\) \\{$");
        int methods = 0;
        for (int i = 0; i < lines.length; i++) {
            Matcher begins = head.matcher(lines[i]);
            if (begins.matches() && !lines[i].trim().matches("(if|for|while|switch) .*")) {
                methods++;
                int end = i;
                while (end < lines.length && !lines[end].equals(begins.group(1) + "}")) {
                    end++;
                }
                d.holds("at most sixty lines: " + lines[i].trim(), end - i < 60);
            }
        }
        d.holds("methods were found: " + methods, methods > 100);
    }

    /** All calls of a run share one room: only the constructors may take of it. */
    private static void callsMakeNothing() {
        com.sun.management.ThreadMXBean threads =
            (com.sun.management.ThreadMXBean) ManagementFactory.getThreadMXBean();
        long self = Thread.currentThread().getId();
        threads.getThreadAllocatedBytes(self);
        manyCalls(new EscrowLand());
        long before = threads.getThreadAllocatedBytes(self);
        EscrowLand land = new EscrowLand();
        long made = threads.getThreadAllocatedBytes(self);
        manyCalls(land);
        long behind = threads.getThreadAllocatedBytes(self);
        d.holds("a new object takes at most 8 KiB: " + (made - before), made - before <= 8192);
        d.holds("calls make next to nothing: " + (behind - made), behind - made <= 512);
    }

    private static long manyCalls(EscrowLand x) {
        String text = "e2,3;p10,2,4,0;p20,3,2,1;p30,5,1,0;p40,2,1,1;w50,4,1,0;g7,2,3,1;";
        long sum = Due.read(x, text);
        for (int i = 0; i < 8; i++) {
            sum += x.row(i, i % 3, 40) + x.set(i, 1, 7) + x.copy(i, 0, i, 1, 12);
            sum += x.days(3) + x.putBack(5) + x.send(i % 5, 4) + x.allow(i) + x.undo() + x.thing(0, i) + x.holds(i);
            sum += x.ahead(5, 60) + x.offAhead(60) + x.lost(1) + x.cheapest(5, 24, 1) + x.match(0) + x.gain(1);
            sum += x.seldom(4, 9) + x.round() + x.stealth(i, 0, 12) + x.who(5, i, 0, 12) + x.leastMay(60);
            sum += x.odds(5, 5, 9, 0) + x.store(60) + x.drawn(60, 77, 1) + x.image(i % 2) + x.restore(0);
            sum += x.kind(1) + x.as(1, 2) + x.ask(1, 1) + x.trace(0) + x.count(0) + x.status() + x.drop(i);
        }
        return sum + Due.read(x, text);
    }
}
