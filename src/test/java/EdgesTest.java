import java.nio.file.Files;
import java.nio.file.Path;
import java.util.LinkedHashSet;
import java.util.Set;

/** The document's edges, sentence by sentence; and whether each of its sentences has a test. */
public final class EdgesTest {
    // Headings of the interface, which name no case.
    private static final String HEADING = "Ahead of the calls [^:]*: ---- (places, ways, things|rings|texts|sheets|images)";

    public static void main(String[] args) throws Exception {
        TermsEdges.all();
        CountryEdges.all();
        RingsEdges.all();
        ClimbsEdges.all();
        FractionsEdges.all();
        TextEdges.all();
        SheetsEdges.all();
        ImagesEdges.all();
        sentences(Path.of("../shared/DOC.md"));
        Check.end(EdgesTest.class);
    }

    private static void sentences(Path document) throws Exception {
        if (!Files.isReadable(document)) {
            System.out.println("EdgesTest: " + document + " is not here, its sentences are not compared with the tests' names");
            return;
        }
        Set<String> told = sentencesOf(Files.readString(document));
        Check.due("sentences of the document: some", told.size() > 100 ? 1 : 0, 1);
        for (String sentence : told) {
            Check.due("answers asked for the sentence '" + sentence + "'", Edge.ASKED.getOrDefault(sentence, 0) > 0 ? 1 : 0, 1);
        }
        for (String sentence : Edge.ASKED.keySet()) {
            Check.due("the document says '" + sentence + "'", told.contains(sentence) ? 1 : 0, 1);
        }
    }

    // Of the first section, which tells the whole in short, only the number of calls counts.
    private static Set<String> sentencesOf(String document) {
        Set<String> all = new LinkedHashSet<>();
        for (String section : document.split("(?m)^## ")) {
            int promise = section.startsWith("Promise ") ? Integer.parseInt(section.substring(8, section.indexOf(':'))) : 0;
            if (promise == 0 && !section.startsWith("Terms") && !section.startsWith("What it is")) {
                continue;
            }
            for (String line : section.substring(section.indexOf('\n')).split("\n")) {
                String words = line.trim().replaceFirst("^```.*", "").replaceFirst("^`[^`]*`: ", "").replaceFirst("^\\d\\. ", "");
                for (String sentence : words.split("(?<=[^.])\\.\\s+(?=[A-Z-])|\\.$")) {
                    if (!sentence.isEmpty() && !sentence.matches(HEADING) && !sentence.startsWith("The best by the hour")) {
                        all.add(promise + ": " + sentence);
                    }
                }
            }
        }
        return all;
    }
}
